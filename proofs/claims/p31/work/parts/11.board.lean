/-! 11.board: by program (wip/p31/gen.py) -/
theorem dX0_set_0 : decode cX0_set 0 = .ok (.aload_n 0, 1) := by decide +kernel
theorem dX0_set_1 : decode cX0_set 1 = .ok (.getfield 9, 3) := by decide +kernel
theorem dX0_set_4 : decode cX0_set 4 = .ok (.iload_n 1, 1) := by decide +kernel
theorem dX0_set_5 : decode cX0_set 5 = .ok (.iconst 4, 1) := by decide +kernel
theorem dX0_set_6 : decode cX0_set 6 = .ok (.imul, 1) := by decide +kernel
theorem dX0_set_7 : decode cX0_set 7 = .ok (.iload_n 2, 1) := by decide +kernel
theorem dX0_set_8 : decode cX0_set 8 = .ok (.iadd, 1) := by decide +kernel
theorem dX0_set_9 : decode cX0_set 9 = .ok (.iload_n 3, 1) := by decide +kernel
theorem dX0_set_10 : decode cX0_set 10 = .ok (.invokestatic 47, 3) := by decide +kernel
theorem dX0_set_13 : decode cX0_set 13 = .ok (.return_, 1) := by decide +kernel
theorem dX0_addShape_0 : decode cX0_addShape 0 = .ok (.aload_n 0, 1) := by decide +kernel
theorem dX0_addShape_1 : decode cX0_addShape 1 = .ok (.iload_n 1, 1) := by decide +kernel
theorem dX0_addShape_2 : decode cX0_addShape 2 = .ok (.iconst 0, 1) := by decide +kernel
theorem dX0_addShape_3 : decode cX0_addShape 3 = .ok (.iload_n 2, 1) := by decide +kernel
theorem dX0_addShape_4 : decode cX0_addShape 4 = .ok (.invokevirtual 55, 3) := by decide +kernel
theorem dX0_addShape_7 : decode cX0_addShape 7 = .ok (.aload_n 0, 1) := by decide +kernel
theorem dX0_addShape_8 : decode cX0_addShape 8 = .ok (.iload_n 1, 1) := by decide +kernel
theorem dX0_addShape_9 : decode cX0_addShape 9 = .ok (.iconst 1, 1) := by decide +kernel
theorem dX0_addShape_10 : decode cX0_addShape 10 = .ok (.iload_n 3, 1) := by decide +kernel
theorem dX0_addShape_11 : decode cX0_addShape 11 = .ok (.invokevirtual 55, 3) := by decide +kernel
theorem dX0_addShape_14 : decode cX0_addShape 14 = .ok (.aload_n 0, 1) := by decide +kernel
theorem dX0_addShape_15 : decode cX0_addShape 15 = .ok (.iload_n 1, 1) := by decide +kernel
theorem dX0_addShape_16 : decode cX0_addShape 16 = .ok (.iconst 2, 1) := by decide +kernel
theorem dX0_addShape_17 : decode cX0_addShape 17 = .ok (.iload 4, 2) := by decide +kernel
theorem dX0_addShape_19 : decode cX0_addShape 19 = .ok (.invokevirtual 55, 3) := by decide +kernel
theorem dX0_addShape_22 : decode cX0_addShape 22 = .ok (.aload_n 0, 1) := by decide +kernel
theorem dX0_addShape_23 : decode cX0_addShape 23 = .ok (.iload_n 1, 1) := by decide +kernel
theorem dX0_addShape_24 : decode cX0_addShape 24 = .ok (.iconst 3, 1) := by decide +kernel
theorem dX0_addShape_25 : decode cX0_addShape 25 = .ok (.iload 5, 2) := by decide +kernel
theorem dX0_addShape_27 : decode cX0_addShape 27 = .ok (.invokevirtual 55, 3) := by decide +kernel
theorem dX0_addShape_30 : decode cX0_addShape 30 = .ok (.aload_n 0, 1) := by decide +kernel
theorem dX0_addShape_31 : decode cX0_addShape 31 = .ok (.dup, 1) := by decide +kernel
theorem dX0_addShape_32 : decode cX0_addShape 32 = .ok (.getfield 18, 3) := by decide +kernel
theorem dX0_addShape_35 : decode cX0_addShape 35 = .ok (.iconst 1, 1) := by decide +kernel
theorem dX0_addShape_36 : decode cX0_addShape 36 = .ok (.iload_n 1, 1) := by decide +kernel
theorem dX0_addShape_37 : decode cX0_addShape 37 = .ok (.ishl, 1) := by decide +kernel
theorem dX0_addShape_38 : decode cX0_addShape 38 = .ok (.ior, 1) := by decide +kernel
theorem dX0_addShape_39 : decode cX0_addShape 39 = .ok (.putfield 18, 3) := by decide +kernel
theorem dX0_addShape_42 : decode cX0_addShape 42 = .ok (.iconst 1, 1) := by decide +kernel
theorem dX0_addShape_43 : decode cX0_addShape 43 = .ok (.ireturn, 1) := by decide +kernel
theorem dX0_numberOf_0 : decode cX0_numberOf 0 = .ok (.aload_n 0, 1) := by decide +kernel
theorem dX0_numberOf_1 : decode cX0_numberOf 1 = .ok (.getfield 9, 3) := by decide +kernel
theorem dX0_numberOf_4 : decode cX0_numberOf 4 = .ok (.iload_n 1, 1) := by decide +kernel
theorem dX0_numberOf_5 : decode cX0_numberOf 5 = .ok (.iconst 4, 1) := by decide +kernel
theorem dX0_numberOf_6 : decode cX0_numberOf 6 = .ok (.imul, 1) := by decide +kernel
theorem dX0_numberOf_7 : decode cX0_numberOf 7 = .ok (.iload_n 2, 1) := by decide +kernel
theorem dX0_numberOf_8 : decode cX0_numberOf 8 = .ok (.iadd, 1) := by decide +kernel
theorem dX0_numberOf_9 : decode cX0_numberOf 9 = .ok (.invokestatic 43, 3) := by decide +kernel
theorem dX0_numberOf_12 : decode cX0_numberOf 12 = .ok (.ireturn, 1) := by decide +kernel
theorem dX0_areInRange_0 : decode cX0_areInRange 0 = .ok (.iconst 0, 1) := by decide +kernel
theorem dX0_areInRange_1 : decode cX0_areInRange 1 = .ok (.istore_n 2, 1) := by decide +kernel
theorem dX0_areInRange_2 : decode cX0_areInRange 2 = .ok (.iload_n 2, 1) := by decide +kernel
theorem dX0_areInRange_3 : decode cX0_areInRange 3 = .ok (.bipush 10, 2) := by decide +kernel
theorem dX0_areInRange_5 : decode cX0_areInRange 5 = .ok (.if_icmp .ge 36, 3) := by decide +kernel
theorem dX0_areInRange_8 : decode cX0_areInRange 8 = .ok (.aload_n 0, 1) := by decide +kernel
theorem dX0_areInRange_9 : decode cX0_areInRange 9 = .ok (.getfield 18, 3) := by decide +kernel
theorem dX0_areInRange_12 : decode cX0_areInRange 12 = .ok (.i2l, 1) := by decide +kernel
theorem dX0_areInRange_13 : decode cX0_areInRange 13 = .ok (.iload_n 2, 1) := by decide +kernel
theorem dX0_areInRange_14 : decode cX0_areInRange 14 = .ok (.invokestatic 59, 3) := by decide +kernel
theorem dX0_areInRange_17 : decode cX0_areInRange 17 = .ok (.ifCond .eq 18, 3) := by decide +kernel
theorem dX0_areInRange_20 : decode cX0_areInRange 20 = .ok (.aload_n 0, 1) := by decide +kernel
theorem dX0_areInRange_21 : decode cX0_areInRange 21 = .ok (.iload_n 2, 1) := by decide +kernel
theorem dX0_areInRange_22 : decode cX0_areInRange 22 = .ok (.iload_n 1, 1) := by decide +kernel
theorem dX0_areInRange_23 : decode cX0_areInRange 23 = .ok (.invokevirtual 51, 3) := by decide +kernel
theorem dX0_areInRange_26 : decode cX0_areInRange 26 = .ok (.iload_n 1, 1) := by decide +kernel
theorem dX0_areInRange_27 : decode cX0_areInRange 27 = .ok (.invokestatic 101, 3) := by decide +kernel
theorem dX0_areInRange_30 : decode cX0_areInRange 30 = .ok (.ifCond .ne 5, 3) := by decide +kernel
theorem dX0_areInRange_33 : decode cX0_areInRange 33 = .ok (.iconst 0, 1) := by decide +kernel
theorem dX0_areInRange_34 : decode cX0_areInRange 34 = .ok (.ireturn, 1) := by decide +kernel
theorem dX0_areInRange_35 : decode cX0_areInRange 35 = .ok (.iinc 2 1, 3) := by decide +kernel
theorem dX0_areInRange_38 : decode cX0_areInRange 38 = .ok (.goto (-36), 3) := by decide +kernel
theorem dX0_areInRange_41 : decode cX0_areInRange 41 = .ok (.iconst 1, 1) := by decide +kernel
theorem dX0_areInRange_42 : decode cX0_areInRange 42 = .ok (.ireturn, 1) := by decide +kernel
theorem dX0_clear_0 : decode cX0_clear 0 = .ok (.aload_n 0, 1) := by decide +kernel
theorem dX0_clear_1 : decode cX0_clear 1 = .ok (.iconst 0, 1) := by decide +kernel
theorem dX0_clear_2 : decode cX0_clear 2 = .ok (.putfield 18, 3) := by decide +kernel
theorem dX0_clear_5 : decode cX0_clear 5 = .ok (.aload_n 0, 1) := by decide +kernel
theorem dX0_clear_6 : decode cX0_clear 6 = .ok (.iconst 0, 1) := by decide +kernel
theorem dX0_clear_7 : decode cX0_clear 7 = .ok (.putfield 22, 3) := by decide +kernel
theorem dX0_clear_10 : decode cX0_clear 10 = .ok (.return_, 1) := by decide +kernel
theorem dX0_copyFrom_0 : decode cX0_copyFrom 0 = .ok (.aload_n 1, 1) := by decide +kernel
theorem dX0_copyFrom_1 : decode cX0_copyFrom 1 = .ok (.getfield 9, 3) := by decide +kernel
theorem dX0_copyFrom_4 : decode cX0_copyFrom 4 = .ok (.iconst 0, 1) := by decide +kernel
theorem dX0_copyFrom_5 : decode cX0_copyFrom 5 = .ok (.aload_n 0, 1) := by decide +kernel
theorem dX0_copyFrom_6 : decode cX0_copyFrom 6 = .ok (.getfield 9, 3) := by decide +kernel
theorem dX0_copyFrom_9 : decode cX0_copyFrom 9 = .ok (.iconst 0, 1) := by decide +kernel
theorem dX0_copyFrom_10 : decode cX0_copyFrom 10 = .ok (.bipush 40, 2) := by decide +kernel
theorem dX0_copyFrom_12 : decode cX0_copyFrom 12 = .ok (.invokestatic 37, 3) := by decide +kernel
theorem dX0_copyFrom_15 : decode cX0_copyFrom 15 = .ok (.aload_n 1, 1) := by decide +kernel
theorem dX0_copyFrom_16 : decode cX0_copyFrom 16 = .ok (.getfield 15, 3) := by decide +kernel
theorem dX0_copyFrom_19 : decode cX0_copyFrom 19 = .ok (.iconst 0, 1) := by decide +kernel
theorem dX0_copyFrom_20 : decode cX0_copyFrom 20 = .ok (.aload_n 0, 1) := by decide +kernel
theorem dX0_copyFrom_21 : decode cX0_copyFrom 21 = .ok (.getfield 15, 3) := by decide +kernel
theorem dX0_copyFrom_24 : decode cX0_copyFrom 24 = .ok (.iconst 0, 1) := by decide +kernel
theorem dX0_copyFrom_25 : decode cX0_copyFrom 25 = .ok (.bipush 24, 2) := by decide +kernel
theorem dX0_copyFrom_27 : decode cX0_copyFrom 27 = .ok (.invokestatic 37, 3) := by decide +kernel
theorem dX0_copyFrom_30 : decode cX0_copyFrom 30 = .ok (.aload_n 0, 1) := by decide +kernel
theorem dX0_copyFrom_31 : decode cX0_copyFrom 31 = .ok (.aload_n 1, 1) := by decide +kernel
theorem dX0_copyFrom_32 : decode cX0_copyFrom 32 = .ok (.getfield 18, 3) := by decide +kernel
theorem dX0_copyFrom_35 : decode cX0_copyFrom 35 = .ok (.putfield 18, 3) := by decide +kernel
theorem dX0_copyFrom_38 : decode cX0_copyFrom 38 = .ok (.aload_n 0, 1) := by decide +kernel
theorem dX0_copyFrom_39 : decode cX0_copyFrom 39 = .ok (.aload_n 1, 1) := by decide +kernel
theorem dX0_copyFrom_40 : decode cX0_copyFrom 40 = .ok (.getfield 22, 3) := by decide +kernel
theorem dX0_copyFrom_43 : decode cX0_copyFrom 43 = .ok (.putfield 22, 3) := by decide +kernel
theorem dX0_copyFrom_46 : decode cX0_copyFrom 46 = .ok (.return_, 1) := by decide +kernel
theorem dX0_differsAt_0 : decode cX0_differsAt 0 = .ok (.iconst 0, 1) := by decide +kernel
theorem dX0_differsAt_1 : decode cX0_differsAt 1 = .ok (.istore_n 3, 1) := by decide +kernel
theorem dX0_differsAt_2 : decode cX0_differsAt 2 = .ok (.iload_n 3, 1) := by decide +kernel
theorem dX0_differsAt_3 : decode cX0_differsAt 3 = .ok (.iconst 4, 1) := by decide +kernel
theorem dX0_differsAt_4 : decode cX0_differsAt 4 = .ok (.if_icmp .ge 26, 3) := by decide +kernel
theorem dX0_differsAt_7 : decode cX0_differsAt 7 = .ok (.aload_n 0, 1) := by decide +kernel
theorem dX0_differsAt_8 : decode cX0_differsAt 8 = .ok (.iload_n 1, 1) := by decide +kernel
theorem dX0_differsAt_9 : decode cX0_differsAt 9 = .ok (.iload_n 3, 1) := by decide +kernel
theorem dX0_differsAt_10 : decode cX0_differsAt 10 = .ok (.invokevirtual 51, 3) := by decide +kernel
theorem dX0_differsAt_13 : decode cX0_differsAt 13 = .ok (.aload_n 2, 1) := by decide +kernel
theorem dX0_differsAt_14 : decode cX0_differsAt 14 = .ok (.iload_n 1, 1) := by decide +kernel
theorem dX0_differsAt_15 : decode cX0_differsAt 15 = .ok (.iload_n 3, 1) := by decide +kernel
theorem dX0_differsAt_16 : decode cX0_differsAt 16 = .ok (.invokevirtual 51, 3) := by decide +kernel
theorem dX0_differsAt_19 : decode cX0_differsAt 19 = .ok (.if_icmp .eq 5, 3) := by decide +kernel
theorem dX0_differsAt_22 : decode cX0_differsAt 22 = .ok (.iconst 1, 1) := by decide +kernel
theorem dX0_differsAt_23 : decode cX0_differsAt 23 = .ok (.ireturn, 1) := by decide +kernel
theorem dX0_differsAt_24 : decode cX0_differsAt 24 = .ok (.iinc 3 1, 3) := by decide +kernel
theorem dX0_differsAt_27 : decode cX0_differsAt 27 = .ok (.goto (-25), 3) := by decide +kernel
theorem dX0_differsAt_30 : decode cX0_differsAt 30 = .ok (.iconst 0, 1) := by decide +kernel
theorem dX0_differsAt_31 : decode cX0_differsAt 31 = .ok (.ireturn, 1) := by decide +kernel
theorem dX0_dropRule_0 : decode cX0_dropRule 0 = .ok (.aload_n 0, 1) := by decide +kernel
theorem dX0_dropRule_1 : decode cX0_dropRule 1 = .ok (.getfield 22, 3) := by decide +kernel
theorem dX0_dropRule_4 : decode cX0_dropRule 4 = .ok (.i2l, 1) := by decide +kernel
theorem dX0_dropRule_5 : decode cX0_dropRule 5 = .ok (.iload_n 1, 1) := by decide +kernel
theorem dX0_dropRule_6 : decode cX0_dropRule 6 = .ok (.invokestatic 59, 3) := by decide +kernel
theorem dX0_dropRule_9 : decode cX0_dropRule 9 = .ok (.istore_n 2, 1) := by decide +kernel
theorem dX0_dropRule_10 : decode cX0_dropRule 10 = .ok (.aload_n 0, 1) := by decide +kernel
theorem dX0_dropRule_11 : decode cX0_dropRule 11 = .ok (.dup, 1) := by decide +kernel
theorem dX0_dropRule_12 : decode cX0_dropRule 12 = .ok (.getfield 22, 3) := by decide +kernel
theorem dX0_dropRule_15 : decode cX0_dropRule 15 = .ok (.iconst 1, 1) := by decide +kernel
theorem dX0_dropRule_16 : decode cX0_dropRule 16 = .ok (.iload_n 1, 1) := by decide +kernel
theorem dX0_dropRule_17 : decode cX0_dropRule 17 = .ok (.ishl, 1) := by decide +kernel
theorem dX0_dropRule_18 : decode cX0_dropRule 18 = .ok (.iconst (-1), 1) := by decide +kernel
theorem dX0_dropRule_19 : decode cX0_dropRule 19 = .ok (.ixor, 1) := by decide +kernel
theorem dX0_dropRule_20 : decode cX0_dropRule 20 = .ok (.iand, 1) := by decide +kernel
theorem dX0_dropRule_21 : decode cX0_dropRule 21 = .ok (.putfield 22, 3) := by decide +kernel
theorem dX0_dropRule_24 : decode cX0_dropRule 24 = .ok (.iload_n 2, 1) := by decide +kernel
theorem dX0_dropRule_25 : decode cX0_dropRule 25 = .ok (.ireturn, 1) := by decide +kernel
theorem dX0_gapOf_0 : decode cX0_gapOf 0 = .ok (.aload_n 0, 1) := by decide +kernel
theorem dX0_gapOf_1 : decode cX0_gapOf 1 = .ok (.getfield 29, 3) := by decide +kernel
theorem dX0_gapOf_4 : decode cX0_gapOf 4 = .ok (.getfield 74, 3) := by decide +kernel
theorem dX0_gapOf_7 : decode cX0_gapOf 7 = .ok (.iload_n 1, 1) := by decide +kernel
theorem dX0_gapOf_8 : decode cX0_gapOf 8 = .ok (.invokestatic 43, 3) := by decide +kernel
theorem dX0_gapOf_11 : decode cX0_gapOf 11 = .ok (.tableswitch 71 2 6 #[33, 71, 33, 71, 58], 33) := by decide +kernel
theorem dX0_gapOf_44 : decode cX0_gapOf 44 = .ok (.aload_n 0, 1) := by decide +kernel
theorem dX0_gapOf_45 : decode cX0_gapOf 45 = .ok (.getfield 9, 3) := by decide +kernel
theorem dX0_gapOf_48 : decode cX0_gapOf 48 = .ok (.aload_n 0, 1) := by decide +kernel
theorem dX0_gapOf_49 : decode cX0_gapOf 49 = .ok (.getfield 29, 3) := by decide +kernel
theorem dX0_gapOf_52 : decode cX0_gapOf 52 = .ok (.getfield 79, 3) := by decide +kernel
theorem dX0_gapOf_55 : decode cX0_gapOf 55 = .ok (.iload_n 1, 1) := by decide +kernel
theorem dX0_gapOf_56 : decode cX0_gapOf 56 = .ok (.invokestatic 43, 3) := by decide +kernel
theorem dX0_gapOf_59 : decode cX0_gapOf 59 = .ok (.iconst 4, 1) := by decide +kernel
theorem dX0_gapOf_60 : decode cX0_gapOf 60 = .ok (.imul, 1) := by decide +kernel
theorem dX0_gapOf_61 : decode cX0_gapOf 61 = .ok (.iload_n 2, 1) := by decide +kernel
theorem dX0_gapOf_62 : decode cX0_gapOf 62 = .ok (.iadd, 1) := by decide +kernel
theorem dX0_gapOf_63 : decode cX0_gapOf 63 = .ok (.iconst 2, 1) := by decide +kernel
theorem dX0_gapOf_64 : decode cX0_gapOf 64 = .ok (.iadd, 1) := by decide +kernel
theorem dX0_gapOf_65 : decode cX0_gapOf 65 = .ok (.invokestatic 43, 3) := by decide +kernel
theorem dX0_gapOf_68 : decode cX0_gapOf 68 = .ok (.ireturn, 1) := by decide +kernel
theorem dX0_gapOf_69 : decode cX0_gapOf 69 = .ok (.aload_n 0, 1) := by decide +kernel
theorem dX0_gapOf_70 : decode cX0_gapOf 70 = .ok (.getfield 15, 3) := by decide +kernel
theorem dX0_gapOf_73 : decode cX0_gapOf 73 = .ok (.iload_n 1, 1) := by decide +kernel
theorem dX0_gapOf_74 : decode cX0_gapOf 74 = .ok (.iconst 2, 1) := by decide +kernel
theorem dX0_gapOf_75 : decode cX0_gapOf 75 = .ok (.imul, 1) := by decide +kernel
theorem dX0_gapOf_76 : decode cX0_gapOf 76 = .ok (.iload_n 2, 1) := by decide +kernel
theorem dX0_gapOf_77 : decode cX0_gapOf 77 = .ok (.iadd, 1) := by decide +kernel
theorem dX0_gapOf_78 : decode cX0_gapOf 78 = .ok (.invokestatic 43, 3) := by decide +kernel
theorem dX0_gapOf_81 : decode cX0_gapOf 81 = .ok (.ireturn, 1) := by decide +kernel
theorem dX0_gapOf_82 : decode cX0_gapOf 82 = .ok (.iconst 0, 1) := by decide +kernel
theorem dX0_gapOf_83 : decode cX0_gapOf 83 = .ok (.ireturn, 1) := by decide +kernel
theorem dX0_fits_0 : decode cX0_fits 0 = .ok (.aload_n 0, 1) := by decide +kernel
theorem dX0_fits_1 : decode cX0_fits 1 = .ok (.getfield 29, 3) := by decide +kernel
theorem dX0_fits_4 : decode cX0_fits 4 = .ok (.getfield 79, 3) := by decide +kernel
theorem dX0_fits_7 : decode cX0_fits 7 = .ok (.iload_n 1, 1) := by decide +kernel
theorem dX0_fits_8 : decode cX0_fits 8 = .ok (.invokestatic 43, 3) := by decide +kernel
theorem dX0_fits_11 : decode cX0_fits 11 = .ok (.istore_n 2, 1) := by decide +kernel
theorem dX0_fits_12 : decode cX0_fits 12 = .ok (.aload_n 0, 1) := by decide +kernel
theorem dX0_fits_13 : decode cX0_fits 13 = .ok (.getfield 29, 3) := by decide +kernel
theorem dX0_fits_16 : decode cX0_fits 16 = .ok (.getfield 82, 3) := by decide +kernel
theorem dX0_fits_19 : decode cX0_fits 19 = .ok (.iload_n 1, 1) := by decide +kernel
theorem dX0_fits_20 : decode cX0_fits 20 = .ok (.invokestatic 43, 3) := by decide +kernel
theorem dX0_fits_23 : decode cX0_fits 23 = .ok (.istore_n 3, 1) := by decide +kernel
theorem dX0_fits_24 : decode cX0_fits 24 = .ok (.iconst 0, 1) := by decide +kernel
theorem dX0_fits_25 : decode cX0_fits 25 = .ok (.istore 4, 2) := by decide +kernel
theorem dX0_fits_27 : decode cX0_fits 27 = .ok (.iload 4, 2) := by decide +kernel
theorem dX0_fits_29 : decode cX0_fits 29 = .ok (.iconst 4, 1) := by decide +kernel
theorem dX0_fits_30 : decode cX0_fits 30 = .ok (.if_icmp .ge 55, 3) := by decide +kernel
theorem dX0_fits_33 : decode cX0_fits 33 = .ok (.aload_n 0, 1) := by decide +kernel
theorem dX0_fits_34 : decode cX0_fits 34 = .ok (.getfield 29, 3) := by decide +kernel
theorem dX0_fits_37 : decode cX0_fits 37 = .ok (.getfield 74, 3) := by decide +kernel
theorem dX0_fits_40 : decode cX0_fits 40 = .ok (.iload_n 1, 1) := by decide +kernel
theorem dX0_fits_41 : decode cX0_fits 41 = .ok (.invokestatic 43, 3) := by decide +kernel
theorem dX0_fits_44 : decode cX0_fits 44 = .ok (.iload 4, 2) := by decide +kernel
theorem dX0_fits_46 : decode cX0_fits 46 = .ok (.invokestatic 85, 3) := by decide +kernel
theorem dX0_fits_49 : decode cX0_fits 49 = .ok (.ifCond .eq 30, 3) := by decide +kernel
theorem dX0_fits_52 : decode cX0_fits 52 = .ok (.aload_n 0, 1) := by decide +kernel
theorem dX0_fits_53 : decode cX0_fits 53 = .ok (.iload_n 3, 1) := by decide +kernel
theorem dX0_fits_54 : decode cX0_fits 54 = .ok (.iload 4, 2) := by decide +kernel
theorem dX0_fits_56 : decode cX0_fits 56 = .ok (.invokevirtual 51, 3) := by decide +kernel
theorem dX0_fits_59 : decode cX0_fits 59 = .ok (.aload_n 0, 1) := by decide +kernel
theorem dX0_fits_60 : decode cX0_fits 60 = .ok (.iload_n 2, 1) := by decide +kernel
theorem dX0_fits_61 : decode cX0_fits 61 = .ok (.iload 4, 2) := by decide +kernel
theorem dX0_fits_63 : decode cX0_fits 63 = .ok (.invokevirtual 51, 3) := by decide +kernel
theorem dX0_fits_66 : decode cX0_fits 66 = .ok (.isub, 1) := by decide +kernel
theorem dX0_fits_67 : decode cX0_fits 67 = .ok (.aload_n 0, 1) := by decide +kernel
theorem dX0_fits_68 : decode cX0_fits 68 = .ok (.iload_n 1, 1) := by decide +kernel
theorem dX0_fits_69 : decode cX0_fits 69 = .ok (.iload 4, 2) := by decide +kernel
theorem dX0_fits_71 : decode cX0_fits 71 = .ok (.invokevirtual 89, 3) := by decide +kernel
theorem dX0_fits_74 : decode cX0_fits 74 = .ok (.if_icmp .eq 5, 3) := by decide +kernel
theorem dX0_fits_77 : decode cX0_fits 77 = .ok (.iconst 0, 1) := by decide +kernel
theorem dX0_fits_78 : decode cX0_fits 78 = .ok (.ireturn, 1) := by decide +kernel
theorem dX0_fits_79 : decode cX0_fits 79 = .ok (.iinc 4 1, 3) := by decide +kernel
theorem dX0_fits_82 : decode cX0_fits 82 = .ok (.goto (-55), 3) := by decide +kernel
theorem dX0_fits_85 : decode cX0_fits 85 = .ok (.iconst 1, 1) := by decide +kernel
theorem dX0_fits_86 : decode cX0_fits 86 = .ok (.ireturn, 1) := by decide +kernel
theorem dX0_isLink_0 : decode cX0_isLink 0 = .ok (.aload_n 0, 1) := by decide +kernel
theorem dX0_isLink_1 : decode cX0_isLink 1 = .ok (.getfield 22, 3) := by decide +kernel
theorem dX0_isLink_4 : decode cX0_isLink 4 = .ok (.i2l, 1) := by decide +kernel
theorem dX0_isLink_5 : decode cX0_isLink 5 = .ok (.iload_n 1, 1) := by decide +kernel
theorem dX0_isLink_6 : decode cX0_isLink 6 = .ok (.invokestatic 59, 3) := by decide +kernel
theorem dX0_isLink_9 : decode cX0_isLink 9 = .ok (.ifCond .eq 25, 3) := by decide +kernel
theorem dX0_isLink_12 : decode cX0_isLink 12 = .ok (.aload_n 0, 1) := by decide +kernel
theorem dX0_isLink_13 : decode cX0_isLink 13 = .ok (.getfield 29, 3) := by decide +kernel
theorem dX0_isLink_16 : decode cX0_isLink 16 = .ok (.getfield 74, 3) := by decide +kernel
theorem dX0_isLink_19 : decode cX0_isLink 19 = .ok (.iload_n 1, 1) := by decide +kernel
theorem dX0_isLink_20 : decode cX0_isLink 20 = .ok (.invokestatic 43, 3) := by decide +kernel
theorem dX0_isLink_23 : decode cX0_isLink 23 = .ok (.iload_n 2, 1) := by decide +kernel
theorem dX0_isLink_24 : decode cX0_isLink 24 = .ok (.invokestatic 85, 3) := by decide +kernel
theorem dX0_isLink_27 : decode cX0_isLink 27 = .ok (.ifCond .eq 7, 3) := by decide +kernel
theorem dX0_isLink_30 : decode cX0_isLink 30 = .ok (.iconst 1, 1) := by decide +kernel
theorem dX0_isLink_31 : decode cX0_isLink 31 = .ok (.goto 4, 3) := by decide +kernel
theorem dX0_isLink_34 : decode cX0_isLink 34 = .ok (.iconst 0, 1) := by decide +kernel
theorem dX0_isLink_35 : decode cX0_isLink 35 = .ok (.ireturn, 1) := by decide +kernel
theorem dX0_groupOf_0 : decode cX0_groupOf 0 = .ok (.iconst 1, 1) := by decide +kernel
theorem dX0_groupOf_1 : decode cX0_groupOf 1 = .ok (.iload_n 1, 1) := by decide +kernel
theorem dX0_groupOf_2 : decode cX0_groupOf 2 = .ok (.ishl, 1) := by decide +kernel
theorem dX0_groupOf_3 : decode cX0_groupOf 3 = .ok (.istore_n 3, 1) := by decide +kernel
theorem dX0_groupOf_4 : decode cX0_groupOf 4 = .ok (.iconst 0, 1) := by decide +kernel
theorem dX0_groupOf_5 : decode cX0_groupOf 5 = .ok (.istore 4, 2) := by decide +kernel
theorem dX0_groupOf_7 : decode cX0_groupOf 7 = .ok (.iload 4, 2) := by decide +kernel
theorem dX0_groupOf_9 : decode cX0_groupOf 9 = .ok (.bipush 10, 2) := by decide +kernel
theorem dX0_groupOf_11 : decode cX0_groupOf 11 = .ok (.if_icmp .ge 90, 3) := by decide +kernel
theorem dX0_groupOf_14 : decode cX0_groupOf 14 = .ok (.iload_n 3, 1) := by decide +kernel
theorem dX0_groupOf_15 : decode cX0_groupOf 15 = .ok (.istore 5, 2) := by decide +kernel
theorem dX0_groupOf_17 : decode cX0_groupOf 17 = .ok (.iconst 0, 1) := by decide +kernel
theorem dX0_groupOf_18 : decode cX0_groupOf 18 = .ok (.istore 6, 2) := by decide +kernel
theorem dX0_groupOf_20 : decode cX0_groupOf 20 = .ok (.iload 6, 2) := by decide +kernel
theorem dX0_groupOf_22 : decode cX0_groupOf 22 = .ok (.bipush 12, 2) := by decide +kernel
theorem dX0_groupOf_24 : decode cX0_groupOf 24 = .ok (.if_icmp .ge 62, 3) := by decide +kernel
theorem dX0_groupOf_27 : decode cX0_groupOf 27 = .ok (.iconst 1, 1) := by decide +kernel
theorem dX0_groupOf_28 : decode cX0_groupOf 28 = .ok (.aload_n 0, 1) := by decide +kernel
theorem dX0_groupOf_29 : decode cX0_groupOf 29 = .ok (.getfield 29, 3) := by decide +kernel
theorem dX0_groupOf_32 : decode cX0_groupOf 32 = .ok (.getfield 79, 3) := by decide +kernel
theorem dX0_groupOf_35 : decode cX0_groupOf 35 = .ok (.iload 6, 2) := by decide +kernel
theorem dX0_groupOf_37 : decode cX0_groupOf 37 = .ok (.invokestatic 43, 3) := by decide +kernel
theorem dX0_groupOf_40 : decode cX0_groupOf 40 = .ok (.ishl, 1) := by decide +kernel
theorem dX0_groupOf_41 : decode cX0_groupOf 41 = .ok (.iconst 1, 1) := by decide +kernel
theorem dX0_groupOf_42 : decode cX0_groupOf 42 = .ok (.aload_n 0, 1) := by decide +kernel
theorem dX0_groupOf_43 : decode cX0_groupOf 43 = .ok (.getfield 29, 3) := by decide +kernel
theorem dX0_groupOf_46 : decode cX0_groupOf 46 = .ok (.getfield 82, 3) := by decide +kernel
theorem dX0_groupOf_49 : decode cX0_groupOf 49 = .ok (.iload 6, 2) := by decide +kernel
theorem dX0_groupOf_51 : decode cX0_groupOf 51 = .ok (.invokestatic 43, 3) := by decide +kernel
theorem dX0_groupOf_54 : decode cX0_groupOf 54 = .ok (.ishl, 1) := by decide +kernel
theorem dX0_groupOf_55 : decode cX0_groupOf 55 = .ok (.ior, 1) := by decide +kernel
theorem dX0_groupOf_56 : decode cX0_groupOf 56 = .ok (.istore 7, 2) := by decide +kernel
theorem dX0_groupOf_58 : decode cX0_groupOf 58 = .ok (.iload_n 3, 1) := by decide +kernel
theorem dX0_groupOf_59 : decode cX0_groupOf 59 = .ok (.iload 7, 2) := by decide +kernel
theorem dX0_groupOf_61 : decode cX0_groupOf 61 = .ok (.iand, 1) := by decide +kernel
theorem dX0_groupOf_62 : decode cX0_groupOf 62 = .ok (.ifCond .eq 18, 3) := by decide +kernel
theorem dX0_groupOf_65 : decode cX0_groupOf 65 = .ok (.aload_n 0, 1) := by decide +kernel
theorem dX0_groupOf_66 : decode cX0_groupOf 66 = .ok (.iload 6, 2) := by decide +kernel
theorem dX0_groupOf_68 : decode cX0_groupOf 68 = .ok (.iload_n 2, 1) := by decide +kernel
theorem dX0_groupOf_69 : decode cX0_groupOf 69 = .ok (.invokevirtual 92, 3) := by decide +kernel
theorem dX0_groupOf_72 : decode cX0_groupOf 72 = .ok (.ifCond .eq 8, 3) := by decide +kernel
theorem dX0_groupOf_75 : decode cX0_groupOf 75 = .ok (.iload_n 3, 1) := by decide +kernel
theorem dX0_groupOf_76 : decode cX0_groupOf 76 = .ok (.iload 7, 2) := by decide +kernel
theorem dX0_groupOf_78 : decode cX0_groupOf 78 = .ok (.ior, 1) := by decide +kernel
theorem dX0_groupOf_79 : decode cX0_groupOf 79 = .ok (.istore_n 3, 1) := by decide +kernel
theorem dX0_groupOf_80 : decode cX0_groupOf 80 = .ok (.iinc 6 1, 3) := by decide +kernel
theorem dX0_groupOf_83 : decode cX0_groupOf 83 = .ok (.goto (-63), 3) := by decide +kernel
theorem dX0_groupOf_86 : decode cX0_groupOf 86 = .ok (.iload_n 3, 1) := by decide +kernel
theorem dX0_groupOf_87 : decode cX0_groupOf 87 = .ok (.iload 5, 2) := by decide +kernel
theorem dX0_groupOf_89 : decode cX0_groupOf 89 = .ok (.if_icmp .ne 6, 3) := by decide +kernel
theorem dX0_groupOf_92 : decode cX0_groupOf 92 = .ok (.goto 9, 3) := by decide +kernel
theorem dX0_groupOf_95 : decode cX0_groupOf 95 = .ok (.iinc 4 1, 3) := by decide +kernel
theorem dX0_groupOf_98 : decode cX0_groupOf 98 = .ok (.goto (-91), 3) := by decide +kernel
theorem dX0_groupOf_101 : decode cX0_groupOf 101 = .ok (.iload_n 3, 1) := by decide +kernel
theorem dX0_groupOf_102 : decode cX0_groupOf 102 = .ok (.ireturn, 1) := by decide +kernel
theorem dX0_tellByWalk_0 : decode cX0_tellByWalk 0 = .ok (.iload_n 1, 1) := by decide +kernel
theorem dX0_tellByWalk_1 : decode cX0_tellByWalk 1 = .ok (.istore_n 3, 1) := by decide +kernel
theorem dX0_tellByWalk_2 : decode cX0_tellByWalk 2 = .ok (.iload_n 1, 1) := by decide +kernel
theorem dX0_tellByWalk_3 : decode cX0_tellByWalk 3 = .ok (.istore 4, 2) := by decide +kernel
theorem dX0_tellByWalk_5 : decode cX0_tellByWalk 5 = .ok (.iconst 0, 1) := by decide +kernel
theorem dX0_tellByWalk_6 : decode cX0_tellByWalk 6 = .ok (.istore 5, 2) := by decide +kernel
theorem dX0_tellByWalk_8 : decode cX0_tellByWalk 8 = .ok (.iload 5, 2) := by decide +kernel
theorem dX0_tellByWalk_10 : decode cX0_tellByWalk 10 = .ok (.bipush 10, 2) := by decide +kernel
theorem dX0_tellByWalk_12 : decode cX0_tellByWalk 12 = .ok (.if_icmp .ge 248, 3) := by decide +kernel
theorem dX0_tellByWalk_15 : decode cX0_tellByWalk 15 = .ok (.iload 4, 2) := by decide +kernel
theorem dX0_tellByWalk_17 : decode cX0_tellByWalk 17 = .ok (.ifCond .eq 243, 3) := by decide +kernel
theorem dX0_tellByWalk_20 : decode cX0_tellByWalk 20 = .ok (.iload 4, 2) := by decide +kernel
theorem dX0_tellByWalk_22 : decode cX0_tellByWalk 22 = .ok (.invokestatic 114, 3) := by decide +kernel
theorem dX0_tellByWalk_25 : decode cX0_tellByWalk 25 = .ok (.istore 6, 2) := by decide +kernel
theorem dX0_tellByWalk_27 : decode cX0_tellByWalk 27 = .ok (.iload 4, 2) := by decide +kernel
theorem dX0_tellByWalk_29 : decode cX0_tellByWalk 29 = .ok (.iconst 1, 1) := by decide +kernel
theorem dX0_tellByWalk_30 : decode cX0_tellByWalk 30 = .ok (.iload 6, 2) := by decide +kernel
theorem dX0_tellByWalk_32 : decode cX0_tellByWalk 32 = .ok (.ishl, 1) := by decide +kernel
theorem dX0_tellByWalk_33 : decode cX0_tellByWalk 33 = .ok (.iconst (-1), 1) := by decide +kernel
theorem dX0_tellByWalk_34 : decode cX0_tellByWalk 34 = .ok (.ixor, 1) := by decide +kernel
theorem dX0_tellByWalk_35 : decode cX0_tellByWalk 35 = .ok (.iand, 1) := by decide +kernel
theorem dX0_tellByWalk_36 : decode cX0_tellByWalk 36 = .ok (.istore 4, 2) := by decide +kernel
theorem dX0_tellByWalk_38 : decode cX0_tellByWalk 38 = .ok (.iconst 0, 1) := by decide +kernel
theorem dX0_tellByWalk_39 : decode cX0_tellByWalk 39 = .ok (.istore 7, 2) := by decide +kernel
theorem dX0_tellByWalk_41 : decode cX0_tellByWalk 41 = .ok (.iload 7, 2) := by decide +kernel
theorem dX0_tellByWalk_43 : decode cX0_tellByWalk 43 = .ok (.bipush 12, 2) := by decide +kernel
theorem dX0_tellByWalk_45 : decode cX0_tellByWalk 45 = .ok (.if_icmp .ge 209, 3) := by decide +kernel
theorem dX0_tellByWalk_48 : decode cX0_tellByWalk 48 = .ok (.aload_n 0, 1) := by decide +kernel
theorem dX0_tellByWalk_49 : decode cX0_tellByWalk 49 = .ok (.getfield 29, 3) := by decide +kernel
theorem dX0_tellByWalk_52 : decode cX0_tellByWalk 52 = .ok (.getfield 79, 3) := by decide +kernel
theorem dX0_tellByWalk_55 : decode cX0_tellByWalk 55 = .ok (.iload 7, 2) := by decide +kernel
theorem dX0_tellByWalk_57 : decode cX0_tellByWalk 57 = .ok (.invokestatic 43, 3) := by decide +kernel
theorem dX0_tellByWalk_60 : decode cX0_tellByWalk 60 = .ok (.iload 6, 2) := by decide +kernel
theorem dX0_tellByWalk_62 : decode cX0_tellByWalk 62 = .ok (.if_icmp .ne 7, 3) := by decide +kernel
theorem dX0_tellByWalk_65 : decode cX0_tellByWalk 65 = .ok (.iconst 1, 1) := by decide +kernel
theorem dX0_tellByWalk_66 : decode cX0_tellByWalk 66 = .ok (.goto 4, 3) := by decide +kernel
theorem dX0_tellByWalk_69 : decode cX0_tellByWalk 69 = .ok (.iconst 0, 1) := by decide +kernel
theorem dX0_tellByWalk_70 : decode cX0_tellByWalk 70 = .ok (.istore 8, 2) := by decide +kernel
theorem dX0_tellByWalk_72 : decode cX0_tellByWalk 72 = .ok (.aload_n 0, 1) := by decide +kernel
theorem dX0_tellByWalk_73 : decode cX0_tellByWalk 73 = .ok (.getfield 29, 3) := by decide +kernel
theorem dX0_tellByWalk_76 : decode cX0_tellByWalk 76 = .ok (.getfield 82, 3) := by decide +kernel
theorem dX0_tellByWalk_79 : decode cX0_tellByWalk 79 = .ok (.iload 7, 2) := by decide +kernel
theorem dX0_tellByWalk_81 : decode cX0_tellByWalk 81 = .ok (.invokestatic 43, 3) := by decide +kernel
theorem dX0_tellByWalk_84 : decode cX0_tellByWalk 84 = .ok (.iload 6, 2) := by decide +kernel
theorem dX0_tellByWalk_86 : decode cX0_tellByWalk 86 = .ok (.if_icmp .ne 7, 3) := by decide +kernel
theorem dX0_tellByWalk_89 : decode cX0_tellByWalk 89 = .ok (.iconst 1, 1) := by decide +kernel
theorem dX0_tellByWalk_90 : decode cX0_tellByWalk 90 = .ok (.goto 4, 3) := by decide +kernel
theorem dX0_tellByWalk_93 : decode cX0_tellByWalk 93 = .ok (.iconst 0, 1) := by decide +kernel
theorem dX0_tellByWalk_94 : decode cX0_tellByWalk 94 = .ok (.istore 9, 2) := by decide +kernel
theorem dX0_tellByWalk_96 : decode cX0_tellByWalk 96 = .ok (.iload 8, 2) := by decide +kernel
theorem dX0_tellByWalk_98 : decode cX0_tellByWalk 98 = .ok (.ifCond .ne 8, 3) := by decide +kernel
theorem dX0_tellByWalk_101 : decode cX0_tellByWalk 101 = .ok (.iload 9, 2) := by decide +kernel
theorem dX0_tellByWalk_103 : decode cX0_tellByWalk 103 = .ok (.ifCond .eq 145, 3) := by decide +kernel
theorem dX0_tellByWalk_106 : decode cX0_tellByWalk 106 = .ok (.aload_n 0, 1) := by decide +kernel
theorem dX0_tellByWalk_107 : decode cX0_tellByWalk 107 = .ok (.iload 7, 2) := by decide +kernel
theorem dX0_tellByWalk_109 : decode cX0_tellByWalk 109 = .ok (.iload_n 2, 1) := by decide +kernel
theorem dX0_tellByWalk_110 : decode cX0_tellByWalk 110 = .ok (.invokevirtual 92, 3) := by decide +kernel
theorem dX0_tellByWalk_113 : decode cX0_tellByWalk 113 = .ok (.ifCond .ne 6, 3) := by decide +kernel
theorem dX0_tellByWalk_116 : decode cX0_tellByWalk 116 = .ok (.goto 132, 3) := by decide +kernel
theorem dX0_tellByWalk_119 : decode cX0_tellByWalk 119 = .ok (.iload 8, 2) := by decide +kernel
theorem dX0_tellByWalk_121 : decode cX0_tellByWalk 121 = .ok (.ifCond .eq 18, 3) := by decide +kernel
theorem dX0_tellByWalk_124 : decode cX0_tellByWalk 124 = .ok (.aload_n 0, 1) := by decide +kernel
theorem dX0_tellByWalk_125 : decode cX0_tellByWalk 125 = .ok (.getfield 29, 3) := by decide +kernel
theorem dX0_tellByWalk_128 : decode cX0_tellByWalk 128 = .ok (.getfield 82, 3) := by decide +kernel
theorem dX0_tellByWalk_131 : decode cX0_tellByWalk 131 = .ok (.iload 7, 2) := by decide +kernel
theorem dX0_tellByWalk_133 : decode cX0_tellByWalk 133 = .ok (.invokestatic 43, 3) := by decide +kernel
theorem dX0_tellByWalk_136 : decode cX0_tellByWalk 136 = .ok (.goto 15, 3) := by decide +kernel
theorem dX0_tellByWalk_139 : decode cX0_tellByWalk 139 = .ok (.aload_n 0, 1) := by decide +kernel
theorem dX0_tellByWalk_140 : decode cX0_tellByWalk 140 = .ok (.getfield 29, 3) := by decide +kernel
theorem dX0_tellByWalk_143 : decode cX0_tellByWalk 143 = .ok (.getfield 79, 3) := by decide +kernel
theorem dX0_tellByWalk_146 : decode cX0_tellByWalk 146 = .ok (.iload 7, 2) := by decide +kernel
theorem dX0_tellByWalk_148 : decode cX0_tellByWalk 148 = .ok (.invokestatic 43, 3) := by decide +kernel
theorem dX0_tellByWalk_151 : decode cX0_tellByWalk 151 = .ok (.istore 10, 2) := by decide +kernel
theorem dX0_tellByWalk_153 : decode cX0_tellByWalk 153 = .ok (.aload_n 0, 1) := by decide +kernel
theorem dX0_tellByWalk_154 : decode cX0_tellByWalk 154 = .ok (.iload 7, 2) := by decide +kernel
theorem dX0_tellByWalk_156 : decode cX0_tellByWalk 156 = .ok (.iload_n 2, 1) := by decide +kernel
theorem dX0_tellByWalk_157 : decode cX0_tellByWalk 157 = .ok (.invokevirtual 89, 3) := by decide +kernel
theorem dX0_tellByWalk_160 : decode cX0_tellByWalk 160 = .ok (.istore 11, 2) := by decide +kernel
theorem dX0_tellByWalk_162 : decode cX0_tellByWalk 162 = .ok (.aload_n 0, 1) := by decide +kernel
theorem dX0_tellByWalk_163 : decode cX0_tellByWalk 163 = .ok (.iload 6, 2) := by decide +kernel
theorem dX0_tellByWalk_165 : decode cX0_tellByWalk 165 = .ok (.iload_n 2, 1) := by decide +kernel
theorem dX0_tellByWalk_166 : decode cX0_tellByWalk 166 = .ok (.invokevirtual 51, 3) := by decide +kernel
theorem dX0_tellByWalk_169 : decode cX0_tellByWalk 169 = .ok (.iload 8, 2) := by decide +kernel
theorem dX0_tellByWalk_171 : decode cX0_tellByWalk 171 = .ok (.ifCond .eq 8, 3) := by decide +kernel
theorem dX0_tellByWalk_174 : decode cX0_tellByWalk 174 = .ok (.iload 11, 2) := by decide +kernel
theorem dX0_tellByWalk_176 : decode cX0_tellByWalk 176 = .ok (.goto 6, 3) := by decide +kernel
theorem dX0_tellByWalk_179 : decode cX0_tellByWalk 179 = .ok (.iload 11, 2) := by decide +kernel
theorem dX0_tellByWalk_181 : decode cX0_tellByWalk 181 = .ok (.ineg, 1) := by decide +kernel
theorem dX0_tellByWalk_182 : decode cX0_tellByWalk 182 = .ok (.iadd, 1) := by decide +kernel
theorem dX0_tellByWalk_183 : decode cX0_tellByWalk 183 = .ok (.istore 12, 2) := by decide +kernel
theorem dX0_tellByWalk_185 : decode cX0_tellByWalk 185 = .ok (.iload_n 3, 1) := by decide +kernel
theorem dX0_tellByWalk_186 : decode cX0_tellByWalk 186 = .ok (.i2l, 1) := by decide +kernel
theorem dX0_tellByWalk_187 : decode cX0_tellByWalk 187 = .ok (.iload 10, 2) := by decide +kernel
theorem dX0_tellByWalk_189 : decode cX0_tellByWalk 189 = .ok (.invokestatic 59, 3) := by decide +kernel
theorem dX0_tellByWalk_192 : decode cX0_tellByWalk 192 = .ok (.ifCond .eq 17, 3) := by decide +kernel
theorem dX0_tellByWalk_195 : decode cX0_tellByWalk 195 = .ok (.aload_n 0, 1) := by decide +kernel
theorem dX0_tellByWalk_196 : decode cX0_tellByWalk 196 = .ok (.iload 10, 2) := by decide +kernel
theorem dX0_tellByWalk_198 : decode cX0_tellByWalk 198 = .ok (.iload_n 2, 1) := by decide +kernel
theorem dX0_tellByWalk_199 : decode cX0_tellByWalk 199 = .ok (.invokevirtual 51, 3) := by decide +kernel
theorem dX0_tellByWalk_202 : decode cX0_tellByWalk 202 = .ok (.iload 12, 2) := by decide +kernel
theorem dX0_tellByWalk_204 : decode cX0_tellByWalk 204 = .ok (.if_icmp .eq 5, 3) := by decide +kernel
theorem dX0_tellByWalk_207 : decode cX0_tellByWalk 207 = .ok (.iconst 0, 1) := by decide +kernel
theorem dX0_tellByWalk_208 : decode cX0_tellByWalk 208 = .ok (.ireturn, 1) := by decide +kernel
theorem dX0_tellByWalk_209 : decode cX0_tellByWalk 209 = .ok (.aload_n 0, 1) := by decide +kernel
theorem dX0_tellByWalk_210 : decode cX0_tellByWalk 210 = .ok (.iload 10, 2) := by decide +kernel
theorem dX0_tellByWalk_212 : decode cX0_tellByWalk 212 = .ok (.iload_n 2, 1) := by decide +kernel
theorem dX0_tellByWalk_213 : decode cX0_tellByWalk 213 = .ok (.iload 12, 2) := by decide +kernel
theorem dX0_tellByWalk_215 : decode cX0_tellByWalk 215 = .ok (.invokevirtual 55, 3) := by decide +kernel
theorem dX0_tellByWalk_218 : decode cX0_tellByWalk 218 = .ok (.iload 4, 2) := by decide +kernel
theorem dX0_tellByWalk_220 : decode cX0_tellByWalk 220 = .ok (.iload_n 3, 1) := by decide +kernel
theorem dX0_tellByWalk_221 : decode cX0_tellByWalk 221 = .ok (.i2l, 1) := by decide +kernel
theorem dX0_tellByWalk_222 : decode cX0_tellByWalk 222 = .ok (.iload 10, 2) := by decide +kernel
theorem dX0_tellByWalk_224 : decode cX0_tellByWalk 224 = .ok (.invokestatic 59, 3) := by decide +kernel
theorem dX0_tellByWalk_227 : decode cX0_tellByWalk 227 = .ok (.ifCond .eq 7, 3) := by decide +kernel
theorem dX0_tellByWalk_230 : decode cX0_tellByWalk 230 = .ok (.iconst 0, 1) := by decide +kernel
theorem dX0_tellByWalk_231 : decode cX0_tellByWalk 231 = .ok (.goto 7, 3) := by decide +kernel
theorem dX0_tellByWalk_234 : decode cX0_tellByWalk 234 = .ok (.iconst 1, 1) := by decide +kernel
theorem dX0_tellByWalk_235 : decode cX0_tellByWalk 235 = .ok (.iload 10, 2) := by decide +kernel
theorem dX0_tellByWalk_237 : decode cX0_tellByWalk 237 = .ok (.ishl, 1) := by decide +kernel
theorem dX0_tellByWalk_238 : decode cX0_tellByWalk 238 = .ok (.ior, 1) := by decide +kernel
theorem dX0_tellByWalk_239 : decode cX0_tellByWalk 239 = .ok (.istore 4, 2) := by decide +kernel
theorem dX0_tellByWalk_241 : decode cX0_tellByWalk 241 = .ok (.iload_n 3, 1) := by decide +kernel
theorem dX0_tellByWalk_242 : decode cX0_tellByWalk 242 = .ok (.iconst 1, 1) := by decide +kernel
theorem dX0_tellByWalk_243 : decode cX0_tellByWalk 243 = .ok (.iload 10, 2) := by decide +kernel
theorem dX0_tellByWalk_245 : decode cX0_tellByWalk 245 = .ok (.ishl, 1) := by decide +kernel
theorem dX0_tellByWalk_246 : decode cX0_tellByWalk 246 = .ok (.ior, 1) := by decide +kernel
theorem dX0_tellByWalk_247 : decode cX0_tellByWalk 247 = .ok (.istore_n 3, 1) := by decide +kernel
theorem dX0_tellByWalk_248 : decode cX0_tellByWalk 248 = .ok (.iinc 7 1, 3) := by decide +kernel
theorem dX0_tellByWalk_251 : decode cX0_tellByWalk 251 = .ok (.goto (-210), 3) := by decide +kernel
theorem dX0_tellByWalk_254 : decode cX0_tellByWalk 254 = .ok (.iinc 5 1, 3) := by decide +kernel
theorem dX0_tellByWalk_257 : decode cX0_tellByWalk 257 = .ok (.goto (-249), 3) := by decide +kernel
theorem dX0_tellByWalk_260 : decode cX0_tellByWalk 260 = .ok (.iconst 1, 1) := by decide +kernel
theorem dX0_tellByWalk_261 : decode cX0_tellByWalk 261 = .ok (.ireturn, 1) := by decide +kernel
theorem dX0_tellInRounds_0 : decode cX0_tellInRounds 0 = .ok (.iload_n 1, 1) := by decide +kernel
theorem dX0_tellInRounds_1 : decode cX0_tellInRounds 1 = .ok (.istore_n 3, 1) := by decide +kernel
theorem dX0_tellInRounds_2 : decode cX0_tellInRounds 2 = .ok (.iconst 0, 1) := by decide +kernel
theorem dX0_tellInRounds_3 : decode cX0_tellInRounds 3 = .ok (.istore 4, 2) := by decide +kernel
theorem dX0_tellInRounds_5 : decode cX0_tellInRounds 5 = .ok (.iload 4, 2) := by decide +kernel
theorem dX0_tellInRounds_7 : decode cX0_tellInRounds 7 = .ok (.bipush 10, 2) := by decide +kernel
theorem dX0_tellInRounds_9 : decode cX0_tellInRounds 9 = .ok (.if_icmp .ge 201, 3) := by decide +kernel
theorem dX0_tellInRounds_12 : decode cX0_tellInRounds 12 = .ok (.iload_n 3, 1) := by decide +kernel
theorem dX0_tellInRounds_13 : decode cX0_tellInRounds 13 = .ok (.istore 5, 2) := by decide +kernel
theorem dX0_tellInRounds_15 : decode cX0_tellInRounds 15 = .ok (.iconst 0, 1) := by decide +kernel
theorem dX0_tellInRounds_16 : decode cX0_tellInRounds 16 = .ok (.istore 6, 2) := by decide +kernel
theorem dX0_tellInRounds_18 : decode cX0_tellInRounds 18 = .ok (.iload 6, 2) := by decide +kernel
theorem dX0_tellInRounds_20 : decode cX0_tellInRounds 20 = .ok (.bipush 12, 2) := by decide +kernel
theorem dX0_tellInRounds_22 : decode cX0_tellInRounds 22 = .ok (.if_icmp .ge 173, 3) := by decide +kernel
theorem dX0_tellInRounds_25 : decode cX0_tellInRounds 25 = .ok (.aload_n 0, 1) := by decide +kernel
theorem dX0_tellInRounds_26 : decode cX0_tellInRounds 26 = .ok (.getfield 29, 3) := by decide +kernel
theorem dX0_tellInRounds_29 : decode cX0_tellInRounds 29 = .ok (.getfield 79, 3) := by decide +kernel
theorem dX0_tellInRounds_32 : decode cX0_tellInRounds 32 = .ok (.iload 6, 2) := by decide +kernel
theorem dX0_tellInRounds_34 : decode cX0_tellInRounds 34 = .ok (.invokestatic 43, 3) := by decide +kernel
theorem dX0_tellInRounds_37 : decode cX0_tellInRounds 37 = .ok (.istore 7, 2) := by decide +kernel
theorem dX0_tellInRounds_39 : decode cX0_tellInRounds 39 = .ok (.aload_n 0, 1) := by decide +kernel
theorem dX0_tellInRounds_40 : decode cX0_tellInRounds 40 = .ok (.getfield 29, 3) := by decide +kernel
theorem dX0_tellInRounds_43 : decode cX0_tellInRounds 43 = .ok (.getfield 82, 3) := by decide +kernel
theorem dX0_tellInRounds_46 : decode cX0_tellInRounds 46 = .ok (.iload 6, 2) := by decide +kernel
theorem dX0_tellInRounds_48 : decode cX0_tellInRounds 48 = .ok (.invokestatic 43, 3) := by decide +kernel
theorem dX0_tellInRounds_51 : decode cX0_tellInRounds 51 = .ok (.istore 8, 2) := by decide +kernel
theorem dX0_tellInRounds_53 : decode cX0_tellInRounds 53 = .ok (.aload_n 0, 1) := by decide +kernel
theorem dX0_tellInRounds_54 : decode cX0_tellInRounds 54 = .ok (.iload 6, 2) := by decide +kernel
theorem dX0_tellInRounds_56 : decode cX0_tellInRounds 56 = .ok (.iload_n 2, 1) := by decide +kernel
theorem dX0_tellInRounds_57 : decode cX0_tellInRounds 57 = .ok (.invokevirtual 92, 3) := by decide +kernel
theorem dX0_tellInRounds_60 : decode cX0_tellInRounds 60 = .ok (.ifCond .eq 129, 3) := by decide +kernel
theorem dX0_tellInRounds_63 : decode cX0_tellInRounds 63 = .ok (.iload_n 3, 1) := by decide +kernel
theorem dX0_tellInRounds_64 : decode cX0_tellInRounds 64 = .ok (.i2l, 1) := by decide +kernel
theorem dX0_tellInRounds_65 : decode cX0_tellInRounds 65 = .ok (.iload 7, 2) := by decide +kernel
theorem dX0_tellInRounds_67 : decode cX0_tellInRounds 67 = .ok (.invokestatic 59, 3) := by decide +kernel
theorem dX0_tellInRounds_70 : decode cX0_tellInRounds 70 = .ok (.ifCond .ne 16, 3) := by decide +kernel
theorem dX0_tellInRounds_73 : decode cX0_tellInRounds 73 = .ok (.iload_n 3, 1) := by decide +kernel
theorem dX0_tellInRounds_74 : decode cX0_tellInRounds 74 = .ok (.i2l, 1) := by decide +kernel
theorem dX0_tellInRounds_75 : decode cX0_tellInRounds 75 = .ok (.iload 8, 2) := by decide +kernel
theorem dX0_tellInRounds_77 : decode cX0_tellInRounds 77 = .ok (.invokestatic 59, 3) := by decide +kernel
theorem dX0_tellInRounds_80 : decode cX0_tellInRounds 80 = .ok (.ifCond .ne 6, 3) := by decide +kernel
theorem dX0_tellInRounds_83 : decode cX0_tellInRounds 83 = .ok (.goto 106, 3) := by decide +kernel
theorem dX0_tellInRounds_86 : decode cX0_tellInRounds 86 = .ok (.aload_n 0, 1) := by decide +kernel
theorem dX0_tellInRounds_87 : decode cX0_tellInRounds 87 = .ok (.iload 6, 2) := by decide +kernel
theorem dX0_tellInRounds_89 : decode cX0_tellInRounds 89 = .ok (.iload_n 2, 1) := by decide +kernel
theorem dX0_tellInRounds_90 : decode cX0_tellInRounds 90 = .ok (.invokevirtual 89, 3) := by decide +kernel
theorem dX0_tellInRounds_93 : decode cX0_tellInRounds 93 = .ok (.istore 9, 2) := by decide +kernel
theorem dX0_tellInRounds_95 : decode cX0_tellInRounds 95 = .ok (.iload_n 3, 1) := by decide +kernel
theorem dX0_tellInRounds_96 : decode cX0_tellInRounds 96 = .ok (.i2l, 1) := by decide +kernel
theorem dX0_tellInRounds_97 : decode cX0_tellInRounds 97 = .ok (.iload 8, 2) := by decide +kernel
theorem dX0_tellInRounds_99 : decode cX0_tellInRounds 99 = .ok (.invokestatic 59, 3) := by decide +kernel
theorem dX0_tellInRounds_102 : decode cX0_tellInRounds 102 = .ok (.ifCond .ne 23, 3) := by decide +kernel
theorem dX0_tellInRounds_105 : decode cX0_tellInRounds 105 = .ok (.aload_n 0, 1) := by decide +kernel
theorem dX0_tellInRounds_106 : decode cX0_tellInRounds 106 = .ok (.iload 8, 2) := by decide +kernel
theorem dX0_tellInRounds_108 : decode cX0_tellInRounds 108 = .ok (.iload_n 2, 1) := by decide +kernel
theorem dX0_tellInRounds_109 : decode cX0_tellInRounds 109 = .ok (.aload_n 0, 1) := by decide +kernel
theorem dX0_tellInRounds_110 : decode cX0_tellInRounds 110 = .ok (.iload 7, 2) := by decide +kernel
theorem dX0_tellInRounds_112 : decode cX0_tellInRounds 112 = .ok (.iload_n 2, 1) := by decide +kernel
theorem dX0_tellInRounds_113 : decode cX0_tellInRounds 113 = .ok (.invokevirtual 51, 3) := by decide +kernel
theorem dX0_tellInRounds_116 : decode cX0_tellInRounds 116 = .ok (.iload 9, 2) := by decide +kernel
theorem dX0_tellInRounds_118 : decode cX0_tellInRounds 118 = .ok (.iadd, 1) := by decide +kernel
theorem dX0_tellInRounds_119 : decode cX0_tellInRounds 119 = .ok (.invokevirtual 55, 3) := by decide +kernel
theorem dX0_tellInRounds_122 : decode cX0_tellInRounds 122 = .ok (.goto 55, 3) := by decide +kernel
theorem dX0_tellInRounds_125 : decode cX0_tellInRounds 125 = .ok (.iload_n 3, 1) := by decide +kernel
theorem dX0_tellInRounds_126 : decode cX0_tellInRounds 126 = .ok (.i2l, 1) := by decide +kernel
theorem dX0_tellInRounds_127 : decode cX0_tellInRounds 127 = .ok (.iload 7, 2) := by decide +kernel
theorem dX0_tellInRounds_129 : decode cX0_tellInRounds 129 = .ok (.invokestatic 59, 3) := by decide +kernel
theorem dX0_tellInRounds_132 : decode cX0_tellInRounds 132 = .ok (.ifCond .ne 23, 3) := by decide +kernel
theorem dX0_tellInRounds_135 : decode cX0_tellInRounds 135 = .ok (.aload_n 0, 1) := by decide +kernel
theorem dX0_tellInRounds_136 : decode cX0_tellInRounds 136 = .ok (.iload 7, 2) := by decide +kernel
theorem dX0_tellInRounds_138 : decode cX0_tellInRounds 138 = .ok (.iload_n 2, 1) := by decide +kernel
theorem dX0_tellInRounds_139 : decode cX0_tellInRounds 139 = .ok (.aload_n 0, 1) := by decide +kernel
theorem dX0_tellInRounds_140 : decode cX0_tellInRounds 140 = .ok (.iload 8, 2) := by decide +kernel
theorem dX0_tellInRounds_142 : decode cX0_tellInRounds 142 = .ok (.iload_n 2, 1) := by decide +kernel
theorem dX0_tellInRounds_143 : decode cX0_tellInRounds 143 = .ok (.invokevirtual 51, 3) := by decide +kernel
theorem dX0_tellInRounds_146 : decode cX0_tellInRounds 146 = .ok (.iload 9, 2) := by decide +kernel
theorem dX0_tellInRounds_148 : decode cX0_tellInRounds 148 = .ok (.isub, 1) := by decide +kernel
theorem dX0_tellInRounds_149 : decode cX0_tellInRounds 149 = .ok (.invokevirtual 55, 3) := by decide +kernel
theorem dX0_tellInRounds_152 : decode cX0_tellInRounds 152 = .ok (.goto 25, 3) := by decide +kernel
theorem dX0_tellInRounds_155 : decode cX0_tellInRounds 155 = .ok (.aload_n 0, 1) := by decide +kernel
theorem dX0_tellInRounds_156 : decode cX0_tellInRounds 156 = .ok (.iload 8, 2) := by decide +kernel
theorem dX0_tellInRounds_158 : decode cX0_tellInRounds 158 = .ok (.iload_n 2, 1) := by decide +kernel
theorem dX0_tellInRounds_159 : decode cX0_tellInRounds 159 = .ok (.invokevirtual 51, 3) := by decide +kernel
theorem dX0_tellInRounds_162 : decode cX0_tellInRounds 162 = .ok (.aload_n 0, 1) := by decide +kernel
theorem dX0_tellInRounds_163 : decode cX0_tellInRounds 163 = .ok (.iload 7, 2) := by decide +kernel
theorem dX0_tellInRounds_165 : decode cX0_tellInRounds 165 = .ok (.iload_n 2, 1) := by decide +kernel
theorem dX0_tellInRounds_166 : decode cX0_tellInRounds 166 = .ok (.invokevirtual 51, 3) := by decide +kernel
theorem dX0_tellInRounds_169 : decode cX0_tellInRounds 169 = .ok (.isub, 1) := by decide +kernel
theorem dX0_tellInRounds_170 : decode cX0_tellInRounds 170 = .ok (.iload 9, 2) := by decide +kernel
theorem dX0_tellInRounds_172 : decode cX0_tellInRounds 172 = .ok (.if_icmp .eq 5, 3) := by decide +kernel
theorem dX0_tellInRounds_175 : decode cX0_tellInRounds 175 = .ok (.iconst 0, 1) := by decide +kernel
theorem dX0_tellInRounds_176 : decode cX0_tellInRounds 176 = .ok (.ireturn, 1) := by decide +kernel
theorem dX0_tellInRounds_177 : decode cX0_tellInRounds 177 = .ok (.iload_n 3, 1) := by decide +kernel
theorem dX0_tellInRounds_178 : decode cX0_tellInRounds 178 = .ok (.iconst 1, 1) := by decide +kernel
theorem dX0_tellInRounds_179 : decode cX0_tellInRounds 179 = .ok (.iload 7, 2) := by decide +kernel
theorem dX0_tellInRounds_181 : decode cX0_tellInRounds 181 = .ok (.ishl, 1) := by decide +kernel
theorem dX0_tellInRounds_182 : decode cX0_tellInRounds 182 = .ok (.iconst 1, 1) := by decide +kernel
theorem dX0_tellInRounds_183 : decode cX0_tellInRounds 183 = .ok (.iload 8, 2) := by decide +kernel
theorem dX0_tellInRounds_185 : decode cX0_tellInRounds 185 = .ok (.ishl, 1) := by decide +kernel
theorem dX0_tellInRounds_186 : decode cX0_tellInRounds 186 = .ok (.ior, 1) := by decide +kernel
theorem dX0_tellInRounds_187 : decode cX0_tellInRounds 187 = .ok (.ior, 1) := by decide +kernel
theorem dX0_tellInRounds_188 : decode cX0_tellInRounds 188 = .ok (.istore_n 3, 1) := by decide +kernel
theorem dX0_tellInRounds_189 : decode cX0_tellInRounds 189 = .ok (.iinc 6 1, 3) := by decide +kernel
theorem dX0_tellInRounds_192 : decode cX0_tellInRounds 192 = .ok (.goto (-174), 3) := by decide +kernel
theorem dX0_tellInRounds_195 : decode cX0_tellInRounds 195 = .ok (.iload_n 3, 1) := by decide +kernel
theorem dX0_tellInRounds_196 : decode cX0_tellInRounds 196 = .ok (.iload 5, 2) := by decide +kernel
theorem dX0_tellInRounds_198 : decode cX0_tellInRounds 198 = .ok (.if_icmp .ne 6, 3) := by decide +kernel
theorem dX0_tellInRounds_201 : decode cX0_tellInRounds 201 = .ok (.goto 9, 3) := by decide +kernel
theorem dX0_tellInRounds_204 : decode cX0_tellInRounds 204 = .ok (.iinc 4 1, 3) := by decide +kernel
theorem dX0_tellInRounds_207 : decode cX0_tellInRounds 207 = .ok (.goto (-202), 3) := by decide +kernel
theorem dX0_tellInRounds_210 : decode cX0_tellInRounds 210 = .ok (.iconst 1, 1) := by decide +kernel
theorem dX0_tellInRounds_211 : decode cX0_tellInRounds 211 = .ok (.ireturn, 1) := by decide +kernel
theorem dX0_shiftGroup_0 : decode cX0_shiftGroup 0 = .ok (.iconst 0, 1) := by decide +kernel
theorem dX0_shiftGroup_1 : decode cX0_shiftGroup 1 = .ok (.istore 4, 2) := by decide +kernel
theorem dX0_shiftGroup_3 : decode cX0_shiftGroup 3 = .ok (.iload 4, 2) := by decide +kernel
theorem dX0_shiftGroup_5 : decode cX0_shiftGroup 5 = .ok (.bipush 10, 2) := by decide +kernel
theorem dX0_shiftGroup_7 : decode cX0_shiftGroup 7 = .ok (.if_icmp .ge 86, 3) := by decide +kernel
theorem dX0_shiftGroup_10 : decode cX0_shiftGroup 10 = .ok (.iload_n 1, 1) := by decide +kernel
theorem dX0_shiftGroup_11 : decode cX0_shiftGroup 11 = .ok (.i2l, 1) := by decide +kernel
theorem dX0_shiftGroup_12 : decode cX0_shiftGroup 12 = .ok (.iload 4, 2) := by decide +kernel
theorem dX0_shiftGroup_14 : decode cX0_shiftGroup 14 = .ok (.invokestatic 59, 3) := by decide +kernel
theorem dX0_shiftGroup_17 : decode cX0_shiftGroup 17 = .ok (.ifCond .ne 6, 3) := by decide +kernel
theorem dX0_shiftGroup_20 : decode cX0_shiftGroup 20 = .ok (.goto 67, 3) := by decide +kernel
theorem dX0_shiftGroup_23 : decode cX0_shiftGroup 23 = .ok (.aload_n 0, 1) := by decide +kernel
theorem dX0_shiftGroup_24 : decode cX0_shiftGroup 24 = .ok (.iload 4, 2) := by decide +kernel
theorem dX0_shiftGroup_26 : decode cX0_shiftGroup 26 = .ok (.iload_n 2, 1) := by decide +kernel
theorem dX0_shiftGroup_27 : decode cX0_shiftGroup 27 = .ok (.invokevirtual 51, 3) := by decide +kernel
theorem dX0_shiftGroup_30 : decode cX0_shiftGroup 30 = .ok (.iload_n 3, 1) := by decide +kernel
theorem dX0_shiftGroup_31 : decode cX0_shiftGroup 31 = .ok (.iadd, 1) := by decide +kernel
theorem dX0_shiftGroup_32 : decode cX0_shiftGroup 32 = .ok (.istore 5, 2) := by decide +kernel
theorem dX0_shiftGroup_34 : decode cX0_shiftGroup 34 = .ok (.iload_n 2, 1) := by decide +kernel
theorem dX0_shiftGroup_35 : decode cX0_shiftGroup 35 = .ok (.iconst 2, 1) := by decide +kernel
theorem dX0_shiftGroup_36 : decode cX0_shiftGroup 36 = .ok (.if_icmp .lt 19, 3) := by decide +kernel
theorem dX0_shiftGroup_39 : decode cX0_shiftGroup 39 = .ok (.aload_n 0, 1) := by decide +kernel
theorem dX0_shiftGroup_40 : decode cX0_shiftGroup 40 = .ok (.getfield 25, 3) := by decide +kernel
theorem dX0_shiftGroup_43 : decode cX0_shiftGroup 43 = .ok (.iload 4, 2) := by decide +kernel
theorem dX0_shiftGroup_45 : decode cX0_shiftGroup 45 = .ok (.invokevirtual 95, 3) := by decide +kernel
theorem dX0_shiftGroup_48 : decode cX0_shiftGroup 48 = .ok (.ifCond .le 7, 3) := by decide +kernel
theorem dX0_shiftGroup_51 : decode cX0_shiftGroup 51 = .ok (.iconst 1, 1) := by decide +kernel
theorem dX0_shiftGroup_52 : decode cX0_shiftGroup 52 = .ok (.goto 4, 3) := by decide +kernel
theorem dX0_shiftGroup_55 : decode cX0_shiftGroup 55 = .ok (.iconst 0, 1) := by decide +kernel
theorem dX0_shiftGroup_56 : decode cX0_shiftGroup 56 = .ok (.istore 6, 2) := by decide +kernel
theorem dX0_shiftGroup_58 : decode cX0_shiftGroup 58 = .ok (.iload 5, 2) := by decide +kernel
theorem dX0_shiftGroup_60 : decode cX0_shiftGroup 60 = .ok (.iload_n 2, 1) := by decide +kernel
theorem dX0_shiftGroup_61 : decode cX0_shiftGroup 61 = .ok (.invokestatic 101, 3) := by decide +kernel
theorem dX0_shiftGroup_64 : decode cX0_shiftGroup 64 = .ok (.ifCond .eq 12, 3) := by decide +kernel
theorem dX0_shiftGroup_67 : decode cX0_shiftGroup 67 = .ok (.iload 6, 2) := by decide +kernel
theorem dX0_shiftGroup_69 : decode cX0_shiftGroup 69 = .ok (.ifCond .eq 9, 3) := by decide +kernel
theorem dX0_shiftGroup_72 : decode cX0_shiftGroup 72 = .ok (.iload_n 3, 1) := by decide +kernel
theorem dX0_shiftGroup_73 : decode cX0_shiftGroup 73 = .ok (.ifCond .eq 5, 3) := by decide +kernel
theorem dX0_shiftGroup_76 : decode cX0_shiftGroup 76 = .ok (.iconst 0, 1) := by decide +kernel
theorem dX0_shiftGroup_77 : decode cX0_shiftGroup 77 = .ok (.ireturn, 1) := by decide +kernel
theorem dX0_shiftGroup_78 : decode cX0_shiftGroup 78 = .ok (.aload_n 0, 1) := by decide +kernel
theorem dX0_shiftGroup_79 : decode cX0_shiftGroup 79 = .ok (.iload 4, 2) := by decide +kernel
theorem dX0_shiftGroup_81 : decode cX0_shiftGroup 81 = .ok (.iload_n 2, 1) := by decide +kernel
theorem dX0_shiftGroup_82 : decode cX0_shiftGroup 82 = .ok (.iload 5, 2) := by decide +kernel
theorem dX0_shiftGroup_84 : decode cX0_shiftGroup 84 = .ok (.invokevirtual 55, 3) := by decide +kernel
theorem dX0_shiftGroup_87 : decode cX0_shiftGroup 87 = .ok (.iinc 4 1, 3) := by decide +kernel
theorem dX0_shiftGroup_90 : decode cX0_shiftGroup 90 = .ok (.goto (-87), 3) := by decide +kernel
theorem dX0_shiftGroup_93 : decode cX0_shiftGroup 93 = .ok (.iconst 1, 1) := by decide +kernel
theorem dX0_shiftGroup_94 : decode cX0_shiftGroup 94 = .ok (.ireturn, 1) := by decide +kernel
theorem dX0_growClass_0 : decode cX0_growClass 0 = .ok (.aload_n 0, 1) := by decide +kernel
theorem dX0_growClass_1 : decode cX0_growClass 1 = .ok (.iload_n 1, 1) := by decide +kernel
theorem dX0_growClass_2 : decode cX0_growClass 2 = .ok (.iload_n 2, 1) := by decide +kernel
theorem dX0_growClass_3 : decode cX0_growClass 3 = .ok (.iconst 2, 1) := by decide +kernel
theorem dX0_growClass_4 : decode cX0_growClass 4 = .ok (.iadd, 1) := by decide +kernel
theorem dX0_growClass_5 : decode cX0_growClass 5 = .ok (.iload_n 3, 1) := by decide +kernel
theorem dX0_growClass_6 : decode cX0_growClass 6 = .ok (.invokevirtual 66, 3) := by decide +kernel
theorem dX0_growClass_9 : decode cX0_growClass 9 = .ok (.ifCond .ne 5, 3) := by decide +kernel
theorem dX0_growClass_12 : decode cX0_growClass 12 = .ok (.iconst 0, 1) := by decide +kernel
theorem dX0_growClass_13 : decode cX0_growClass 13 = .ok (.ireturn, 1) := by decide +kernel
theorem dX0_growClass_14 : decode cX0_growClass 14 = .ok (.iload_n 3, 1) := by decide +kernel
theorem dX0_growClass_15 : decode cX0_growClass 15 = .ok (.ifCond .ne 5, 3) := by decide +kernel
theorem dX0_growClass_18 : decode cX0_growClass 18 = .ok (.iconst 1, 1) := by decide +kernel
theorem dX0_growClass_19 : decode cX0_growClass 19 = .ok (.ireturn, 1) := by decide +kernel
theorem dX0_growClass_20 : decode cX0_growClass 20 = .ok (.iconst 0, 1) := by decide +kernel
theorem dX0_growClass_21 : decode cX0_growClass 21 = .ok (.istore 5, 2) := by decide +kernel
theorem dX0_growClass_23 : decode cX0_growClass 23 = .ok (.iload_n 1, 1) := by decide +kernel
theorem dX0_growClass_24 : decode cX0_growClass 24 = .ok (.istore 6, 2) := by decide +kernel
theorem dX0_growClass_26 : decode cX0_growClass 26 = .ok (.iconst 0, 1) := by decide +kernel
theorem dX0_growClass_27 : decode cX0_growClass 27 = .ok (.istore 7, 2) := by decide +kernel
theorem dX0_growClass_29 : decode cX0_growClass 29 = .ok (.iload 7, 2) := by decide +kernel
theorem dX0_growClass_31 : decode cX0_growClass 31 = .ok (.bipush 10, 2) := by decide +kernel
theorem dX0_growClass_33 : decode cX0_growClass 33 = .ok (.if_icmp .ge 71, 3) := by decide +kernel
theorem dX0_growClass_36 : decode cX0_growClass 36 = .ok (.iload 6, 2) := by decide +kernel
theorem dX0_growClass_38 : decode cX0_growClass 38 = .ok (.i2l, 1) := by decide +kernel
theorem dX0_growClass_39 : decode cX0_growClass 39 = .ok (.iload 7, 2) := by decide +kernel
theorem dX0_growClass_41 : decode cX0_growClass 41 = .ok (.invokestatic 59, 3) := by decide +kernel
theorem dX0_growClass_44 : decode cX0_growClass 44 = .ok (.ifCond .eq 54, 3) := by decide +kernel
theorem dX0_growClass_47 : decode cX0_growClass 47 = .ok (.aload_n 0, 1) := by decide +kernel
theorem dX0_growClass_48 : decode cX0_growClass 48 = .ok (.iload 7, 2) := by decide +kernel
theorem dX0_growClass_50 : decode cX0_growClass 50 = .ok (.iload_n 2, 1) := by decide +kernel
theorem dX0_growClass_51 : decode cX0_growClass 51 = .ok (.invokevirtual 63, 3) := by decide +kernel
theorem dX0_growClass_54 : decode cX0_growClass 54 = .ok (.istore 8, 2) := by decide +kernel
theorem dX0_growClass_56 : decode cX0_growClass 56 = .ok (.iload 8, 2) := by decide +kernel
theorem dX0_growClass_58 : decode cX0_growClass 58 = .ok (.iload 8, 2) := by decide +kernel
theorem dX0_growClass_60 : decode cX0_growClass 60 = .ok (.ineg, 1) := by decide +kernel
theorem dX0_growClass_61 : decode cX0_growClass 61 = .ok (.iand, 1) := by decide +kernel
theorem dX0_growClass_62 : decode cX0_growClass 62 = .ok (.istore 9, 2) := by decide +kernel
theorem dX0_growClass_64 : decode cX0_growClass 64 = .ok (.iload 5, 2) := by decide +kernel
theorem dX0_growClass_66 : decode cX0_growClass 66 = .ok (.iload 8, 2) := by decide +kernel
theorem dX0_growClass_68 : decode cX0_growClass 68 = .ok (.i2l, 1) := by decide +kernel
theorem dX0_growClass_69 : decode cX0_growClass 69 = .ok (.iload 4, 2) := by decide +kernel
theorem dX0_growClass_71 : decode cX0_growClass 71 = .ok (.invokestatic 59, 3) := by decide +kernel
theorem dX0_growClass_74 : decode cX0_growClass 74 = .ok (.ifCond .eq 10, 3) := by decide +kernel
theorem dX0_growClass_77 : decode cX0_growClass 77 = .ok (.iconst 1, 1) := by decide +kernel
theorem dX0_growClass_78 : decode cX0_growClass 78 = .ok (.iload 4, 2) := by decide +kernel
theorem dX0_growClass_80 : decode cX0_growClass 80 = .ok (.ishl, 1) := by decide +kernel
theorem dX0_growClass_81 : decode cX0_growClass 81 = .ok (.goto 5, 3) := by decide +kernel
theorem dX0_growClass_84 : decode cX0_growClass 84 = .ok (.iload 9, 2) := by decide +kernel
theorem dX0_growClass_86 : decode cX0_growClass 86 = .ok (.ior, 1) := by decide +kernel
theorem dX0_growClass_87 : decode cX0_growClass 87 = .ok (.istore 5, 2) := by decide +kernel
theorem dX0_growClass_89 : decode cX0_growClass 89 = .ok (.iload 6, 2) := by decide +kernel
theorem dX0_growClass_91 : decode cX0_growClass 91 = .ok (.iload 8, 2) := by decide +kernel
theorem dX0_growClass_93 : decode cX0_growClass 93 = .ok (.iconst (-1), 1) := by decide +kernel
theorem dX0_growClass_94 : decode cX0_growClass 94 = .ok (.ixor, 1) := by decide +kernel
theorem dX0_growClass_95 : decode cX0_growClass 95 = .ok (.iand, 1) := by decide +kernel
theorem dX0_growClass_96 : decode cX0_growClass 96 = .ok (.istore 6, 2) := by decide +kernel
theorem dX0_growClass_98 : decode cX0_growClass 98 = .ok (.iinc 7 1, 3) := by decide +kernel
theorem dX0_growClass_101 : decode cX0_growClass 101 = .ok (.goto (-72), 3) := by decide +kernel
theorem dX0_growClass_104 : decode cX0_growClass 104 = .ok (.aload_n 0, 1) := by decide +kernel
theorem dX0_growClass_105 : decode cX0_growClass 105 = .ok (.getfield 33, 3) := by decide +kernel
theorem dX0_growClass_108 : decode cX0_growClass 108 = .ok (.ifCond .eq 13, 3) := by decide +kernel
theorem dX0_growClass_111 : decode cX0_growClass 111 = .ok (.aload_n 0, 1) := by decide +kernel
theorem dX0_growClass_112 : decode cX0_growClass 112 = .ok (.iload 5, 2) := by decide +kernel
theorem dX0_growClass_114 : decode cX0_growClass 114 = .ok (.iload_n 2, 1) := by decide +kernel
theorem dX0_growClass_115 : decode cX0_growClass 115 = .ok (.invokevirtual 104, 3) := by decide +kernel
theorem dX0_growClass_118 : decode cX0_growClass 118 = .ok (.goto 10, 3) := by decide +kernel
theorem dX0_growClass_121 : decode cX0_growClass 121 = .ok (.aload_n 0, 1) := by decide +kernel
theorem dX0_growClass_122 : decode cX0_growClass 122 = .ok (.iload 5, 2) := by decide +kernel
theorem dX0_growClass_124 : decode cX0_growClass 124 = .ok (.iload_n 2, 1) := by decide +kernel
theorem dX0_growClass_125 : decode cX0_growClass 125 = .ok (.invokevirtual 107, 3) := by decide +kernel
theorem dX0_growClass_128 : decode cX0_growClass 128 = .ok (.istore 7, 2) := by decide +kernel
theorem dX0_growClass_130 : decode cX0_growClass 130 = .ok (.iload 7, 2) := by decide +kernel
theorem dX0_growClass_132 : decode cX0_growClass 132 = .ok (.ifCond .eq 15, 3) := by decide +kernel
theorem dX0_growClass_135 : decode cX0_growClass 135 = .ok (.aload_n 0, 1) := by decide +kernel
theorem dX0_growClass_136 : decode cX0_growClass 136 = .ok (.iload_n 2, 1) := by decide +kernel
theorem dX0_growClass_137 : decode cX0_growClass 137 = .ok (.invokevirtual 110, 3) := by decide +kernel
theorem dX0_growClass_140 : decode cX0_growClass 140 = .ok (.ifCond .eq 7, 3) := by decide +kernel
theorem dX0_growClass_143 : decode cX0_growClass 143 = .ok (.iconst 1, 1) := by decide +kernel
theorem dX0_growClass_144 : decode cX0_growClass 144 = .ok (.goto 4, 3) := by decide +kernel
theorem dX0_growClass_147 : decode cX0_growClass 147 = .ok (.iconst 0, 1) := by decide +kernel
theorem dX0_growClass_148 : decode cX0_growClass 148 = .ok (.ireturn, 1) := by decide +kernel
theorem dX0_layRule_0 : decode cX0_layRule 0 = .ok (.aload_n 0, 1) := by decide +kernel
theorem dX0_layRule_1 : decode cX0_layRule 1 = .ok (.getfield 29, 3) := by decide +kernel
theorem dX0_layRule_4 : decode cX0_layRule 4 = .ok (.getfield 74, 3) := by decide +kernel
theorem dX0_layRule_7 : decode cX0_layRule 7 = .ok (.iload_n 1, 1) := by decide +kernel
theorem dX0_layRule_8 : decode cX0_layRule 8 = .ok (.invokestatic 43, 3) := by decide +kernel
theorem dX0_layRule_11 : decode cX0_layRule 11 = .ok (.istore_n 2, 1) := by decide +kernel
theorem dX0_layRule_12 : decode cX0_layRule 12 = .ok (.aload_n 0, 1) := by decide +kernel
theorem dX0_layRule_13 : decode cX0_layRule 13 = .ok (.getfield 29, 3) := by decide +kernel
theorem dX0_layRule_16 : decode cX0_layRule 16 = .ok (.getfield 79, 3) := by decide +kernel
theorem dX0_layRule_19 : decode cX0_layRule 19 = .ok (.iload_n 1, 1) := by decide +kernel
theorem dX0_layRule_20 : decode cX0_layRule 20 = .ok (.invokestatic 43, 3) := by decide +kernel
theorem dX0_layRule_23 : decode cX0_layRule 23 = .ok (.istore_n 3, 1) := by decide +kernel
theorem dX0_layRule_24 : decode cX0_layRule 24 = .ok (.aload_n 0, 1) := by decide +kernel
theorem dX0_layRule_25 : decode cX0_layRule 25 = .ok (.getfield 29, 3) := by decide +kernel
theorem dX0_layRule_28 : decode cX0_layRule 28 = .ok (.getfield 82, 3) := by decide +kernel
theorem dX0_layRule_31 : decode cX0_layRule 31 = .ok (.iload_n 1, 1) := by decide +kernel
theorem dX0_layRule_32 : decode cX0_layRule 32 = .ok (.invokestatic 43, 3) := by decide +kernel
theorem dX0_layRule_35 : decode cX0_layRule 35 = .ok (.istore 4, 2) := by decide +kernel
theorem dX0_layRule_37 : decode cX0_layRule 37 = .ok (.aload_n 0, 1) := by decide +kernel
theorem dX0_layRule_38 : decode cX0_layRule 38 = .ok (.getfield 18, 3) := by decide +kernel
theorem dX0_layRule_41 : decode cX0_layRule 41 = .ok (.i2l, 1) := by decide +kernel
theorem dX0_layRule_42 : decode cX0_layRule 42 = .ok (.iload_n 3, 1) := by decide +kernel
theorem dX0_layRule_43 : decode cX0_layRule 43 = .ok (.invokestatic 59, 3) := by decide +kernel
theorem dX0_layRule_46 : decode cX0_layRule 46 = .ok (.ifCond .eq 20, 3) := by decide +kernel
theorem dX0_layRule_49 : decode cX0_layRule 49 = .ok (.aload_n 0, 1) := by decide +kernel
theorem dX0_layRule_50 : decode cX0_layRule 50 = .ok (.getfield 18, 3) := by decide +kernel
theorem dX0_layRule_53 : decode cX0_layRule 53 = .ok (.i2l, 1) := by decide +kernel
theorem dX0_layRule_54 : decode cX0_layRule 54 = .ok (.iload 4, 2) := by decide +kernel
theorem dX0_layRule_56 : decode cX0_layRule 56 = .ok (.invokestatic 59, 3) := by decide +kernel
theorem dX0_layRule_59 : decode cX0_layRule 59 = .ok (.ifCond .eq 7, 3) := by decide +kernel
theorem dX0_layRule_62 : decode cX0_layRule 62 = .ok (.iconst 1, 1) := by decide +kernel
theorem dX0_layRule_63 : decode cX0_layRule 63 = .ok (.goto 4, 3) := by decide +kernel
theorem dX0_layRule_66 : decode cX0_layRule 66 = .ok (.iconst 0, 1) := by decide +kernel
theorem dX0_layRule_67 : decode cX0_layRule 67 = .ok (.istore 5, 2) := by decide +kernel
theorem dX0_layRule_69 : decode cX0_layRule 69 = .ok (.iconst 0, 1) := by decide +kernel
theorem dX0_layRule_70 : decode cX0_layRule 70 = .ok (.istore 6, 2) := by decide +kernel
theorem dX0_layRule_72 : decode cX0_layRule 72 = .ok (.iload 6, 2) := by decide +kernel
theorem dX0_layRule_74 : decode cX0_layRule 74 = .ok (.iconst 4, 1) := by decide +kernel
theorem dX0_layRule_75 : decode cX0_layRule 75 = .ok (.if_icmp .ge 148, 3) := by decide +kernel
theorem dX0_layRule_78 : decode cX0_layRule 78 = .ok (.iload 5, 2) := by decide +kernel
theorem dX0_layRule_80 : decode cX0_layRule 80 = .ok (.ifCond .eq 143, 3) := by decide +kernel
theorem dX0_layRule_83 : decode cX0_layRule 83 = .ok (.iload_n 2, 1) := by decide +kernel
theorem dX0_layRule_84 : decode cX0_layRule 84 = .ok (.iload 6, 2) := by decide +kernel
theorem dX0_layRule_86 : decode cX0_layRule 86 = .ok (.invokestatic 85, 3) := by decide +kernel
theorem dX0_layRule_89 : decode cX0_layRule 89 = .ok (.ifCond .ne 6, 3) := by decide +kernel
theorem dX0_layRule_92 : decode cX0_layRule 92 = .ok (.goto 125, 3) := by decide +kernel
theorem dX0_layRule_95 : decode cX0_layRule 95 = .ok (.aload_n 0, 1) := by decide +kernel
theorem dX0_layRule_96 : decode cX0_layRule 96 = .ok (.iload 4, 2) := by decide +kernel
theorem dX0_layRule_98 : decode cX0_layRule 98 = .ok (.iload 6, 2) := by decide +kernel
theorem dX0_layRule_100 : decode cX0_layRule 100 = .ok (.invokevirtual 51, 3) := by decide +kernel
theorem dX0_layRule_103 : decode cX0_layRule 103 = .ok (.aload_n 0, 1) := by decide +kernel
theorem dX0_layRule_104 : decode cX0_layRule 104 = .ok (.iload_n 3, 1) := by decide +kernel
theorem dX0_layRule_105 : decode cX0_layRule 105 = .ok (.iload 6, 2) := by decide +kernel
theorem dX0_layRule_107 : decode cX0_layRule 107 = .ok (.invokevirtual 51, 3) := by decide +kernel
theorem dX0_layRule_110 : decode cX0_layRule 110 = .ok (.isub, 1) := by decide +kernel
theorem dX0_layRule_111 : decode cX0_layRule 111 = .ok (.istore 7, 2) := by decide +kernel
theorem dX0_layRule_113 : decode cX0_layRule 113 = .ok (.iload_n 2, 1) := by decide +kernel
theorem dX0_layRule_114 : decode cX0_layRule 114 = .ok (.bipush 6, 2) := by decide +kernel
theorem dX0_layRule_116 : decode cX0_layRule 116 = .ok (.if_icmp .ne 18, 3) := by decide +kernel
theorem dX0_layRule_119 : decode cX0_layRule 119 = .ok (.aload_n 0, 1) := by decide +kernel
theorem dX0_layRule_120 : decode cX0_layRule 120 = .ok (.getfield 15, 3) := by decide +kernel
theorem dX0_layRule_123 : decode cX0_layRule 123 = .ok (.iload_n 1, 1) := by decide +kernel
theorem dX0_layRule_124 : decode cX0_layRule 124 = .ok (.iconst 2, 1) := by decide +kernel
theorem dX0_layRule_125 : decode cX0_layRule 125 = .ok (.imul, 1) := by decide +kernel
theorem dX0_layRule_126 : decode cX0_layRule 126 = .ok (.iload 6, 2) := by decide +kernel
theorem dX0_layRule_128 : decode cX0_layRule 128 = .ok (.iadd, 1) := by decide +kernel
theorem dX0_layRule_129 : decode cX0_layRule 129 = .ok (.iload 7, 2) := by decide +kernel
theorem dX0_layRule_131 : decode cX0_layRule 131 = .ok (.invokestatic 47, 3) := by decide +kernel
theorem dX0_layRule_134 : decode cX0_layRule 134 = .ok (.aload_n 0, 1) := by decide +kernel
theorem dX0_layRule_135 : decode cX0_layRule 135 = .ok (.iload_n 1, 1) := by decide +kernel
theorem dX0_layRule_136 : decode cX0_layRule 136 = .ok (.iload 6, 2) := by decide +kernel
theorem dX0_layRule_138 : decode cX0_layRule 138 = .ok (.invokevirtual 89, 3) := by decide +kernel
theorem dX0_layRule_141 : decode cX0_layRule 141 = .ok (.iload 7, 2) := by decide +kernel
theorem dX0_layRule_143 : decode cX0_layRule 143 = .ok (.isub, 1) := by decide +kernel
theorem dX0_layRule_144 : decode cX0_layRule 144 = .ok (.istore 8, 2) := by decide +kernel
theorem dX0_layRule_146 : decode cX0_layRule 146 = .ok (.aload_n 0, 1) := by decide +kernel
theorem dX0_layRule_147 : decode cX0_layRule 147 = .ok (.iload 4, 2) := by decide +kernel
theorem dX0_layRule_149 : decode cX0_layRule 149 = .ok (.iload 6, 2) := by decide +kernel
theorem dX0_layRule_151 : decode cX0_layRule 151 = .ok (.invokevirtual 63, 3) := by decide +kernel
theorem dX0_layRule_154 : decode cX0_layRule 154 = .ok (.istore 9, 2) := by decide +kernel
theorem dX0_layRule_156 : decode cX0_layRule 156 = .ok (.iload 9, 2) := by decide +kernel
theorem dX0_layRule_158 : decode cX0_layRule 158 = .ok (.i2l, 1) := by decide +kernel
theorem dX0_layRule_159 : decode cX0_layRule 159 = .ok (.iload_n 3, 1) := by decide +kernel
theorem dX0_layRule_160 : decode cX0_layRule 160 = .ok (.invokestatic 59, 3) := by decide +kernel
theorem dX0_layRule_163 : decode cX0_layRule 163 = .ok (.ifCond .eq 18, 3) := by decide +kernel
theorem dX0_layRule_166 : decode cX0_layRule 166 = .ok (.iload 8, 2) := by decide +kernel
theorem dX0_layRule_168 : decode cX0_layRule 168 = .ok (.ifCond .ne 7, 3) := by decide +kernel
theorem dX0_layRule_171 : decode cX0_layRule 171 = .ok (.iconst 1, 1) := by decide +kernel
theorem dX0_layRule_172 : decode cX0_layRule 172 = .ok (.goto 4, 3) := by decide +kernel
theorem dX0_layRule_175 : decode cX0_layRule 175 = .ok (.iconst 0, 1) := by decide +kernel
theorem dX0_layRule_176 : decode cX0_layRule 176 = .ok (.istore 5, 2) := by decide +kernel
theorem dX0_layRule_178 : decode cX0_layRule 178 = .ok (.goto 39, 3) := by decide +kernel
theorem dX0_layRule_181 : decode cX0_layRule 181 = .ok (.iload 6, 2) := by decide +kernel
theorem dX0_layRule_183 : decode cX0_layRule 183 = .ok (.iconst 2, 1) := by decide +kernel
theorem dX0_layRule_184 : decode cX0_layRule 184 = .ok (.if_icmp .ge 18, 3) := by decide +kernel
theorem dX0_layRule_187 : decode cX0_layRule 187 = .ok (.aload_n 0, 1) := by decide +kernel
theorem dX0_layRule_188 : decode cX0_layRule 188 = .ok (.iload 9, 2) := by decide +kernel
theorem dX0_layRule_190 : decode cX0_layRule 190 = .ok (.iload 6, 2) := by decide +kernel
theorem dX0_layRule_192 : decode cX0_layRule 192 = .ok (.iload 8, 2) := by decide +kernel
theorem dX0_layRule_194 : decode cX0_layRule 194 = .ok (.invokevirtual 66, 3) := by decide +kernel
theorem dX0_layRule_197 : decode cX0_layRule 197 = .ok (.istore 5, 2) := by decide +kernel
theorem dX0_layRule_199 : decode cX0_layRule 199 = .ok (.goto 18, 3) := by decide +kernel
theorem dX0_layRule_202 : decode cX0_layRule 202 = .ok (.aload_n 0, 1) := by decide +kernel
theorem dX0_layRule_203 : decode cX0_layRule 203 = .ok (.iload 9, 2) := by decide +kernel
theorem dX0_layRule_205 : decode cX0_layRule 205 = .ok (.iload 6, 2) := by decide +kernel
theorem dX0_layRule_207 : decode cX0_layRule 207 = .ok (.iconst 2, 1) := by decide +kernel
theorem dX0_layRule_208 : decode cX0_layRule 208 = .ok (.isub, 1) := by decide +kernel
theorem dX0_layRule_209 : decode cX0_layRule 209 = .ok (.iload 8, 2) := by decide +kernel
theorem dX0_layRule_211 : decode cX0_layRule 211 = .ok (.iload_n 3, 1) := by decide +kernel
theorem dX0_layRule_212 : decode cX0_layRule 212 = .ok (.invokevirtual 70, 3) := by decide +kernel
theorem dX0_layRule_215 : decode cX0_layRule 215 = .ok (.istore 5, 2) := by decide +kernel
theorem dX0_layRule_217 : decode cX0_layRule 217 = .ok (.iinc 6 1, 3) := by decide +kernel
theorem dX0_layRule_220 : decode cX0_layRule 220 = .ok (.goto (-148), 3) := by decide +kernel
theorem dX0_layRule_223 : decode cX0_layRule 223 = .ok (.aload_n 0, 1) := by decide +kernel
theorem dX0_layRule_224 : decode cX0_layRule 224 = .ok (.dup, 1) := by decide +kernel
theorem dX0_layRule_225 : decode cX0_layRule 225 = .ok (.getfield 22, 3) := by decide +kernel
theorem dX0_layRule_228 : decode cX0_layRule 228 = .ok (.iload 5, 2) := by decide +kernel
theorem dX0_layRule_230 : decode cX0_layRule 230 = .ok (.ifCond .eq 9, 3) := by decide +kernel
theorem dX0_layRule_233 : decode cX0_layRule 233 = .ok (.iconst 1, 1) := by decide +kernel
theorem dX0_layRule_234 : decode cX0_layRule 234 = .ok (.iload_n 1, 1) := by decide +kernel
theorem dX0_layRule_235 : decode cX0_layRule 235 = .ok (.ishl, 1) := by decide +kernel
theorem dX0_layRule_236 : decode cX0_layRule 236 = .ok (.goto 4, 3) := by decide +kernel
theorem dX0_layRule_239 : decode cX0_layRule 239 = .ok (.iconst 0, 1) := by decide +kernel
theorem dX0_layRule_240 : decode cX0_layRule 240 = .ok (.ior, 1) := by decide +kernel
theorem dX0_layRule_241 : decode cX0_layRule 241 = .ok (.putfield 22, 3) := by decide +kernel
theorem dX0_layRule_244 : decode cX0_layRule 244 = .ok (.iload 5, 2) := by decide +kernel
theorem dX0_layRule_246 : decode cX0_layRule 246 = .ok (.ireturn, 1) := by decide +kernel
theorem dX0_moveTo_0 : decode cX0_moveTo 0 = .ok (.aload_n 0, 1) := by decide +kernel
theorem dX0_moveTo_1 : decode cX0_moveTo 1 = .ok (.getfield 18, 3) := by decide +kernel
theorem dX0_moveTo_4 : decode cX0_moveTo 4 = .ok (.i2l, 1) := by decide +kernel
theorem dX0_moveTo_5 : decode cX0_moveTo 5 = .ok (.iload_n 1, 1) := by decide +kernel
theorem dX0_moveTo_6 : decode cX0_moveTo 6 = .ok (.invokestatic 59, 3) := by decide +kernel
theorem dX0_moveTo_9 : decode cX0_moveTo 9 = .ok (.ifCond .eq 51, 3) := by decide +kernel
theorem dX0_moveTo_12 : decode cX0_moveTo 12 = .ok (.aload_n 0, 1) := by decide +kernel
theorem dX0_moveTo_13 : decode cX0_moveTo 13 = .ok (.aload_n 0, 1) := by decide +kernel
theorem dX0_moveTo_14 : decode cX0_moveTo 14 = .ok (.iload_n 1, 1) := by decide +kernel
theorem dX0_moveTo_15 : decode cX0_moveTo 15 = .ok (.iconst 0, 1) := by decide +kernel
theorem dX0_moveTo_16 : decode cX0_moveTo 16 = .ok (.invokevirtual 63, 3) := by decide +kernel
theorem dX0_moveTo_19 : decode cX0_moveTo 19 = .ok (.iconst 0, 1) := by decide +kernel
theorem dX0_moveTo_20 : decode cX0_moveTo 20 = .ok (.iload_n 2, 1) := by decide +kernel
theorem dX0_moveTo_21 : decode cX0_moveTo 21 = .ok (.aload_n 0, 1) := by decide +kernel
theorem dX0_moveTo_22 : decode cX0_moveTo 22 = .ok (.iload_n 1, 1) := by decide +kernel
theorem dX0_moveTo_23 : decode cX0_moveTo 23 = .ok (.iconst 0, 1) := by decide +kernel
theorem dX0_moveTo_24 : decode cX0_moveTo 24 = .ok (.invokevirtual 51, 3) := by decide +kernel
theorem dX0_moveTo_27 : decode cX0_moveTo 27 = .ok (.isub, 1) := by decide +kernel
theorem dX0_moveTo_28 : decode cX0_moveTo 28 = .ok (.invokevirtual 66, 3) := by decide +kernel
theorem dX0_moveTo_31 : decode cX0_moveTo 31 = .ok (.ifCond .eq 29, 3) := by decide +kernel
theorem dX0_moveTo_34 : decode cX0_moveTo 34 = .ok (.aload_n 0, 1) := by decide +kernel
theorem dX0_moveTo_35 : decode cX0_moveTo 35 = .ok (.aload_n 0, 1) := by decide +kernel
theorem dX0_moveTo_36 : decode cX0_moveTo 36 = .ok (.iload_n 1, 1) := by decide +kernel
theorem dX0_moveTo_37 : decode cX0_moveTo 37 = .ok (.iconst 1, 1) := by decide +kernel
theorem dX0_moveTo_38 : decode cX0_moveTo 38 = .ok (.invokevirtual 63, 3) := by decide +kernel
theorem dX0_moveTo_41 : decode cX0_moveTo 41 = .ok (.iconst 1, 1) := by decide +kernel
theorem dX0_moveTo_42 : decode cX0_moveTo 42 = .ok (.iload_n 3, 1) := by decide +kernel
theorem dX0_moveTo_43 : decode cX0_moveTo 43 = .ok (.aload_n 0, 1) := by decide +kernel
theorem dX0_moveTo_44 : decode cX0_moveTo 44 = .ok (.iload_n 1, 1) := by decide +kernel
theorem dX0_moveTo_45 : decode cX0_moveTo 45 = .ok (.iconst 1, 1) := by decide +kernel
theorem dX0_moveTo_46 : decode cX0_moveTo 46 = .ok (.invokevirtual 51, 3) := by decide +kernel
theorem dX0_moveTo_49 : decode cX0_moveTo 49 = .ok (.isub, 1) := by decide +kernel
theorem dX0_moveTo_50 : decode cX0_moveTo 50 = .ok (.invokevirtual 66, 3) := by decide +kernel
theorem dX0_moveTo_53 : decode cX0_moveTo 53 = .ok (.ifCond .eq 7, 3) := by decide +kernel
theorem dX0_moveTo_56 : decode cX0_moveTo 56 = .ok (.iconst 1, 1) := by decide +kernel
theorem dX0_moveTo_57 : decode cX0_moveTo 57 = .ok (.goto 4, 3) := by decide +kernel
theorem dX0_moveTo_60 : decode cX0_moveTo 60 = .ok (.iconst 0, 1) := by decide +kernel
theorem dX0_moveTo_61 : decode cX0_moveTo 61 = .ok (.ireturn, 1) := by decide +kernel
theorem dX0_resizeTo_0 : decode cX0_resizeTo 0 = .ok (.aload_n 0, 1) := by decide +kernel
theorem dX0_resizeTo_1 : decode cX0_resizeTo 1 = .ok (.getfield 18, 3) := by decide +kernel
theorem dX0_resizeTo_4 : decode cX0_resizeTo 4 = .ok (.i2l, 1) := by decide +kernel
theorem dX0_resizeTo_5 : decode cX0_resizeTo 5 = .ok (.iload_n 1, 1) := by decide +kernel
theorem dX0_resizeTo_6 : decode cX0_resizeTo 6 = .ok (.invokestatic 59, 3) := by decide +kernel
theorem dX0_resizeTo_9 : decode cX0_resizeTo 9 = .ok (.ifCond .eq 53, 3) := by decide +kernel
theorem dX0_resizeTo_12 : decode cX0_resizeTo 12 = .ok (.aload_n 0, 1) := by decide +kernel
theorem dX0_resizeTo_13 : decode cX0_resizeTo 13 = .ok (.aload_n 0, 1) := by decide +kernel
theorem dX0_resizeTo_14 : decode cX0_resizeTo 14 = .ok (.iload_n 1, 1) := by decide +kernel
theorem dX0_resizeTo_15 : decode cX0_resizeTo 15 = .ok (.iconst 2, 1) := by decide +kernel
theorem dX0_resizeTo_16 : decode cX0_resizeTo 16 = .ok (.invokevirtual 63, 3) := by decide +kernel
theorem dX0_resizeTo_19 : decode cX0_resizeTo 19 = .ok (.iconst 0, 1) := by decide +kernel
theorem dX0_resizeTo_20 : decode cX0_resizeTo 20 = .ok (.iload_n 2, 1) := by decide +kernel
theorem dX0_resizeTo_21 : decode cX0_resizeTo 21 = .ok (.aload_n 0, 1) := by decide +kernel
theorem dX0_resizeTo_22 : decode cX0_resizeTo 22 = .ok (.iload_n 1, 1) := by decide +kernel
theorem dX0_resizeTo_23 : decode cX0_resizeTo 23 = .ok (.iconst 2, 1) := by decide +kernel
theorem dX0_resizeTo_24 : decode cX0_resizeTo 24 = .ok (.invokevirtual 51, 3) := by decide +kernel
theorem dX0_resizeTo_27 : decode cX0_resizeTo 27 = .ok (.isub, 1) := by decide +kernel
theorem dX0_resizeTo_28 : decode cX0_resizeTo 28 = .ok (.iload_n 1, 1) := by decide +kernel
theorem dX0_resizeTo_29 : decode cX0_resizeTo 29 = .ok (.invokevirtual 70, 3) := by decide +kernel
theorem dX0_resizeTo_32 : decode cX0_resizeTo 32 = .ok (.ifCond .eq 30, 3) := by decide +kernel
theorem dX0_resizeTo_35 : decode cX0_resizeTo 35 = .ok (.aload_n 0, 1) := by decide +kernel
theorem dX0_resizeTo_36 : decode cX0_resizeTo 36 = .ok (.aload_n 0, 1) := by decide +kernel
theorem dX0_resizeTo_37 : decode cX0_resizeTo 37 = .ok (.iload_n 1, 1) := by decide +kernel
theorem dX0_resizeTo_38 : decode cX0_resizeTo 38 = .ok (.iconst 3, 1) := by decide +kernel
theorem dX0_resizeTo_39 : decode cX0_resizeTo 39 = .ok (.invokevirtual 63, 3) := by decide +kernel
theorem dX0_resizeTo_42 : decode cX0_resizeTo 42 = .ok (.iconst 1, 1) := by decide +kernel
theorem dX0_resizeTo_43 : decode cX0_resizeTo 43 = .ok (.iload_n 3, 1) := by decide +kernel
theorem dX0_resizeTo_44 : decode cX0_resizeTo 44 = .ok (.aload_n 0, 1) := by decide +kernel
theorem dX0_resizeTo_45 : decode cX0_resizeTo 45 = .ok (.iload_n 1, 1) := by decide +kernel
theorem dX0_resizeTo_46 : decode cX0_resizeTo 46 = .ok (.iconst 3, 1) := by decide +kernel
theorem dX0_resizeTo_47 : decode cX0_resizeTo 47 = .ok (.invokevirtual 51, 3) := by decide +kernel
theorem dX0_resizeTo_50 : decode cX0_resizeTo 50 = .ok (.isub, 1) := by decide +kernel
theorem dX0_resizeTo_51 : decode cX0_resizeTo 51 = .ok (.iload_n 1, 1) := by decide +kernel
theorem dX0_resizeTo_52 : decode cX0_resizeTo 52 = .ok (.invokevirtual 70, 3) := by decide +kernel
theorem dX0_resizeTo_55 : decode cX0_resizeTo 55 = .ok (.ifCond .eq 7, 3) := by decide +kernel
theorem dX0_resizeTo_58 : decode cX0_resizeTo 58 = .ok (.iconst 1, 1) := by decide +kernel
theorem dX0_resizeTo_59 : decode cX0_resizeTo 59 = .ok (.goto 4, 3) := by decide +kernel
theorem dX0_resizeTo_62 : decode cX0_resizeTo 62 = .ok (.iconst 0, 1) := by decide +kernel
theorem dX0_resizeTo_63 : decode cX0_resizeTo 63 = .ok (.ireturn, 1) := by decide +kernel
theorem fl_RX0_9 : FL RX0 9 0 3 (tyX0 3) := ⟨RX0, TX0, 7, tyX0, rfl, by decide, lyX0, tyX0_ok, nmX0, rfl, Or.inl (tb2 (mem_i 17 rfl))⟩
theorem ml_RX0_47 : MS RX0 47 yX7_put 3 := ⟨⟨by decide +kernel, by decide +kernel, by decide +kernel⟩, tb5 (mem_i 14 rfl), tb0 (mem_i 1 rfl), Or.inr ⟨_, nf1 (mem_i 9 rfl)⟩⟩
theorem ml_RX0_55 : MV RX0 55 0 yX0_set 3 := ⟨⟨by decide +kernel, by decide +kernel, by decide +kernel⟩, tb6 (mem_i 9 rfl), tb0 (mem_i 6 rfl), Or.inl (tb6 (mem_i 8 rfl)), RX0, TX0, 7, rfl, rfl, tb16 (mem_i 15 rfl)⟩
theorem fl_RX0_18 : FL RX0 18 0 5 .int := ⟨RX0, TX0, 7, tyX0, rfl, by decide, lyX0, tyX0_ok, nmX0, rfl, Or.inl (tb2 (mem_i 19 rfl))⟩
theorem fp_0_5 : FP 0 5 := fun C T N h => by cases h; rfl
theorem ml_RX0_59 : MS RX0 59 yX7_has 2 := ⟨⟨by decide +kernel, by decide +kernel, by decide +kernel⟩, tb6 (mem_i 13 rfl), tb0 (mem_i 1 rfl), Or.inr ⟨_, nf1 (mem_i 11 rfl)⟩⟩
theorem ml_RX0_43 : MS RX0 43 yX7_read 2 := ⟨⟨by decide +kernel, by decide +kernel, by decide +kernel⟩, tb5 (mem_i 18 rfl), tb0 (mem_i 1 rfl), Or.inr ⟨_, nf1 (mem_i 12 rfl)⟩⟩
theorem ml_RX0_51 : MV RX0 51 0 yX0_numberOf 2 := ⟨⟨by decide +kernel, by decide +kernel, by decide +kernel⟩, tb6 (mem_i 24 rfl), tb0 (mem_i 6 rfl), Or.inl (tb6 (mem_i 23 rfl)), RX0, TX0, 7, rfl, rfl, tb16 (mem_i 19 rfl)⟩
theorem ml_RX0_101 : MS RX0 101 yX7_isInRange 2 := ⟨⟨by decide +kernel, by decide +kernel, by decide +kernel⟩, tb5 (mem_i 7 rfl), tb0 (mem_i 1 rfl), Or.inr ⟨_, nf1 (mem_i 15 rfl)⟩⟩
theorem fl_RX0_22 : FL RX0 22 0 6 .int := ⟨RX0, TX0, 7, tyX0, rfl, by decide, lyX0, tyX0_ok, nmX0, rfl, Or.inl (tb2 (mem_i 20 rfl))⟩
theorem fp_0_6 : FP 0 6 := fun C T N h => by cases h; rfl
theorem fl_RX0_15 : FL RX0 15 0 4 (tyX0 4) := ⟨RX0, TX0, 7, tyX0, rfl, by decide, lyX0, tyX0_ok, nmX0, rfl, Or.inl (tb2 (mem_i 18 rfl))⟩
theorem fl_RX0_29 : FL RX0 29 0 1 (tyX0 1) := ⟨RX0, TX0, 7, tyX0, rfl, by decide, lyX0, tyX0_ok, nmX0, rfl, Or.inl (tb2 (mem_i 15 rfl))⟩
theorem fl_RX0_74 : FL RX0 74 4 1 (tyX4 1) := ⟨RX4, TX4, 4, tyX4, rfl, by decide, lyX4, tyX4_ok, nmX4, rfl, Or.inr ⟨_, nf0 (mem_i 4 rfl)⟩⟩
theorem ml_RX0_85 : MS RX0 85 yX7_isAbout 2 := ⟨⟨by decide +kernel, by decide +kernel, by decide +kernel⟩, tb6 (mem_i 21 rfl), tb0 (mem_i 1 rfl), Or.inr ⟨_, nf1 (mem_i 13 rfl)⟩⟩
theorem fl_RX0_79 : FL RX0 79 4 2 (tyX4 2) := ⟨RX4, TX4, 4, tyX4, rfl, by decide, lyX4, tyX4_ok, nmX4, rfl, Or.inr ⟨_, nf0 (mem_i 6 rfl)⟩⟩
theorem ml_RX0_89 : MV RX0 89 0 yX0_gapOf 2 := ⟨⟨by decide +kernel, by decide +kernel, by decide +kernel⟩, tb7 (mem_i 10 rfl), tb0 (mem_i 6 rfl), Or.inl (tb7 (mem_i 9 rfl)), RX0, TX0, 7, rfl, rfl, tb16 (mem_i 25 rfl)⟩
theorem fl_RX0_82 : FL RX0 82 4 3 (tyX4 3) := ⟨RX4, TX4, 4, tyX4, rfl, by decide, lyX4, tyX4_ok, nmX4, rfl, Or.inr ⟨_, nf0 (mem_i 8 rfl)⟩⟩
theorem ml_RX0_92 : MV RX0 92 0 yX0_isLink 2 := ⟨⟨by decide +kernel, by decide +kernel, by decide +kernel⟩, tb6 (mem_i 19 rfl), tb0 (mem_i 6 rfl), Or.inl (tb6 (mem_i 18 rfl)), RX0, TX0, 7, rfl, rfl, tb16 (mem_i 18 rfl)⟩
theorem ml_RX0_110 : MV RX0 110 0 yX0_areInRange 1 := ⟨⟨by decide +kernel, by decide +kernel, by decide +kernel⟩, tb7 (mem_i 20 rfl), tb0 (mem_i 6 rfl), Or.inl (tb7 (mem_i 19 rfl)), RX0, TX0, 7, rfl, rfl, tb16 (mem_i 27 rfl)⟩
theorem fl_RX0_33 : FL RX0 33 0 2 .boolean := ⟨RX0, TX0, 7, tyX0, rfl, by decide, lyX0, tyX0_ok, nmX0, rfl, Or.inl (tb2 (mem_i 16 rfl))⟩
theorem ml_RX0_114 : MS RX0 114 yJ6_numberOfTrailingZeros_0f7a4 1 := ⟨⟨by decide +kernel, by decide +kernel, by decide +kernel⟩, tb7 (mem_i 16 rfl), tb0 (mem_i 16 rfl), Or.inl (tb7 (mem_i 15 rfl))⟩
theorem ml_RX0_107 : MV RX0 107 0 yX0_tellByWalk 2 := ⟨⟨by decide +kernel, by decide +kernel, by decide +kernel⟩, tb7 (mem_i 13 rfl), tb0 (mem_i 6 rfl), Or.inl (tb7 (mem_i 12 rfl)), RX0, TX0, 7, rfl, rfl, tb16 (mem_i 26 rfl)⟩
theorem ml_RX0_104 : MV RX0 104 0 yX0_tellInRounds 2 := ⟨⟨by decide +kernel, by decide +kernel, by decide +kernel⟩, tb7 (mem_i 7 rfl), tb0 (mem_i 6 rfl), Or.inl (tb7 (mem_i 6 rfl)), RX0, TX0, 7, rfl, rfl, tb16 (mem_i 24 rfl)⟩
theorem ml_RX0_63 : MV RX0 63 0 yX0_groupOf 2 := ⟨⟨by decide +kernel, by decide +kernel, by decide +kernel⟩, tb6 (mem_i 16 rfl), tb0 (mem_i 6 rfl), Or.inl (tb6 (mem_i 15 rfl)), RX0, TX0, 7, rfl, rfl, tb16 (mem_i 17 rfl)⟩
theorem fl_RX0_25 : FL RX0 25 0 0 (tyX0 0) := ⟨RX0, TX0, 7, tyX0, rfl, by decide, lyX0, tyX0_ok, nmX0, rfl, Or.inl (tb2 (mem_i 14 rfl))⟩
theorem ml_RX0_95 : MV RX0 95 5 yX5_lettersOf 1 := ⟨⟨by decide +kernel, by decide +kernel, by decide +kernel⟩, tb6 (mem_i 29 rfl), tb0 (mem_i 2 rfl), Or.inr ⟨_, nf1 (mem_i 14 rfl)⟩, RX5, TX5, 4, rfl, rfl, tb16 (mem_i 21 rfl)⟩
theorem ml_RX0_66 : MV RX0 66 0 yX0_shiftGroup 3 := ⟨⟨by decide +kernel, by decide +kernel, by decide +kernel⟩, tb6 (mem_i 27 rfl), tb0 (mem_i 6 rfl), Or.inl (tb6 (mem_i 26 rfl)), RX0, TX0, 7, rfl, rfl, tb16 (mem_i 20 rfl)⟩
theorem ml_RX0_70 : MV RX0 70 0 yX0_growClass 4 := ⟨⟨by decide +kernel, by decide +kernel, by decide +kernel⟩, tb7 (mem_i 4 rfl), tb0 (mem_i 6 rfl), Or.inl (tb7 (mem_i 3 rfl)), RX0, TX0, 7, rfl, rfl, tb16 (mem_i 23 rfl)⟩
def f_X0_set (a0 : Nat) (p1 : Int32) (p2 : Int32) (p3 : Int32) (S : HS) : Option (HS) :=
(f_X7_put (a0 + 1) ((p1 * (4 : Int32)) + p2) p3 S).bind (fun o10 =>
some o10)
def rm_X0_set : Room := { frames := 1, cells := 0, slots := 0, locals := 22 }
set_option maxRecDepth 100000 in
set_option maxHeartbeats 4000000 in
theorem c_X0_set (l : Launch) (a0 : Nat) (p1 : Int32) (p2 : Int32) (p3 : Int32) (ha0 : oc a0 = some 0) (S : HS) (out : HS) (h : f_X0_set a0 p1 p2 p3 S = some out) : Ct l yX0_set cX0_set 4 none rm_X0_set [vR a0, vI p1, vI p2, vI p3] S none out := by
  refine Ct.intro (own := RX0) (lv := [(0, vR a0), (1, vI p1), (2, vI p2), (3, vI p3)]) (by decide +kernel) rfl ⟨rfl, rfl⟩ rfl (Nat.le_of_ble_eq_true rfl) ?_
  intro G hG hR
  revert h
  unfold f_X0_set
  refine s_aload_n hG dX0_set_0 rfl ?_
  refine s_getC hG dX0_set_1 fl_RX0_9 (fk0_3 _ ha0) ?_
  refine s_iload_n hG dX0_set_4 rfl ?_
  refine s_iconst hG (v := (4 : Int32)) dX0_set_5 (by decide) ?_
  refine s_imul hG dX0_set_6 ?_
  refine s_iload_n hG dX0_set_7 rfl ?_
  refine s_iadd hG dX0_set_8 ?_
  refine s_iload_n hG dX0_set_9 rfl ?_
  refine s_csV hG (as := [vR (a0 + 1), vI ((p1 * (4 : Int32)) + p2), vI p3]) (st := []) (rm := rm_X7_put) dX0_set_10 ml_RX0_47 (tb5 (mem_i 15 rfl)) rfl ⟨rfl, rfl⟩ ⟨by decide, by decide⟩ (Nat.le_of_ble_eq_true rfl) ⟨Nat.zero_le _, Nat.zero_le _⟩ rfl (fun o h => c_X7_put l _ _ _ (ak_len (ak0_3 _ ha0)) _ o h) (fun o10 => ?_)
  exact s_rvC hR dX0_set_13

def f_X0_addShape (a0 : Nat) (p1 : Int32) (p2 : Int32) (p3 : Int32) (p4 : Int32) (p5 : Int32) (S : HS) : Option (HS × Int32) :=
(f_X0_set a0 p1 (0 : Int32) p2 S).bind (fun o4 =>
(f_X0_set a0 p1 (1 : Int32) p3 o4).bind (fun o11 =>
(f_X0_set a0 p1 (2 : Int32) p4 o11).bind (fun o19 =>
(f_X0_set a0 p1 (3 : Int32) p5 o19).bind (fun o27 =>
if nz (1 : Int32) = true then some ((sI o27 a0 5 ((o27.1 a0 5) ||| ((1 : Int32) <<< (p1 &&& 31)))), (1 : Int32)) else none))))
def rm_X0_addShape : Room := { frames := 2, cells := 0, slots := 0, locals := 45 }
set_option maxRecDepth 100000 in
set_option maxHeartbeats 4000000 in
theorem c_X0_addShape (l : Launch) (a0 : Nat) (p1 : Int32) (p2 : Int32) (p3 : Int32) (p4 : Int32) (p5 : Int32) (ha0 : oc a0 = some 0) (S : HS) (out : HS × Int32) (h : f_X0_addShape a0 p1 p2 p3 p4 p5 S = some out) : Ct l yX0_addShape cX0_addShape 6 (some .boolean) rm_X0_addShape [vR a0, vI p1, vI p2, vI p3, vI p4, vI p5] S (some (vI out.2)) out.1 := by
  refine Ct.intro (own := RX0) (lv := [(0, vR a0), (1, vI p1), (2, vI p2), (3, vI p3), (4, vI p4), (5, vI p5)]) (by decide +kernel) rfl ⟨rfl, rfl⟩ rfl (Nat.le_of_ble_eq_true rfl) ?_
  intro G hG hR
  revert h
  unfold f_X0_addShape
  refine s_aload_n hG dX0_addShape_0 rfl ?_
  refine s_iload_n hG dX0_addShape_1 rfl ?_
  refine s_iconst hG (v := (0 : Int32)) dX0_addShape_2 (by decide) ?_
  refine s_iload_n hG dX0_addShape_3 rfl ?_
  refine s_cvV hG (as := [vI p1, vI (0 : Int32), vI p2]) (st := []) (rm := rm_X0_set) dX0_addShape_4 ml_RX0_55 (ha0) (tb6 (mem_i 10 rfl)) rfl ⟨rfl, rfl⟩ ⟨by decide, by decide⟩ (Nat.le_of_ble_eq_true rfl) ⟨Nat.zero_le _, Nat.zero_le _⟩ rfl (fun o h => c_X0_set l _ _ _ _ (ha0) _ o h) (fun o4 => ?_)
  refine s_aload_n hG dX0_addShape_7 rfl ?_
  refine s_iload_n hG dX0_addShape_8 rfl ?_
  refine s_iconst hG (v := (1 : Int32)) dX0_addShape_9 (by decide) ?_
  refine s_iload_n hG dX0_addShape_10 rfl ?_
  refine s_cvV hG (as := [vI p1, vI (1 : Int32), vI p3]) (st := []) (rm := rm_X0_set) dX0_addShape_11 ml_RX0_55 (ha0) (tb6 (mem_i 10 rfl)) rfl ⟨rfl, rfl⟩ ⟨by decide, by decide⟩ (Nat.le_of_ble_eq_true rfl) ⟨Nat.zero_le _, Nat.zero_le _⟩ rfl (fun o h => c_X0_set l _ _ _ _ (ha0) _ o h) (fun o11 => ?_)
  refine s_aload_n hG dX0_addShape_14 rfl ?_
  refine s_iload_n hG dX0_addShape_15 rfl ?_
  refine s_iconst hG (v := (2 : Int32)) dX0_addShape_16 (by decide) ?_
  refine s_iload hG dX0_addShape_17 rfl ?_
  refine s_cvV hG (as := [vI p1, vI (2 : Int32), vI p4]) (st := []) (rm := rm_X0_set) dX0_addShape_19 ml_RX0_55 (ha0) (tb6 (mem_i 10 rfl)) rfl ⟨rfl, rfl⟩ ⟨by decide, by decide⟩ (Nat.le_of_ble_eq_true rfl) ⟨Nat.zero_le _, Nat.zero_le _⟩ rfl (fun o h => c_X0_set l _ _ _ _ (ha0) _ o h) (fun o19 => ?_)
  refine s_aload_n hG dX0_addShape_22 rfl ?_
  refine s_iload_n hG dX0_addShape_23 rfl ?_
  refine s_iconst hG (v := (3 : Int32)) dX0_addShape_24 (by decide) ?_
  refine s_iload hG dX0_addShape_25 rfl ?_
  refine s_cvV hG (as := [vI p1, vI (3 : Int32), vI p5]) (st := []) (rm := rm_X0_set) dX0_addShape_27 ml_RX0_55 (ha0) (tb6 (mem_i 10 rfl)) rfl ⟨rfl, rfl⟩ ⟨by decide, by decide⟩ (Nat.le_of_ble_eq_true rfl) ⟨Nat.zero_le _, Nat.zero_le _⟩ rfl (fun o h => c_X0_set l _ _ _ _ (ha0) _ o h) (fun o27 => ?_)
  refine s_aload_n hG dX0_addShape_30 rfl ?_
  refine s_dup hG dX0_addShape_31 rfl ?_
  refine s_getI hG dX0_addShape_32 fl_RX0_18 (fk0_5 _ ha0) ?_
  refine s_iconst hG (v := (1 : Int32)) dX0_addShape_35 (by decide) ?_
  refine s_iload_n hG dX0_addShape_36 rfl ?_
  refine s_ishl hG dX0_addShape_37 ?_
  refine s_ior hG dX0_addShape_38 ?_
  refine s_putI hG dX0_addShape_39 fl_RX0_18 fp_0_5 (fk0_5 _ ha0) ⟨rfl, rfl⟩ ?_
  refine s_iconst hG (v := (1 : Int32)) dX0_addShape_42 (by decide) ?_
  exact s_rzC hR dX0_addShape_43

def f_X0_numberOf (a0 : Nat) (p1 : Int32) (p2 : Int32) (S : HS) : Option (Int32) :=
(f_X7_read (a0 + 1) ((p1 * (4 : Int32)) + p2) S).bind (fun o9 =>
some o9)
def rm_X0_numberOf : Room := { frames := 1, cells := 0, slots := 0, locals := 21 }
set_option maxRecDepth 100000 in
set_option maxHeartbeats 4000000 in
theorem c_X0_numberOf (l : Launch) (a0 : Nat) (p1 : Int32) (p2 : Int32) (ha0 : oc a0 = some 0) (S : HS) (out : Int32) (h : f_X0_numberOf a0 p1 p2 S = some out) : Ct l yX0_numberOf cX0_numberOf 3 (some .int) rm_X0_numberOf [vR a0, vI p1, vI p2] S (some (vI out)) S := by
  refine Ct.intro (own := RX0) (lv := [(0, vR a0), (1, vI p1), (2, vI p2)]) (by decide +kernel) rfl ⟨rfl, rfl⟩ rfl (Nat.le_of_ble_eq_true rfl) ?_
  intro G hG hR
  revert h
  unfold f_X0_numberOf
  refine s_aload_n hG dX0_numberOf_0 rfl ?_
  refine s_getC hG dX0_numberOf_1 fl_RX0_9 (fk0_3 _ ha0) ?_
  refine s_iload_n hG dX0_numberOf_4 rfl ?_
  refine s_iconst hG (v := (4 : Int32)) dX0_numberOf_5 (by decide) ?_
  refine s_imul hG dX0_numberOf_6 ?_
  refine s_iload_n hG dX0_numberOf_7 rfl ?_
  refine s_iadd hG dX0_numberOf_8 ?_
  refine s_csP hG (as := [vR (a0 + 1), vI ((p1 * (4 : Int32)) + p2)]) (st := []) (rm := rm_X7_read) dX0_numberOf_9 ml_RX0_43 (tb5 (mem_i 19 rfl)) rfl ⟨rfl, rfl⟩ ⟨by decide, by decide⟩ (Nat.le_of_ble_eq_true rfl) ⟨Nat.zero_le _, Nat.zero_le _⟩ rfl (fun o h => c_X7_read l _ _ (ak_len (ak0_3 _ ha0)) _ o h) (fun o9 => ?_)
  exact s_riP hR dX0_numberOf_12

def f_X0_areInRange_b35 (a0 : Nat) (p1 : Int32) (rec2 : Int32 → Option (Int32)) (S : HS) (x2 : Int32) : Option (Int32) :=
rec2 ((x2 + (1 : Int32)))
def F_X0_areInRange_b2 (a0 : Nat) (p1 : Int32)  (S : HS) (rec2 : Int32 → Option (Int32)) : Int32 → Option (Int32) := fun q => match q with
  | (x2) =>
    if (10 : Int32) ≤ x2 then
    if nz (1 : Int32) = true then some (1 : Int32) else none
    else
    (f_X7_has ((S.1 a0 5).toInt64) x2 S).bind (fun o14 =>
    if o14 = 0 then
    f_X0_areInRange_b35 a0 p1 rec2 S x2
    else
    (f_X0_numberOf a0 x2 p1 S).bind (fun o23 =>
    (f_X7_isInRange o23 p1 S).bind (fun o27 =>
    if o27 = 0 then
    if nz (0 : Int32) = true then some (0 : Int32) else none
    else
    f_X0_areInRange_b35 a0 p1 rec2 S x2)))
def f_X0_areInRange_b2 (a0 : Nat) (p1 : Int32)  (S : HS) (x2 : Int32) : Option (Int32) := fx (F_X0_areInRange_b2 a0 p1 S) FU (x2)
def f_X0_areInRange (a0 : Nat) (p1 : Int32) (S : HS) : Option (Int32) :=
f_X0_areInRange_b2 a0 p1  S (0 : Int32)
def rm_X0_areInRange : Room := { frames := 2, cells := 0, slots := 0, locals := 43 }
set_option maxRecDepth 100000 in
set_option maxHeartbeats 4000000 in
theorem c_X0_areInRange (l : Launch) (a0 : Nat) (p1 : Int32) (ha0 : oc a0 = some 0) (S : HS) (out : Int32) (h : f_X0_areInRange a0 p1 S = some out) : Ct l yX0_areInRange cX0_areInRange 3 (some .boolean) rm_X0_areInRange [vR a0, vI p1] S (some (vI out)) S := by
  refine Ct.intro (own := RX0) (lv := [(0, vR a0), (1, vI p1)]) (by decide +kernel) rfl ⟨rfl, rfl⟩ rfl (Nat.le_of_ble_eq_true rfl) ?_
  intro G hG hR
  revert h
  have hb35 : ∀ (rec2 : Int32 → Option (Int32)) (hrec2 : ∀ (x2 : Int32), rec2 (x2) = some out → G 0 0 S [(0, vR a0), (1, vI p1), (2, vI x2)] 2 []) (x2 : Int32), f_X0_areInRange_b35 a0 p1 rec2 S x2 = some out → G 0 0 S [(0, vR a0), (1, vI p1), (2, vI x2)] 35 [] := by
    intro rec2 hrec2 x2
    unfold f_X0_areInRange_b35
    refine s_iinc hG (v := (x2 + (1 : Int32))) (lv' := [(2, vI (x2 + (1 : Int32))), (0, vR a0), (1, vI p1)]) dX0_areInRange_35 rfl rfl (by decide) rfl ?_
    refine s_goto hG (tgt := 2) dX0_areInRange_38 (by decide) ?_
    refine s_lv hG [1, 2, 0] rfl ?_
    exact hrec2 _
  have hb2 : ∀ (x2 : Int32), f_X0_areInRange_b2 a0 p1 S x2 = some out → G 0 0 S [(0, vR a0), (1, vI p1), (2, vI x2)] 2 [] := by
    intro  x2
    unfold f_X0_areInRange_b2
    generalize FU = nf
    revert x2
    induction nf with
    | zero => intro x2 h9; cases h9
    | succ nf hrec2 =>
      intro x2
      show F_X0_areInRange_b2 a0 p1 S (fx (F_X0_areInRange_b2 a0 p1 S) nf) (x2) = some out → _
      generalize fx (F_X0_areInRange_b2 a0 p1 S) nf = rec2 at hrec2
      unfold F_X0_areInRange_b2
      dsimp only
      refine s_iload_n hG dX0_areInRange_2 rfl ?_
      refine s_bipush hG (v := (10 : Int32)) dX0_areInRange_3 (by decide) ?_
      refine s_icmp_ge hG (tgt := 41) dX0_areInRange_5 (by decide) ?_ ?_
      · refine s_iconst hG (v := (1 : Int32)) dX0_areInRange_41 (by decide) ?_
        exact s_rzP hR dX0_areInRange_42
      · refine s_aload_n hG dX0_areInRange_8 rfl ?_
        refine s_getI hG dX0_areInRange_9 fl_RX0_18 (fk0_5 _ ha0) ?_
        refine s_i2l hG dX0_areInRange_12 ?_
        refine s_iload_n hG dX0_areInRange_13 rfl ?_
        refine s_csP hG (as := [vL ((S.1 a0 5).toInt64), vI x2]) (st := []) (rm := rm_X7_has) dX0_areInRange_14 ml_RX0_59 (tb6 (mem_i 14 rfl)) rfl ⟨rfl, rfl⟩ ⟨by decide, by decide⟩ (Nat.le_of_ble_eq_true rfl) ⟨Nat.zero_le _, Nat.zero_le _⟩ rfl (fun o h => c_X7_has l _ _ _ o h) (fun o14 => ?_)
        refine s_if_eq hG (tgt := 35) dX0_areInRange_17 (by decide) ?_ ?_
        · exact hb35 _ hrec2 _
        · refine s_aload_n hG dX0_areInRange_20 rfl ?_
          refine s_iload_n hG dX0_areInRange_21 rfl ?_
          refine s_iload_n hG dX0_areInRange_22 rfl ?_
          refine s_cvP hG (as := [vI x2, vI p1]) (st := []) (rm := rm_X0_numberOf) dX0_areInRange_23 ml_RX0_51 (ha0) (tb6 (mem_i 25 rfl)) rfl ⟨rfl, rfl⟩ ⟨by decide, by decide⟩ (Nat.le_of_ble_eq_true rfl) ⟨Nat.zero_le _, Nat.zero_le _⟩ rfl (fun o h => c_X0_numberOf l _ _ _ (ha0) _ o h) (fun o23 => ?_)
          refine s_iload_n hG dX0_areInRange_26 rfl ?_
          refine s_csP hG (as := [vI o23, vI p1]) (st := []) (rm := rm_X7_isInRange) dX0_areInRange_27 ml_RX0_101 (tb5 (mem_i 8 rfl)) rfl ⟨rfl, rfl⟩ ⟨by decide, by decide⟩ (Nat.le_of_ble_eq_true rfl) ⟨Nat.zero_le _, Nat.zero_le _⟩ rfl (fun o h => c_X7_isInRange l _ _ _ o h) (fun o27 => ?_)
          refine s_if_ne hG (tgt := 35) dX0_areInRange_30 (by decide) ?_ ?_
          · exact hb35 _ hrec2 _
          · refine s_iconst hG (v := (0 : Int32)) dX0_areInRange_33 (by decide) ?_
            exact s_rzP hR dX0_areInRange_34
  unfold f_X0_areInRange
  refine s_iconst hG (v := (0 : Int32)) dX0_areInRange_0 (by decide) ?_
  refine s_istore_n hG (lv' := [(2, vI (0 : Int32)), (0, vR a0), (1, vI p1)]) dX0_areInRange_1 (by decide) rfl ?_
  refine s_lv hG [1, 2, 0] rfl ?_
  exact hb2 _

def f_X0_clear (a0 : Nat) (S : HS) : Option (HS) :=
some (sI (sI S a0 5 (0 : Int32)) a0 6 (0 : Int32))
def rm_X0_clear : Room := { frames := 0, cells := 0, slots := 0, locals := 0 }
set_option maxRecDepth 100000 in
set_option maxHeartbeats 4000000 in
theorem c_X0_clear (l : Launch) (a0 : Nat) (ha0 : oc a0 = some 0) (S : HS) (out : HS) (h : f_X0_clear a0 S = some out) : Ct l yX0_clear cX0_clear 1 none rm_X0_clear [vR a0] S none out := by
  refine Ct.intro (own := RX0) (lv := [(0, vR a0)]) (by decide +kernel) rfl ⟨rfl, rfl⟩ rfl (Nat.le_of_ble_eq_true rfl) ?_
  intro G hG hR
  revert h
  unfold f_X0_clear
  refine s_aload_n hG dX0_clear_0 rfl ?_
  refine s_iconst hG (v := (0 : Int32)) dX0_clear_1 (by decide) ?_
  refine s_putI hG dX0_clear_2 fl_RX0_18 fp_0_5 (fk0_5 _ ha0) ⟨rfl, rfl⟩ ?_
  refine s_aload_n hG dX0_clear_5 rfl ?_
  refine s_iconst hG (v := (0 : Int32)) dX0_clear_6 (by decide) ?_
  refine s_putI hG dX0_clear_7 fl_RX0_22 fp_0_6 (fk0_6 _ ha0) ⟨rfl, rfl⟩ ?_
  exact s_rvC hR dX0_clear_10

def f_X0_copyFrom (a0 : Nat) (a1 : Nat) (S : HS) : Option (HS) :=
if (0 : Int32) < 0 ∨ (0 : Int32) < 0 ∨ (40 : Int32) < 0 ∨ 40 < (0 : Int32).toNatClampNeg + (40 : Int32).toNatClampNeg ∨ 40 < (0 : Int32).toNatClampNeg + (40 : Int32).toNatClampNeg then none else
if (0 : Int32) < 0 ∨ (0 : Int32) < 0 ∨ (24 : Int32) < 0 ∨ 24 < (0 : Int32).toNatClampNeg + (24 : Int32).toNatClampNeg ∨ 24 < (0 : Int32).toNatClampNeg + (24 : Int32).toNatClampNeg then none else
some (sI (sI (sA (sA S (a0 + 1) (va_cpy (S.1 (a1 + 1)) (S.1 (a0 + 1)) (0 : Int32).toNatClampNeg (0 : Int32).toNatClampNeg (40 : Int32).toNatClampNeg)) (a0 + 2) (va_cpy ((sA S (a0 + 1) (va_cpy (S.1 (a1 + 1)) (S.1 (a0 + 1)) (0 : Int32).toNatClampNeg (0 : Int32).toNatClampNeg (40 : Int32).toNatClampNeg)).1 (a1 + 2)) ((sA S (a0 + 1) (va_cpy (S.1 (a1 + 1)) (S.1 (a0 + 1)) (0 : Int32).toNatClampNeg (0 : Int32).toNatClampNeg (40 : Int32).toNatClampNeg)).1 (a0 + 2)) (0 : Int32).toNatClampNeg (0 : Int32).toNatClampNeg (24 : Int32).toNatClampNeg)) a0 5 ((sA (sA S (a0 + 1) (va_cpy (S.1 (a1 + 1)) (S.1 (a0 + 1)) (0 : Int32).toNatClampNeg (0 : Int32).toNatClampNeg (40 : Int32).toNatClampNeg)) (a0 + 2) (va_cpy ((sA S (a0 + 1) (va_cpy (S.1 (a1 + 1)) (S.1 (a0 + 1)) (0 : Int32).toNatClampNeg (0 : Int32).toNatClampNeg (40 : Int32).toNatClampNeg)).1 (a1 + 2)) ((sA S (a0 + 1) (va_cpy (S.1 (a1 + 1)) (S.1 (a0 + 1)) (0 : Int32).toNatClampNeg (0 : Int32).toNatClampNeg (40 : Int32).toNatClampNeg)).1 (a0 + 2)) (0 : Int32).toNatClampNeg (0 : Int32).toNatClampNeg (24 : Int32).toNatClampNeg)).1 a1 5)) a0 6 ((sI (sA (sA S (a0 + 1) (va_cpy (S.1 (a1 + 1)) (S.1 (a0 + 1)) (0 : Int32).toNatClampNeg (0 : Int32).toNatClampNeg (40 : Int32).toNatClampNeg)) (a0 + 2) (va_cpy ((sA S (a0 + 1) (va_cpy (S.1 (a1 + 1)) (S.1 (a0 + 1)) (0 : Int32).toNatClampNeg (0 : Int32).toNatClampNeg (40 : Int32).toNatClampNeg)).1 (a1 + 2)) ((sA S (a0 + 1) (va_cpy (S.1 (a1 + 1)) (S.1 (a0 + 1)) (0 : Int32).toNatClampNeg (0 : Int32).toNatClampNeg (40 : Int32).toNatClampNeg)).1 (a0 + 2)) (0 : Int32).toNatClampNeg (0 : Int32).toNatClampNeg (24 : Int32).toNatClampNeg)) a0 5 ((sA (sA S (a0 + 1) (va_cpy (S.1 (a1 + 1)) (S.1 (a0 + 1)) (0 : Int32).toNatClampNeg (0 : Int32).toNatClampNeg (40 : Int32).toNatClampNeg)) (a0 + 2) (va_cpy ((sA S (a0 + 1) (va_cpy (S.1 (a1 + 1)) (S.1 (a0 + 1)) (0 : Int32).toNatClampNeg (0 : Int32).toNatClampNeg (40 : Int32).toNatClampNeg)).1 (a1 + 2)) ((sA S (a0 + 1) (va_cpy (S.1 (a1 + 1)) (S.1 (a0 + 1)) (0 : Int32).toNatClampNeg (0 : Int32).toNatClampNeg (40 : Int32).toNatClampNeg)).1 (a0 + 2)) (0 : Int32).toNatClampNeg (0 : Int32).toNatClampNeg (24 : Int32).toNatClampNeg)).1 a1 5)).1 a1 6))
def rm_X0_copyFrom : Room := { frames := 1, cells := 0, slots := 0, locals := 40 }
set_option maxRecDepth 100000 in
set_option maxHeartbeats 4000000 in
theorem c_X0_copyFrom (l : Launch) (a0 : Nat) (a1 : Nat) (ha0 : oc a0 = some 0) (ha1 : oc a1 = some 0) (S : HS) (out : HS) (h : f_X0_copyFrom a0 a1 S = some out) : Ct l yX0_copyFrom cX0_copyFrom 2 none rm_X0_copyFrom [vR a0, vR a1] S none out := by
  refine Ct.intro (own := RX0) (lv := [(0, vR a0), (1, vR a1)]) (by decide +kernel) rfl ⟨rfl, rfl⟩ rfl (Nat.le_of_ble_eq_true rfl) ?_
  intro G hG hR
  revert h
  unfold f_X0_copyFrom
  refine s_aload_n hG dX0_copyFrom_0 rfl ?_
  refine s_getC hG dX0_copyFrom_1 fl_RX0_9 (fk0_3 _ ha1) ?_
  refine s_iconst hG (v := (0 : Int32)) dX0_copyFrom_4 (by decide) ?_
  refine s_aload_n hG dX0_copyFrom_5 rfl ?_
  refine s_getC hG dX0_copyFrom_6 fl_RX0_9 (fk0_3 _ ha0) ?_
  refine s_iconst hG (v := (0 : Int32)) dX0_copyFrom_9 (by decide) ?_
  refine s_bipush hG (v := (40 : Int32)) dX0_copyFrom_10 (by decide) ?_
  refine s_copyi hG dX0_copyFrom_12 (tb6 (mem_i 1 rfl)) (ak0_3 _ ha1) (ak0_3 _ ha0) ⟨by decide, by decide⟩ (Nat.le_of_ble_eq_true rfl) ?_
  refine s_aload_n hG dX0_copyFrom_15 rfl ?_
  refine s_getC hG dX0_copyFrom_16 fl_RX0_15 (fk0_4 _ ha1) ?_
  refine s_iconst hG (v := (0 : Int32)) dX0_copyFrom_19 (by decide) ?_
  refine s_aload_n hG dX0_copyFrom_20 rfl ?_
  refine s_getC hG dX0_copyFrom_21 fl_RX0_15 (fk0_4 _ ha0) ?_
  refine s_iconst hG (v := (0 : Int32)) dX0_copyFrom_24 (by decide) ?_
  refine s_bipush hG (v := (24 : Int32)) dX0_copyFrom_25 (by decide) ?_
  refine s_copyi hG dX0_copyFrom_27 (tb6 (mem_i 1 rfl)) (ak0_4 _ ha1) (ak0_4 _ ha0) ⟨by decide, by decide⟩ (Nat.le_of_ble_eq_true rfl) ?_
  refine s_aload_n hG dX0_copyFrom_30 rfl ?_
  refine s_aload_n hG dX0_copyFrom_31 rfl ?_
  refine s_getI hG dX0_copyFrom_32 fl_RX0_18 (fk0_5 _ ha1) ?_
  refine s_putI hG dX0_copyFrom_35 fl_RX0_18 fp_0_5 (fk0_5 _ ha0) ⟨rfl, rfl⟩ ?_
  refine s_aload_n hG dX0_copyFrom_38 rfl ?_
  refine s_aload_n hG dX0_copyFrom_39 rfl ?_
  refine s_getI hG dX0_copyFrom_40 fl_RX0_22 (fk0_6 _ ha1) ?_
  refine s_putI hG dX0_copyFrom_43 fl_RX0_22 fp_0_6 (fk0_6 _ ha0) ⟨rfl, rfl⟩ ?_
  exact s_rvC hR dX0_copyFrom_46

def F_X0_differsAt_b2 (a0 : Nat) (p1 : Int32) (a2 : Nat)  (S : HS) (rec2 : Int32 → Option (Int32)) : Int32 → Option (Int32) := fun q => match q with
  | (x3) =>
    if (4 : Int32) ≤ x3 then
    if nz (0 : Int32) = true then some (0 : Int32) else none
    else
    (f_X0_numberOf a0 p1 x3 S).bind (fun o10 =>
    (f_X0_numberOf a2 p1 x3 S).bind (fun o16 =>
    if o10 = o16 then
    rec2 ((x3 + (1 : Int32)))
    else
    if nz (1 : Int32) = true then some (1 : Int32) else none))
def f_X0_differsAt_b2 (a0 : Nat) (p1 : Int32) (a2 : Nat)  (S : HS) (x3 : Int32) : Option (Int32) := fx (F_X0_differsAt_b2 a0 p1 a2 S) FU (x3)
def f_X0_differsAt (a0 : Nat) (p1 : Int32) (a2 : Nat) (S : HS) : Option (Int32) :=
f_X0_differsAt_b2 a0 p1 a2  S (0 : Int32)
def rm_X0_differsAt : Room := { frames := 2, cells := 0, slots := 0, locals := 43 }
set_option maxRecDepth 100000 in
set_option maxHeartbeats 4000000 in
theorem c_X0_differsAt (l : Launch) (a0 : Nat) (p1 : Int32) (a2 : Nat) (ha0 : oc a0 = some 0) (ha2 : oc a2 = some 0) (S : HS) (out : Int32) (h : f_X0_differsAt a0 p1 a2 S = some out) : Ct l yX0_differsAt cX0_differsAt 4 (some .boolean) rm_X0_differsAt [vR a0, vI p1, vR a2] S (some (vI out)) S := by
  refine Ct.intro (own := RX0) (lv := [(0, vR a0), (1, vI p1), (2, vR a2)]) (by decide +kernel) rfl ⟨rfl, rfl⟩ rfl (Nat.le_of_ble_eq_true rfl) ?_
  intro G hG hR
  revert h
  have hb2 : ∀ (x3 : Int32), f_X0_differsAt_b2 a0 p1 a2 S x3 = some out → G 0 0 S [(0, vR a0), (1, vI p1), (2, vR a2), (3, vI x3)] 2 [] := by
    intro  x3
    unfold f_X0_differsAt_b2
    generalize FU = nf
    revert x3
    induction nf with
    | zero => intro x3 h9; cases h9
    | succ nf hrec2 =>
      intro x3
      show F_X0_differsAt_b2 a0 p1 a2 S (fx (F_X0_differsAt_b2 a0 p1 a2 S) nf) (x3) = some out → _
      generalize fx (F_X0_differsAt_b2 a0 p1 a2 S) nf = rec2 at hrec2
      unfold F_X0_differsAt_b2
      dsimp only
      refine s_iload_n hG dX0_differsAt_2 rfl ?_
      refine s_iconst hG (v := (4 : Int32)) dX0_differsAt_3 (by decide) ?_
      refine s_icmp_ge hG (tgt := 30) dX0_differsAt_4 (by decide) ?_ ?_
      · refine s_iconst hG (v := (0 : Int32)) dX0_differsAt_30 (by decide) ?_
        exact s_rzP hR dX0_differsAt_31
      · refine s_aload_n hG dX0_differsAt_7 rfl ?_
        refine s_iload_n hG dX0_differsAt_8 rfl ?_
        refine s_iload_n hG dX0_differsAt_9 rfl ?_
        refine s_cvP hG (as := [vI p1, vI x3]) (st := []) (rm := rm_X0_numberOf) dX0_differsAt_10 ml_RX0_51 (ha0) (tb6 (mem_i 25 rfl)) rfl ⟨rfl, rfl⟩ ⟨by decide, by decide⟩ (Nat.le_of_ble_eq_true rfl) ⟨Nat.zero_le _, Nat.zero_le _⟩ rfl (fun o h => c_X0_numberOf l _ _ _ (ha0) _ o h) (fun o10 => ?_)
        refine s_aload_n hG dX0_differsAt_13 rfl ?_
        refine s_iload_n hG dX0_differsAt_14 rfl ?_
        refine s_iload_n hG dX0_differsAt_15 rfl ?_
        refine s_cvP hG (as := [vI p1, vI x3]) (st := [vI o10]) (rm := rm_X0_numberOf) dX0_differsAt_16 ml_RX0_51 (ha2) (tb6 (mem_i 25 rfl)) rfl ⟨rfl, rfl⟩ ⟨by decide, by decide⟩ (Nat.le_of_ble_eq_true rfl) ⟨Nat.zero_le _, Nat.zero_le _⟩ rfl (fun o h => c_X0_numberOf l _ _ _ (ha2) _ o h) (fun o16 => ?_)
        refine s_icmp_eq hG (tgt := 24) dX0_differsAt_19 (by decide) ?_ ?_
        · refine s_iinc hG (v := (x3 + (1 : Int32))) (lv' := [(3, vI (x3 + (1 : Int32))), (0, vR a0), (1, vI p1), (2, vR a2)]) dX0_differsAt_24 rfl rfl (by decide) rfl ?_
          refine s_goto hG (tgt := 2) dX0_differsAt_27 (by decide) ?_
          refine s_lv hG [1, 2, 3, 0] rfl ?_
          exact hrec2 _
        · refine s_iconst hG (v := (1 : Int32)) dX0_differsAt_22 (by decide) ?_
          exact s_rzP hR dX0_differsAt_23
  unfold f_X0_differsAt
  refine s_iconst hG (v := (0 : Int32)) dX0_differsAt_0 (by decide) ?_
  refine s_istore_n hG (lv' := [(3, vI (0 : Int32)), (0, vR a0), (1, vI p1), (2, vR a2)]) dX0_differsAt_1 (by decide) rfl ?_
  refine s_lv hG [1, 2, 3, 0] rfl ?_
  exact hb2 _

def f_X0_dropRule (a0 : Nat) (p1 : Int32) (S : HS) : Option (HS × Int32) :=
(f_X7_has ((S.1 a0 6).toInt64) p1 S).bind (fun o6 =>
if nz o6 = true then some ((sI S a0 6 ((S.1 a0 6) &&& (((1 : Int32) <<< (p1 &&& 31)) ^^^ (-1 : Int32)))), o6) else none)
def rm_X0_dropRule : Room := { frames := 1, cells := 0, slots := 0, locals := 22 }
set_option maxRecDepth 100000 in
set_option maxHeartbeats 4000000 in
theorem c_X0_dropRule (l : Launch) (a0 : Nat) (p1 : Int32) (ha0 : oc a0 = some 0) (S : HS) (out : HS × Int32) (h : f_X0_dropRule a0 p1 S = some out) : Ct l yX0_dropRule cX0_dropRule 3 (some .boolean) rm_X0_dropRule [vR a0, vI p1] S (some (vI out.2)) out.1 := by
  refine Ct.intro (own := RX0) (lv := [(0, vR a0), (1, vI p1)]) (by decide +kernel) rfl ⟨rfl, rfl⟩ rfl (Nat.le_of_ble_eq_true rfl) ?_
  intro G hG hR
  revert h
  unfold f_X0_dropRule
  refine s_aload_n hG dX0_dropRule_0 rfl ?_
  refine s_getI hG dX0_dropRule_1 fl_RX0_22 (fk0_6 _ ha0) ?_
  refine s_i2l hG dX0_dropRule_4 ?_
  refine s_iload_n hG dX0_dropRule_5 rfl ?_
  refine s_csP hG (as := [vL ((S.1 a0 6).toInt64), vI p1]) (st := []) (rm := rm_X7_has) dX0_dropRule_6 ml_RX0_59 (tb6 (mem_i 14 rfl)) rfl ⟨rfl, rfl⟩ ⟨by decide, by decide⟩ (Nat.le_of_ble_eq_true rfl) ⟨Nat.zero_le _, Nat.zero_le _⟩ rfl (fun o h => c_X7_has l _ _ _ o h) (fun o6 => ?_)
  refine s_istore_n hG (lv' := [(2, vI o6), (0, vR a0), (1, vI p1)]) dX0_dropRule_9 (by decide) rfl ?_
  refine s_aload_n hG dX0_dropRule_10 rfl ?_
  refine s_dup hG dX0_dropRule_11 rfl ?_
  refine s_getI hG dX0_dropRule_12 fl_RX0_22 (fk0_6 _ ha0) ?_
  refine s_iconst hG (v := (1 : Int32)) dX0_dropRule_15 (by decide) ?_
  refine s_iload_n hG dX0_dropRule_16 rfl ?_
  refine s_ishl hG dX0_dropRule_17 ?_
  refine s_iconst hG (v := (-1 : Int32)) dX0_dropRule_18 (by decide) ?_
  refine s_ixor hG dX0_dropRule_19 ?_
  refine s_iand hG dX0_dropRule_20 ?_
  refine s_putI hG dX0_dropRule_21 fl_RX0_22 fp_0_6 (fk0_6 _ ha0) ⟨rfl, rfl⟩ ?_
  refine s_iload_n hG dX0_dropRule_24 rfl ?_
  exact s_rzC hR dX0_dropRule_25

def f_X0_gapOf_b82 (a0 : Nat) (p1 : Int32) (p2 : Int32)  (S : HS)  : Option (Int32) :=
some (0 : Int32)
def f_X0_gapOf_b44 (a0 : Nat) (p1 : Int32) (p2 : Int32)  (S : HS)  : Option (Int32) :=
(f_X7_read 7 p1 S).bind (fun o56 =>
(f_X7_read (a0 + 1) (((o56 * (4 : Int32)) + p2) + (2 : Int32)) S).bind (fun o65 =>
some o65))
def f_X0_gapOf (a0 : Nat) (p1 : Int32) (p2 : Int32) (S : HS) : Option (Int32) :=
(f_X7_read 6 p1 S).bind (fun o8 =>
if o8 = (2 : Int32) then
f_X0_gapOf_b44 a0 p1 p2  S
else if o8 = (3 : Int32) then
f_X0_gapOf_b82 a0 p1 p2  S
else if o8 = (4 : Int32) then
f_X0_gapOf_b44 a0 p1 p2  S
else if o8 = (5 : Int32) then
f_X0_gapOf_b82 a0 p1 p2  S
else if o8 = (6 : Int32) then
(f_X7_read (a0 + 2) ((p1 * (2 : Int32)) + p2) S).bind (fun o78 =>
some o78)
else 
f_X0_gapOf_b82 a0 p1 p2  S)
def rm_X0_gapOf : Room := { frames := 1, cells := 0, slots := 0, locals := 21 }
set_option maxRecDepth 100000 in
set_option maxHeartbeats 4000000 in
theorem c_X0_gapOf (l : Launch) (a0 : Nat) (p1 : Int32) (p2 : Int32) (ha0 : oc a0 = some 0) (S : HS) (out : Int32) (h : f_X0_gapOf a0 p1 p2 S = some out) : Ct l yX0_gapOf cX0_gapOf 3 (some .int) rm_X0_gapOf [vR a0, vI p1, vI p2] S (some (vI out)) S := by
  refine Ct.intro (own := RX0) (lv := [(0, vR a0), (1, vI p1), (2, vI p2)]) (by decide +kernel) rfl ⟨rfl, rfl⟩ rfl (Nat.le_of_ble_eq_true rfl) ?_
  intro G hG hR
  revert h
  have hb82 :  f_X0_gapOf_b82 a0 p1 p2 S  = some out → G 0 0 S [] 82 [] := by
    skip
    unfold f_X0_gapOf_b82
    refine s_iconst hG (v := (0 : Int32)) dX0_gapOf_82 (by decide) ?_
    exact s_riP hR dX0_gapOf_83
  have hb44 :  f_X0_gapOf_b44 a0 p1 p2 S  = some out → G 0 0 S [(0, vR a0), (1, vI p1), (2, vI p2)] 44 [] := by
    skip
    unfold f_X0_gapOf_b44
    refine s_aload_n hG dX0_gapOf_44 rfl ?_
    refine s_getC hG dX0_gapOf_45 fl_RX0_9 (fk0_3 _ ha0) ?_
    refine s_aload_n hG dX0_gapOf_48 rfl ?_
    refine s_getC hG dX0_gapOf_49 fl_RX0_29 (fk0_1 _ ha0) ?_
    refine s_getC hG dX0_gapOf_52 fl_RX0_79 (rfl) ?_
    refine s_iload_n hG dX0_gapOf_55 rfl ?_
    refine s_csP hG (as := [vR 7, vI p1]) (st := [vR (a0 + 1)]) (rm := rm_X7_read) dX0_gapOf_56 ml_RX0_43 (tb5 (mem_i 19 rfl)) rfl ⟨rfl, rfl⟩ ⟨by decide, by decide⟩ (Nat.le_of_ble_eq_true rfl) ⟨Nat.zero_le _, Nat.zero_le _⟩ rfl (fun o h => c_X7_read l _ _ (rfl) _ o h) (fun o56 => ?_)
    refine s_iconst hG (v := (4 : Int32)) dX0_gapOf_59 (by decide) ?_
    refine s_imul hG dX0_gapOf_60 ?_
    refine s_iload_n hG dX0_gapOf_61 rfl ?_
    refine s_iadd hG dX0_gapOf_62 ?_
    refine s_iconst hG (v := (2 : Int32)) dX0_gapOf_63 (by decide) ?_
    refine s_iadd hG dX0_gapOf_64 ?_
    refine s_csP hG (as := [vR (a0 + 1), vI (((o56 * (4 : Int32)) + p2) + (2 : Int32))]) (st := []) (rm := rm_X7_read) dX0_gapOf_65 ml_RX0_43 (tb5 (mem_i 19 rfl)) rfl ⟨rfl, rfl⟩ ⟨by decide, by decide⟩ (Nat.le_of_ble_eq_true rfl) ⟨Nat.zero_le _, Nat.zero_le _⟩ rfl (fun o h => c_X7_read l _ _ (ak_len (ak0_3 _ ha0)) _ o h) (fun o65 => ?_)
    exact s_riP hR dX0_gapOf_68
  unfold f_X0_gapOf
  refine s_aload_n hG dX0_gapOf_0 rfl ?_
  refine s_getC hG dX0_gapOf_1 fl_RX0_29 (fk0_1 _ ha0) ?_
  refine s_getC hG dX0_gapOf_4 fl_RX0_74 (rfl) ?_
  refine s_iload_n hG dX0_gapOf_7 rfl ?_
  refine s_csP hG (as := [vR 6, vI p1]) (st := []) (rm := rm_X7_read) dX0_gapOf_8 ml_RX0_43 (tb5 (mem_i 19 rfl)) rfl ⟨rfl, rfl⟩ ⟨by decide, by decide⟩ (Nat.le_of_ble_eq_true rfl) ⟨Nat.zero_le _, Nat.zero_le _⟩ rfl (fun o h => c_X7_read l _ _ (rfl) _ o h) (fun o8 => ?_)
  refine s_tsw1 hG (v := (2 : Int32)) (tgt := 44) dX0_gapOf_11 (by decide) (by decide) rfl (by decide) ?_ (fun n11_0 => ?_)
  · exact hb44 
  refine s_tsw1 hG (v := (3 : Int32)) (tgt := 82) dX0_gapOf_11 (by decide) (by decide) rfl (by decide) ?_ (fun n11_1 => ?_)
  · refine s_lv hG [] rfl ?_
    exact hb82 
  refine s_tsw1 hG (v := (4 : Int32)) (tgt := 44) dX0_gapOf_11 (by decide) (by decide) rfl (by decide) ?_ (fun n11_2 => ?_)
  · exact hb44 
  refine s_tsw1 hG (v := (5 : Int32)) (tgt := 82) dX0_gapOf_11 (by decide) (by decide) rfl (by decide) ?_ (fun n11_3 => ?_)
  · refine s_lv hG [] rfl ?_
    exact hb82 
  refine s_tsw1 hG (v := (6 : Int32)) (tgt := 69) dX0_gapOf_11 (by decide) (by decide) rfl (by decide) ?_ (fun n11_4 => ?_)
  · refine s_aload_n hG dX0_gapOf_69 rfl ?_
    refine s_getC hG dX0_gapOf_70 fl_RX0_15 (fk0_4 _ ha0) ?_
    refine s_iload_n hG dX0_gapOf_73 rfl ?_
    refine s_iconst hG (v := (2 : Int32)) dX0_gapOf_74 (by decide) ?_
    refine s_imul hG dX0_gapOf_75 ?_
    refine s_iload_n hG dX0_gapOf_76 rfl ?_
    refine s_iadd hG dX0_gapOf_77 ?_
    refine s_csP hG (as := [vR (a0 + 2), vI ((p1 * (2 : Int32)) + p2)]) (st := []) (rm := rm_X7_read) dX0_gapOf_78 ml_RX0_43 (tb5 (mem_i 19 rfl)) rfl ⟨rfl, rfl⟩ ⟨by decide, by decide⟩ (Nat.le_of_ble_eq_true rfl) ⟨Nat.zero_le _, Nat.zero_le _⟩ rfl (fun o h => c_X7_read l _ _ (ak_len (ak0_4 _ ha0)) _ o h) (fun o78 => ?_)
    exact s_riP hR dX0_gapOf_81
  refine s_tswD hG (tgt := 82) dX0_gapOf_11 (by have h0 := sw_ne n11_0 (z := 2) (by decide); have h1 := sw_ne n11_1 (z := 3) (by decide); have h2 := sw_ne n11_2 (z := 4) (by decide); have h3 := sw_ne n11_3 (z := 5) (by decide); have h4 := sw_ne n11_4 (z := 6) (by decide); omega) (by decide) ?_
  refine s_lv hG [] rfl ?_
  exact hb82 

def f_X0_fits_b79 (a0 : Nat) (p1 : Int32) (rec27 : Int32 × Int32 × Int32 → Option (Int32)) (S : HS) (x2 : Int32) (x3 : Int32) (x4 : Int32) : Option (Int32) :=
rec27 (x2, x3, (x4 + (1 : Int32)))
def F_X0_fits_b27 (a0 : Nat) (p1 : Int32)  (S : HS) (rec27 : Int32 × Int32 × Int32 → Option (Int32)) : Int32 × Int32 × Int32 → Option (Int32) := fun q => match q with
  | (x2, x3, x4) =>
    if (4 : Int32) ≤ x4 then
    if nz (1 : Int32) = true then some (1 : Int32) else none
    else
    (f_X7_read 6 p1 S).bind (fun o41 =>
    (f_X7_isAbout o41 x4 S).bind (fun o46 =>
    if o46 = 0 then
    f_X0_fits_b79 a0 p1 rec27 S x2 x3 x4
    else
    (f_X0_numberOf a0 x3 x4 S).bind (fun o56 =>
    (f_X0_numberOf a0 x2 x4 S).bind (fun o63 =>
    (f_X0_gapOf a0 p1 x4 S).bind (fun o71 =>
    if (o56 - o63) = o71 then
    f_X0_fits_b79 a0 p1 rec27 S x2 x3 x4
    else
    if nz (0 : Int32) = true then some (0 : Int32) else none)))))
def f_X0_fits_b27 (a0 : Nat) (p1 : Int32)  (S : HS) (x2 : Int32) (x3 : Int32) (x4 : Int32) : Option (Int32) := fx (F_X0_fits_b27 a0 p1 S) FU (x2, x3, x4)
def f_X0_fits (a0 : Nat) (p1 : Int32) (S : HS) : Option (Int32) :=
(f_X7_read 7 p1 S).bind (fun o8 =>
(f_X7_read 8 p1 S).bind (fun o20 =>
f_X0_fits_b27 a0 p1  S o8 o20 (0 : Int32)))
def rm_X0_fits : Room := { frames := 2, cells := 0, slots := 0, locals := 43 }
set_option maxRecDepth 100000 in
set_option maxHeartbeats 4000000 in
theorem c_X0_fits (l : Launch) (a0 : Nat) (p1 : Int32) (ha0 : oc a0 = some 0) (S : HS) (out : Int32) (h : f_X0_fits a0 p1 S = some out) : Ct l yX0_fits cX0_fits 5 (some .boolean) rm_X0_fits [vR a0, vI p1] S (some (vI out)) S := by
  refine Ct.intro (own := RX0) (lv := [(0, vR a0), (1, vI p1)]) (by decide +kernel) rfl ⟨rfl, rfl⟩ rfl (Nat.le_of_ble_eq_true rfl) ?_
  intro G hG hR
  revert h
  have hb79 : ∀ (rec27 : Int32 × Int32 × Int32 → Option (Int32)) (hrec27 : ∀ (x2 : Int32) (x3 : Int32) (x4 : Int32), rec27 (x2, x3, x4) = some out → G 0 0 S [(0, vR a0), (1, vI p1), (2, vI x2), (3, vI x3), (4, vI x4)] 27 []) (x2 : Int32) (x3 : Int32) (x4 : Int32), f_X0_fits_b79 a0 p1 rec27 S x2 x3 x4 = some out → G 0 0 S [(0, vR a0), (1, vI p1), (2, vI x2), (3, vI x3), (4, vI x4)] 79 [] := by
    intro rec27 hrec27 x2 x3 x4
    unfold f_X0_fits_b79
    refine s_iinc hG (v := (x4 + (1 : Int32))) (lv' := [(4, vI (x4 + (1 : Int32))), (0, vR a0), (1, vI p1), (2, vI x2), (3, vI x3)]) dX0_fits_79 rfl rfl (by decide) rfl ?_
    refine s_goto hG (tgt := 27) dX0_fits_82 (by decide) ?_
    refine s_lv hG [1, 2, 3, 4, 0] rfl ?_
    exact hrec27 _ _ _
  have hb27 : ∀ (x2 : Int32) (x3 : Int32) (x4 : Int32), f_X0_fits_b27 a0 p1 S x2 x3 x4 = some out → G 0 0 S [(0, vR a0), (1, vI p1), (2, vI x2), (3, vI x3), (4, vI x4)] 27 [] := by
    intro  x2 x3 x4
    unfold f_X0_fits_b27
    generalize FU = nf
    revert x2 x3 x4
    induction nf with
    | zero => intro x2 x3 x4 h9; cases h9
    | succ nf hrec27 =>
      intro x2 x3 x4
      show F_X0_fits_b27 a0 p1 S (fx (F_X0_fits_b27 a0 p1 S) nf) (x2, x3, x4) = some out → _
      generalize fx (F_X0_fits_b27 a0 p1 S) nf = rec27 at hrec27
      unfold F_X0_fits_b27
      dsimp only
      refine s_iload hG dX0_fits_27 rfl ?_
      refine s_iconst hG (v := (4 : Int32)) dX0_fits_29 (by decide) ?_
      refine s_icmp_ge hG (tgt := 85) dX0_fits_30 (by decide) ?_ ?_
      · refine s_iconst hG (v := (1 : Int32)) dX0_fits_85 (by decide) ?_
        exact s_rzP hR dX0_fits_86
      · refine s_aload_n hG dX0_fits_33 rfl ?_
        refine s_getC hG dX0_fits_34 fl_RX0_29 (fk0_1 _ ha0) ?_
        refine s_getC hG dX0_fits_37 fl_RX0_74 (rfl) ?_
        refine s_iload_n hG dX0_fits_40 rfl ?_
        refine s_csP hG (as := [vR 6, vI p1]) (st := []) (rm := rm_X7_read) dX0_fits_41 ml_RX0_43 (tb5 (mem_i 19 rfl)) rfl ⟨rfl, rfl⟩ ⟨by decide, by decide⟩ (Nat.le_of_ble_eq_true rfl) ⟨Nat.zero_le _, Nat.zero_le _⟩ rfl (fun o h => c_X7_read l _ _ (rfl) _ o h) (fun o41 => ?_)
        refine s_iload hG dX0_fits_44 rfl ?_
        refine s_csP hG (as := [vI o41, vI x4]) (st := []) (rm := rm_X7_isAbout) dX0_fits_46 ml_RX0_85 (tb6 (mem_i 22 rfl)) rfl ⟨rfl, rfl⟩ ⟨by decide, by decide⟩ (Nat.le_of_ble_eq_true rfl) ⟨Nat.zero_le _, Nat.zero_le _⟩ rfl (fun o h => c_X7_isAbout l _ _ _ o h) (fun o46 => ?_)
        refine s_if_eq hG (tgt := 79) dX0_fits_49 (by decide) ?_ ?_
        · exact hb79 _ hrec27 _ _ _
        · refine s_aload_n hG dX0_fits_52 rfl ?_
          refine s_iload_n hG dX0_fits_53 rfl ?_
          refine s_iload hG dX0_fits_54 rfl ?_
          refine s_cvP hG (as := [vI x3, vI x4]) (st := []) (rm := rm_X0_numberOf) dX0_fits_56 ml_RX0_51 (ha0) (tb6 (mem_i 25 rfl)) rfl ⟨rfl, rfl⟩ ⟨by decide, by decide⟩ (Nat.le_of_ble_eq_true rfl) ⟨Nat.zero_le _, Nat.zero_le _⟩ rfl (fun o h => c_X0_numberOf l _ _ _ (ha0) _ o h) (fun o56 => ?_)
          refine s_aload_n hG dX0_fits_59 rfl ?_
          refine s_iload_n hG dX0_fits_60 rfl ?_
          refine s_iload hG dX0_fits_61 rfl ?_
          refine s_cvP hG (as := [vI x2, vI x4]) (st := [vI o56]) (rm := rm_X0_numberOf) dX0_fits_63 ml_RX0_51 (ha0) (tb6 (mem_i 25 rfl)) rfl ⟨rfl, rfl⟩ ⟨by decide, by decide⟩ (Nat.le_of_ble_eq_true rfl) ⟨Nat.zero_le _, Nat.zero_le _⟩ rfl (fun o h => c_X0_numberOf l _ _ _ (ha0) _ o h) (fun o63 => ?_)
          refine s_isub hG dX0_fits_66 ?_
          refine s_aload_n hG dX0_fits_67 rfl ?_
          refine s_iload_n hG dX0_fits_68 rfl ?_
          refine s_iload hG dX0_fits_69 rfl ?_
          refine s_cvP hG (as := [vI p1, vI x4]) (st := [vI (o56 - o63)]) (rm := rm_X0_gapOf) dX0_fits_71 ml_RX0_89 (ha0) (tb7 (mem_i 11 rfl)) rfl ⟨rfl, rfl⟩ ⟨by decide, by decide⟩ (Nat.le_of_ble_eq_true rfl) ⟨Nat.zero_le _, Nat.zero_le _⟩ rfl (fun o h => c_X0_gapOf l _ _ _ (ha0) _ o h) (fun o71 => ?_)
          refine s_icmp_eq hG (tgt := 79) dX0_fits_74 (by decide) ?_ ?_
          · exact hb79 _ hrec27 _ _ _
          · refine s_iconst hG (v := (0 : Int32)) dX0_fits_77 (by decide) ?_
            exact s_rzP hR dX0_fits_78
  unfold f_X0_fits
  refine s_aload_n hG dX0_fits_0 rfl ?_
  refine s_getC hG dX0_fits_1 fl_RX0_29 (fk0_1 _ ha0) ?_
  refine s_getC hG dX0_fits_4 fl_RX0_79 (rfl) ?_
  refine s_iload_n hG dX0_fits_7 rfl ?_
  refine s_csP hG (as := [vR 7, vI p1]) (st := []) (rm := rm_X7_read) dX0_fits_8 ml_RX0_43 (tb5 (mem_i 19 rfl)) rfl ⟨rfl, rfl⟩ ⟨by decide, by decide⟩ (Nat.le_of_ble_eq_true rfl) ⟨Nat.zero_le _, Nat.zero_le _⟩ rfl (fun o h => c_X7_read l _ _ (rfl) _ o h) (fun o8 => ?_)
  refine s_istore_n hG (lv' := [(2, vI o8), (0, vR a0), (1, vI p1)]) dX0_fits_11 (by decide) rfl ?_
  refine s_aload_n hG dX0_fits_12 rfl ?_
  refine s_getC hG dX0_fits_13 fl_RX0_29 (fk0_1 _ ha0) ?_
  refine s_getC hG dX0_fits_16 fl_RX0_82 (rfl) ?_
  refine s_iload_n hG dX0_fits_19 rfl ?_
  refine s_csP hG (as := [vR 8, vI p1]) (st := []) (rm := rm_X7_read) dX0_fits_20 ml_RX0_43 (tb5 (mem_i 19 rfl)) rfl ⟨rfl, rfl⟩ ⟨by decide, by decide⟩ (Nat.le_of_ble_eq_true rfl) ⟨Nat.zero_le _, Nat.zero_le _⟩ rfl (fun o h => c_X7_read l _ _ (rfl) _ o h) (fun o20 => ?_)
  refine s_istore_n hG (lv' := [(3, vI o20), (2, vI o8), (0, vR a0), (1, vI p1)]) dX0_fits_23 (by decide) rfl ?_
  refine s_iconst hG (v := (0 : Int32)) dX0_fits_24 (by decide) ?_
  refine s_istore hG (lv' := [(4, vI (0 : Int32)), (3, vI o20), (2, vI o8), (0, vR a0), (1, vI p1)]) dX0_fits_25 (by decide) rfl ?_
  refine s_lv hG [3, 4, 2, 1, 0] rfl ?_
  exact hb27 _ _ _

def f_X0_isLink_b35 (a0 : Nat) (p1 : Int32) (p2 : Int32)  (S : HS) (t0 : Int32) : Option (Int32) :=
if nz t0 = true then some t0 else none
def f_X0_isLink_b34 (a0 : Nat) (p1 : Int32) (p2 : Int32)  (S : HS)  : Option (Int32) :=
f_X0_isLink_b35 a0 p1 p2  S (0 : Int32)
def f_X0_isLink (a0 : Nat) (p1 : Int32) (p2 : Int32) (S : HS) : Option (Int32) :=
(f_X7_has ((S.1 a0 6).toInt64) p1 S).bind (fun o6 =>
if o6 = 0 then
f_X0_isLink_b34 a0 p1 p2  S
else
(f_X7_read 6 p1 S).bind (fun o20 =>
(f_X7_isAbout o20 p2 S).bind (fun o24 =>
if o24 = 0 then
f_X0_isLink_b34 a0 p1 p2  S
else
f_X0_isLink_b35 a0 p1 p2  S (1 : Int32))))
def rm_X0_isLink : Room := { frames := 1, cells := 0, slots := 0, locals := 22 }
set_option maxRecDepth 100000 in
set_option maxHeartbeats 4000000 in
theorem c_X0_isLink (l : Launch) (a0 : Nat) (p1 : Int32) (p2 : Int32) (ha0 : oc a0 = some 0) (S : HS) (out : Int32) (h : f_X0_isLink a0 p1 p2 S = some out) : Ct l yX0_isLink cX0_isLink 3 (some .boolean) rm_X0_isLink [vR a0, vI p1, vI p2] S (some (vI out)) S := by
  refine Ct.intro (own := RX0) (lv := [(0, vR a0), (1, vI p1), (2, vI p2)]) (by decide +kernel) rfl ⟨rfl, rfl⟩ rfl (Nat.le_of_ble_eq_true rfl) ?_
  intro G hG hR
  revert h
  have hb35 : ∀ (t0 : Int32), f_X0_isLink_b35 a0 p1 p2 S t0 = some out → G 0 0 S [] 35 [vI t0] := by
    intro t0
    unfold f_X0_isLink_b35
    exact s_rzP hR dX0_isLink_35
  have hb34 :  f_X0_isLink_b34 a0 p1 p2 S  = some out → G 0 0 S [] 34 [] := by
    skip
    unfold f_X0_isLink_b34
    refine s_iconst hG (v := (0 : Int32)) dX0_isLink_34 (by decide) ?_
    exact hb35 _
  unfold f_X0_isLink
  refine s_aload_n hG dX0_isLink_0 rfl ?_
  refine s_getI hG dX0_isLink_1 fl_RX0_22 (fk0_6 _ ha0) ?_
  refine s_i2l hG dX0_isLink_4 ?_
  refine s_iload_n hG dX0_isLink_5 rfl ?_
  refine s_csP hG (as := [vL ((S.1 a0 6).toInt64), vI p1]) (st := []) (rm := rm_X7_has) dX0_isLink_6 ml_RX0_59 (tb6 (mem_i 14 rfl)) rfl ⟨rfl, rfl⟩ ⟨by decide, by decide⟩ (Nat.le_of_ble_eq_true rfl) ⟨Nat.zero_le _, Nat.zero_le _⟩ rfl (fun o h => c_X7_has l _ _ _ o h) (fun o6 => ?_)
  refine s_if_eq hG (tgt := 34) dX0_isLink_9 (by decide) ?_ ?_
  · refine s_lv hG [] rfl ?_
    exact hb34 
  · refine s_aload_n hG dX0_isLink_12 rfl ?_
    refine s_getC hG dX0_isLink_13 fl_RX0_29 (fk0_1 _ ha0) ?_
    refine s_getC hG dX0_isLink_16 fl_RX0_74 (rfl) ?_
    refine s_iload_n hG dX0_isLink_19 rfl ?_
    refine s_csP hG (as := [vR 6, vI p1]) (st := []) (rm := rm_X7_read) dX0_isLink_20 ml_RX0_43 (tb5 (mem_i 19 rfl)) rfl ⟨rfl, rfl⟩ ⟨by decide, by decide⟩ (Nat.le_of_ble_eq_true rfl) ⟨Nat.zero_le _, Nat.zero_le _⟩ rfl (fun o h => c_X7_read l _ _ (rfl) _ o h) (fun o20 => ?_)
    refine s_iload_n hG dX0_isLink_23 rfl ?_
    refine s_csP hG (as := [vI o20, vI p2]) (st := []) (rm := rm_X7_isAbout) dX0_isLink_24 ml_RX0_85 (tb6 (mem_i 22 rfl)) rfl ⟨rfl, rfl⟩ ⟨by decide, by decide⟩ (Nat.le_of_ble_eq_true rfl) ⟨Nat.zero_le _, Nat.zero_le _⟩ rfl (fun o h => c_X7_isAbout l _ _ _ o h) (fun o24 => ?_)
    refine s_if_eq hG (tgt := 34) dX0_isLink_27 (by decide) ?_ ?_
    · refine s_lv hG [] rfl ?_
      exact hb34 
    · refine s_iconst hG (v := (1 : Int32)) dX0_isLink_30 (by decide) ?_
      refine s_goto hG (tgt := 35) dX0_isLink_31 (by decide) ?_
      refine s_lv hG [] rfl ?_
      exact hb35 _

def f_X0_groupOf_b101 (a0 : Nat) (p1 : Int32) (p2 : Int32)  (S : HS) (x3 : Int32) : Option (Int32) :=
some x3
def f_X0_groupOf_b80 (a0 : Nat) (p1 : Int32) (p2 : Int32) (rec7 : Int32 × Int32 → Option (Int32)) (rec20 : Int32 × Int32 × Int32 × Int32 → Option (Int32)) (S : HS) (x3 : Int32) (x4 : Int32) (x5 : Int32) (x6 : Int32) : Option (Int32) :=
rec20 (x3, x4, x5, (x6 + (1 : Int32)))
def F_X0_groupOf_b20 (a0 : Nat) (p1 : Int32) (p2 : Int32) (rec7 : Int32 × Int32 → Option (Int32)) (S : HS) (rec20 : Int32 × Int32 × Int32 × Int32 → Option (Int32)) : Int32 × Int32 × Int32 × Int32 → Option (Int32) := fun q => match q with
  | (x3, x4, x5, x6) =>
    if (12 : Int32) ≤ x6 then
    if x3 = x5 then
    f_X0_groupOf_b101 a0 p1 p2  S x3
    else
    rec7 (x3, (x4 + (1 : Int32)))
    else
    (f_X7_read 7 x6 S).bind (fun o37 =>
    (f_X7_read 8 x6 S).bind (fun o51 =>
    if (x3 &&& (((1 : Int32) <<< (o37 &&& 31)) ||| ((1 : Int32) <<< (o51 &&& 31)))) = 0 then
    f_X0_groupOf_b80 a0 p1 p2 rec7 rec20 S x3 x4 x5 x6
    else
    (f_X0_isLink a0 x6 p2 S).bind (fun o69 =>
    if o69 = 0 then
    f_X0_groupOf_b80 a0 p1 p2 rec7 rec20 S x3 x4 x5 x6
    else
    f_X0_groupOf_b80 a0 p1 p2 rec7 rec20 S (x3 ||| (((1 : Int32) <<< (o37 &&& 31)) ||| ((1 : Int32) <<< (o51 &&& 31)))) x4 x5 x6)))
def f_X0_groupOf_b20 (a0 : Nat) (p1 : Int32) (p2 : Int32) (rec7 : Int32 × Int32 → Option (Int32)) (S : HS) (x3 : Int32) (x4 : Int32) (x5 : Int32) (x6 : Int32) : Option (Int32) := fx (F_X0_groupOf_b20 a0 p1 p2 rec7 S) FU (x3, x4, x5, x6)
def F_X0_groupOf_b7 (a0 : Nat) (p1 : Int32) (p2 : Int32)  (S : HS) (rec7 : Int32 × Int32 → Option (Int32)) : Int32 × Int32 → Option (Int32) := fun q => match q with
  | (x3, x4) =>
    if (10 : Int32) ≤ x4 then
    f_X0_groupOf_b101 a0 p1 p2  S x3
    else
    f_X0_groupOf_b20 a0 p1 p2 rec7 S x3 x4 x3 (0 : Int32)
def f_X0_groupOf_b7 (a0 : Nat) (p1 : Int32) (p2 : Int32)  (S : HS) (x3 : Int32) (x4 : Int32) : Option (Int32) := fx (F_X0_groupOf_b7 a0 p1 p2 S) FU (x3, x4)
def f_X0_groupOf (a0 : Nat) (p1 : Int32) (p2 : Int32) (S : HS) : Option (Int32) :=
f_X0_groupOf_b7 a0 p1 p2  S ((1 : Int32) <<< (p1 &&& 31)) (0 : Int32)
def rm_X0_groupOf : Room := { frames := 2, cells := 0, slots := 0, locals := 44 }
set_option maxRecDepth 100000 in
set_option maxHeartbeats 4000000 in
theorem c_X0_groupOf (l : Launch) (a0 : Nat) (p1 : Int32) (p2 : Int32) (ha0 : oc a0 = some 0) (S : HS) (out : Int32) (h : f_X0_groupOf a0 p1 p2 S = some out) : Ct l yX0_groupOf cX0_groupOf 8 (some .int) rm_X0_groupOf [vR a0, vI p1, vI p2] S (some (vI out)) S := by
  refine Ct.intro (own := RX0) (lv := [(0, vR a0), (1, vI p1), (2, vI p2)]) (by decide +kernel) rfl ⟨rfl, rfl⟩ rfl (Nat.le_of_ble_eq_true rfl) ?_
  intro G hG hR
  revert h
  have hb101 : ∀ (x3 : Int32), f_X0_groupOf_b101 a0 p1 p2 S x3 = some out → G 0 0 S [(3, vI x3)] 101 [] := by
    intro x3
    unfold f_X0_groupOf_b101
    refine s_iload_n hG dX0_groupOf_101 rfl ?_
    exact s_riP hR dX0_groupOf_102
  have hb80 : ∀ (rec7 : Int32 × Int32 → Option (Int32)) (hrec7 : ∀ (x3 : Int32) (x4 : Int32), rec7 (x3, x4) = some out → G 0 0 S [(0, vR a0), (2, vI p2), (3, vI x3), (4, vI x4)] 7 []) (rec20 : Int32 × Int32 × Int32 × Int32 → Option (Int32)) (hrec20 : ∀ (x3 : Int32) (x4 : Int32) (x5 : Int32) (x6 : Int32), rec20 (x3, x4, x5, x6) = some out → G 0 0 S [(0, vR a0), (2, vI p2), (3, vI x3), (4, vI x4), (5, vI x5), (6, vI x6)] 20 []) (x3 : Int32) (x4 : Int32) (x5 : Int32) (x6 : Int32), f_X0_groupOf_b80 a0 p1 p2 rec7 rec20 S x3 x4 x5 x6 = some out → G 0 0 S [(0, vR a0), (2, vI p2), (3, vI x3), (4, vI x4), (5, vI x5), (6, vI x6)] 80 [] := by
    intro rec7 hrec7 rec20 hrec20 x3 x4 x5 x6
    unfold f_X0_groupOf_b80
    refine s_iinc hG (v := (x6 + (1 : Int32))) (lv' := [(6, vI (x6 + (1 : Int32))), (0, vR a0), (2, vI p2), (3, vI x3), (4, vI x4), (5, vI x5)]) dX0_groupOf_80 rfl rfl (by decide) rfl ?_
    refine s_goto hG (tgt := 20) dX0_groupOf_83 (by decide) ?_
    refine s_lv hG [1, 2, 3, 4, 5, 0] rfl ?_
    exact hrec20 _ _ _ _
  have hb20 : ∀ (rec7 : Int32 × Int32 → Option (Int32)) (hrec7 : ∀ (x3 : Int32) (x4 : Int32), rec7 (x3, x4) = some out → G 0 0 S [(0, vR a0), (2, vI p2), (3, vI x3), (4, vI x4)] 7 []) (x3 : Int32) (x4 : Int32) (x5 : Int32) (x6 : Int32), f_X0_groupOf_b20 a0 p1 p2 rec7 S x3 x4 x5 x6 = some out → G 0 0 S [(0, vR a0), (2, vI p2), (3, vI x3), (4, vI x4), (5, vI x5), (6, vI x6)] 20 [] := by
    intro rec7 hrec7 x3 x4 x5 x6
    unfold f_X0_groupOf_b20
    generalize FU = nf
    revert x3 x4 x5 x6
    induction nf with
    | zero => intro x3 x4 x5 x6 h9; cases h9
    | succ nf hrec20 =>
      intro x3 x4 x5 x6
      show F_X0_groupOf_b20 a0 p1 p2 rec7 S (fx (F_X0_groupOf_b20 a0 p1 p2 rec7 S) nf) (x3, x4, x5, x6) = some out → _
      generalize fx (F_X0_groupOf_b20 a0 p1 p2 rec7 S) nf = rec20 at hrec20
      unfold F_X0_groupOf_b20
      dsimp only
      refine s_iload hG dX0_groupOf_20 rfl ?_
      refine s_bipush hG (v := (12 : Int32)) dX0_groupOf_22 (by decide) ?_
      refine s_icmp_ge hG (tgt := 86) dX0_groupOf_24 (by decide) ?_ ?_
      · refine s_iload_n hG dX0_groupOf_86 rfl ?_
        refine s_iload hG dX0_groupOf_87 rfl ?_
        refine s_icmp_ne hG (tgt := 95) dX0_groupOf_89 (by decide) ?_ ?_
        · refine s_iinc hG (v := (x4 + (1 : Int32))) (lv' := [(4, vI (x4 + (1 : Int32))), (0, vR a0), (2, vI p2), (3, vI x3), (5, vI x5), (6, vI x6)]) dX0_groupOf_95 rfl rfl (by decide) rfl ?_
          refine s_goto hG (tgt := 7) dX0_groupOf_98 (by decide) ?_
          refine s_lv hG [1, 2, 3, 0] rfl ?_
          exact hrec7 _ _
        · refine s_goto hG (tgt := 101) dX0_groupOf_92 (by decide) ?_
          refine s_lv hG [2] rfl ?_
          exact hb101 _
      · refine s_iconst hG (v := (1 : Int32)) dX0_groupOf_27 (by decide) ?_
        refine s_aload_n hG dX0_groupOf_28 rfl ?_
        refine s_getC hG dX0_groupOf_29 fl_RX0_29 (fk0_1 _ ha0) ?_
        refine s_getC hG dX0_groupOf_32 fl_RX0_79 (rfl) ?_
        refine s_iload hG dX0_groupOf_35 rfl ?_
        refine s_csP hG (as := [vR 7, vI x6]) (st := [vI (1 : Int32)]) (rm := rm_X7_read) dX0_groupOf_37 ml_RX0_43 (tb5 (mem_i 19 rfl)) rfl ⟨rfl, rfl⟩ ⟨by decide, by decide⟩ (Nat.le_of_ble_eq_true rfl) ⟨Nat.zero_le _, Nat.zero_le _⟩ rfl (fun o h => c_X7_read l _ _ (rfl) _ o h) (fun o37 => ?_)
        refine s_ishl hG dX0_groupOf_40 ?_
        refine s_iconst hG (v := (1 : Int32)) dX0_groupOf_41 (by decide) ?_
        refine s_aload_n hG dX0_groupOf_42 rfl ?_
        refine s_getC hG dX0_groupOf_43 fl_RX0_29 (fk0_1 _ ha0) ?_
        refine s_getC hG dX0_groupOf_46 fl_RX0_82 (rfl) ?_
        refine s_iload hG dX0_groupOf_49 rfl ?_
        refine s_csP hG (as := [vR 8, vI x6]) (st := [vI (1 : Int32), vI ((1 : Int32) <<< (o37 &&& 31))]) (rm := rm_X7_read) dX0_groupOf_51 ml_RX0_43 (tb5 (mem_i 19 rfl)) rfl ⟨rfl, rfl⟩ ⟨by decide, by decide⟩ (Nat.le_of_ble_eq_true rfl) ⟨Nat.zero_le _, Nat.zero_le _⟩ rfl (fun o h => c_X7_read l _ _ (rfl) _ o h) (fun o51 => ?_)
        refine s_ishl hG dX0_groupOf_54 ?_
        refine s_ior hG dX0_groupOf_55 ?_
        refine s_istore hG (lv' := [(7, vI (((1 : Int32) <<< (o37 &&& 31)) ||| ((1 : Int32) <<< (o51 &&& 31)))), (0, vR a0), (2, vI p2), (3, vI x3), (4, vI x4), (5, vI x5), (6, vI x6)]) dX0_groupOf_56 (by decide) rfl ?_
        refine s_iload_n hG dX0_groupOf_58 rfl ?_
        refine s_iload hG dX0_groupOf_59 rfl ?_
        refine s_iand hG dX0_groupOf_61 ?_
        refine s_if_eq hG (tgt := 80) dX0_groupOf_62 (by decide) ?_ ?_
        · refine s_lv hG [1, 2, 3, 4, 5, 6] rfl ?_
          exact hb80 _ hrec7 _ hrec20 _ _ _ _
        · refine s_aload_n hG dX0_groupOf_65 rfl ?_
          refine s_iload hG dX0_groupOf_66 rfl ?_
          refine s_iload_n hG dX0_groupOf_68 rfl ?_
          refine s_cvP hG (as := [vI x6, vI p2]) (st := []) (rm := rm_X0_isLink) dX0_groupOf_69 ml_RX0_92 (ha0) (tb6 (mem_i 20 rfl)) rfl ⟨rfl, rfl⟩ ⟨by decide, by decide⟩ (Nat.le_of_ble_eq_true rfl) ⟨Nat.zero_le _, Nat.zero_le _⟩ rfl (fun o h => c_X0_isLink l _ _ _ (ha0) _ o h) (fun o69 => ?_)
          refine s_if_eq hG (tgt := 80) dX0_groupOf_72 (by decide) ?_ ?_
          · refine s_lv hG [1, 2, 3, 4, 5, 6] rfl ?_
            exact hb80 _ hrec7 _ hrec20 _ _ _ _
          · refine s_iload_n hG dX0_groupOf_75 rfl ?_
            refine s_iload hG dX0_groupOf_76 rfl ?_
            refine s_ior hG dX0_groupOf_78 ?_
            refine s_istore_n hG (lv' := [(3, vI (x3 ||| (((1 : Int32) <<< (o37 &&& 31)) ||| ((1 : Int32) <<< (o51 &&& 31))))), (7, vI (((1 : Int32) <<< (o37 &&& 31)) ||| ((1 : Int32) <<< (o51 &&& 31)))), (0, vR a0), (2, vI p2), (4, vI x4), (5, vI x5), (6, vI x6)]) dX0_groupOf_79 (by decide) rfl ?_
            refine s_lv hG [2, 3, 0, 4, 5, 6] rfl ?_
            exact hb80 _ hrec7 _ hrec20 _ _ _ _
  have hb7 : ∀ (x3 : Int32) (x4 : Int32), f_X0_groupOf_b7 a0 p1 p2 S x3 x4 = some out → G 0 0 S [(0, vR a0), (2, vI p2), (3, vI x3), (4, vI x4)] 7 [] := by
    intro  x3 x4
    unfold f_X0_groupOf_b7
    generalize FU = nf
    revert x3 x4
    induction nf with
    | zero => intro x3 x4 h9; cases h9
    | succ nf hrec7 =>
      intro x3 x4
      show F_X0_groupOf_b7 a0 p1 p2 S (fx (F_X0_groupOf_b7 a0 p1 p2 S) nf) (x3, x4) = some out → _
      generalize fx (F_X0_groupOf_b7 a0 p1 p2 S) nf = rec7 at hrec7
      unfold F_X0_groupOf_b7
      dsimp only
      refine s_iload hG dX0_groupOf_7 rfl ?_
      refine s_bipush hG (v := (10 : Int32)) dX0_groupOf_9 (by decide) ?_
      refine s_icmp_ge hG (tgt := 101) dX0_groupOf_11 (by decide) ?_ ?_
      · refine s_lv hG [2] rfl ?_
        exact hb101 _
      · refine s_iload_n hG dX0_groupOf_14 rfl ?_
        refine s_istore hG (lv' := [(5, vI x3), (0, vR a0), (2, vI p2), (3, vI x3), (4, vI x4)]) dX0_groupOf_15 (by decide) rfl ?_
        refine s_iconst hG (v := (0 : Int32)) dX0_groupOf_17 (by decide) ?_
        refine s_istore hG (lv' := [(6, vI (0 : Int32)), (5, vI x3), (0, vR a0), (2, vI p2), (3, vI x3), (4, vI x4)]) dX0_groupOf_18 (by decide) rfl ?_
        refine s_lv hG [2, 3, 4, 5, 1, 0] rfl ?_
        exact hb20 _ hrec7 _ _ _ _
  unfold f_X0_groupOf
  refine s_iconst hG (v := (1 : Int32)) dX0_groupOf_0 (by decide) ?_
  refine s_iload_n hG dX0_groupOf_1 rfl ?_
  refine s_ishl hG dX0_groupOf_2 ?_
  refine s_istore_n hG (lv' := [(3, vI ((1 : Int32) <<< (p1 &&& 31))), (0, vR a0), (1, vI p1), (2, vI p2)]) dX0_groupOf_3 (by decide) rfl ?_
  refine s_iconst hG (v := (0 : Int32)) dX0_groupOf_4 (by decide) ?_
  refine s_istore hG (lv' := [(4, vI (0 : Int32)), (3, vI ((1 : Int32) <<< (p1 &&& 31))), (0, vR a0), (1, vI p1), (2, vI p2)]) dX0_groupOf_5 (by decide) rfl ?_
  refine s_lv hG [2, 4, 1, 0] rfl ?_
  exact hb7 _ _

def f_X0_tellByWalk_b260 (a0 : Nat) (p1 : Int32) (p2 : Int32)  (S : HS)  : Option (HS × Int32) :=
if nz (1 : Int32) = true then some (S, (1 : Int32)) else none
def f_X0_tellByWalk_b248 (a0 : Nat) (p1 : Int32) (p2 : Int32) (rec8 : HS × Int32 × Int32 × Int32 → Option (HS × Int32)) (rec41 : HS × Int32 × Int32 × Int32 × Int32 × Int32 → Option (HS × Int32)) (S : HS) (x3 : Int32) (x4 : Int32) (x5 : Int32) (x6 : Int32) (x7 : Int32) : Option (HS × Int32) :=
rec41 (S, x3, x4, x5, x6, (x7 + (1 : Int32)))
def f_X0_tellByWalk_b238 (a0 : Nat) (p1 : Int32) (p2 : Int32) (rec8 : HS × Int32 × Int32 × Int32 → Option (HS × Int32)) (rec41 : HS × Int32 × Int32 × Int32 × Int32 × Int32 → Option (HS × Int32)) (S : HS) (x3 : Int32) (x5 : Int32) (x6 : Int32) (x7 : Int32) (x10 : Int32) (t0 : Int32) (t1 : Int32) : Option (HS × Int32) :=
f_X0_tellByWalk_b248 a0 p1 p2 rec8 rec41 S (x3 ||| ((1 : Int32) <<< (x10 &&& 31))) (t0 ||| t1) x5 x6 x7
def f_X0_tellByWalk_b209 (a0 : Nat) (p1 : Int32) (p2 : Int32) (rec8 : HS × Int32 × Int32 × Int32 → Option (HS × Int32)) (rec41 : HS × Int32 × Int32 × Int32 × Int32 × Int32 → Option (HS × Int32)) (S : HS) (x3 : Int32) (x4 : Int32) (x5 : Int32) (x6 : Int32) (x7 : Int32) (x10 : Int32) (x12 : Int32) : Option (HS × Int32) :=
(f_X0_set a0 x10 p2 x12 S).bind (fun o215 =>
(f_X7_has x3.toInt64 x10 o215).bind (fun o224 =>
if o224 = 0 then
f_X0_tellByWalk_b238 a0 p1 p2 rec8 rec41 o215 x3 x5 x6 x7 x10 x4 ((1 : Int32) <<< (x10 &&& 31))
else
f_X0_tellByWalk_b238 a0 p1 p2 rec8 rec41 o215 x3 x5 x6 x7 x10 x4 (0 : Int32)))
def f_X0_tellByWalk_b182 (a0 : Nat) (p1 : Int32) (p2 : Int32) (rec8 : HS × Int32 × Int32 × Int32 → Option (HS × Int32)) (rec41 : HS × Int32 × Int32 × Int32 × Int32 × Int32 → Option (HS × Int32)) (S : HS) (x3 : Int32) (x4 : Int32) (x5 : Int32) (x6 : Int32) (x7 : Int32) (x10 : Int32) (t0 : Int32) (t1 : Int32) : Option (HS × Int32) :=
(f_X7_has x3.toInt64 x10 S).bind (fun o189 =>
if o189 = 0 then
f_X0_tellByWalk_b209 a0 p1 p2 rec8 rec41 S x3 x4 x5 x6 x7 x10 (t0 + t1)
else
(f_X0_numberOf a0 x10 p2 S).bind (fun o199 =>
if o199 = (t0 + t1) then
f_X0_tellByWalk_b209 a0 p1 p2 rec8 rec41 S x3 x4 x5 x6 x7 x10 (t0 + t1)
else
if nz (0 : Int32) = true then some (S, (0 : Int32)) else none))
def f_X0_tellByWalk_b151 (a0 : Nat) (p1 : Int32) (p2 : Int32) (rec8 : HS × Int32 × Int32 × Int32 → Option (HS × Int32)) (rec41 : HS × Int32 × Int32 × Int32 × Int32 × Int32 → Option (HS × Int32)) (S : HS) (x3 : Int32) (x4 : Int32) (x5 : Int32) (x6 : Int32) (x7 : Int32) (x8 : Int32) (t0 : Int32) : Option (HS × Int32) :=
(f_X0_gapOf a0 x7 p2 S).bind (fun o157 =>
(f_X0_numberOf a0 x6 p2 S).bind (fun o166 =>
if x8 = 0 then
f_X0_tellByWalk_b182 a0 p1 p2 rec8 rec41 S x3 x4 x5 x6 x7 t0 o166 (-o157)
else
f_X0_tellByWalk_b182 a0 p1 p2 rec8 rec41 S x3 x4 x5 x6 x7 t0 o166 o157))
def f_X0_tellByWalk_b106 (a0 : Nat) (p1 : Int32) (p2 : Int32) (rec8 : HS × Int32 × Int32 × Int32 → Option (HS × Int32)) (rec41 : HS × Int32 × Int32 × Int32 × Int32 × Int32 → Option (HS × Int32)) (S : HS) (x3 : Int32) (x4 : Int32) (x5 : Int32) (x6 : Int32) (x7 : Int32) (x8 : Int32) : Option (HS × Int32) :=
(f_X0_isLink a0 x7 p2 S).bind (fun o110 =>
if o110 = 0 then
f_X0_tellByWalk_b248 a0 p1 p2 rec8 rec41 S x3 x4 x5 x6 x7
else
if x8 = 0 then
(f_X7_read 7 x7 S).bind (fun o148 =>
f_X0_tellByWalk_b151 a0 p1 p2 rec8 rec41 S x3 x4 x5 x6 x7 x8 o148)
else
(f_X7_read 8 x7 S).bind (fun o133 =>
f_X0_tellByWalk_b151 a0 p1 p2 rec8 rec41 S x3 x4 x5 x6 x7 x8 o133))
def f_X0_tellByWalk_b94 (a0 : Nat) (p1 : Int32) (p2 : Int32) (rec8 : HS × Int32 × Int32 × Int32 → Option (HS × Int32)) (rec41 : HS × Int32 × Int32 × Int32 × Int32 × Int32 → Option (HS × Int32)) (S : HS) (x3 : Int32) (x4 : Int32) (x5 : Int32) (x6 : Int32) (x7 : Int32) (x8 : Int32) (t0 : Int32) : Option (HS × Int32) :=
if x8 = 0 then
if t0 = 0 then
f_X0_tellByWalk_b248 a0 p1 p2 rec8 rec41 S x3 x4 x5 x6 x7
else
f_X0_tellByWalk_b106 a0 p1 p2 rec8 rec41 S x3 x4 x5 x6 x7 x8
else
f_X0_tellByWalk_b106 a0 p1 p2 rec8 rec41 S x3 x4 x5 x6 x7 x8
def f_X0_tellByWalk_b70 (a0 : Nat) (p1 : Int32) (p2 : Int32) (rec8 : HS × Int32 × Int32 × Int32 → Option (HS × Int32)) (rec41 : HS × Int32 × Int32 × Int32 × Int32 × Int32 → Option (HS × Int32)) (S : HS) (x3 : Int32) (x4 : Int32) (x5 : Int32) (x6 : Int32) (x7 : Int32) (t0 : Int32) : Option (HS × Int32) :=
(f_X7_read 8 x7 S).bind (fun o81 =>
if o81 = x6 then
f_X0_tellByWalk_b94 a0 p1 p2 rec8 rec41 S x3 x4 x5 x6 x7 t0 (1 : Int32)
else
f_X0_tellByWalk_b94 a0 p1 p2 rec8 rec41 S x3 x4 x5 x6 x7 t0 (0 : Int32))
def F_X0_tellByWalk_b41 (a0 : Nat) (p1 : Int32) (p2 : Int32) (rec8 : HS × Int32 × Int32 × Int32 → Option (HS × Int32)) (rec41 : HS × Int32 × Int32 × Int32 × Int32 × Int32 → Option (HS × Int32)) : HS × Int32 × Int32 × Int32 × Int32 × Int32 → Option (HS × Int32) := fun q => match q with
  | (S, x3, x4, x5, x6, x7) =>
    if (12 : Int32) ≤ x7 then
    rec8 (S, x3, x4, (x5 + (1 : Int32)))
    else
    (f_X7_read 7 x7 S).bind (fun o57 =>
    if o57 = x6 then
    f_X0_tellByWalk_b70 a0 p1 p2 rec8 rec41 S x3 x4 x5 x6 x7 (1 : Int32)
    else
    f_X0_tellByWalk_b70 a0 p1 p2 rec8 rec41 S x3 x4 x5 x6 x7 (0 : Int32))
def f_X0_tellByWalk_b41 (a0 : Nat) (p1 : Int32) (p2 : Int32) (rec8 : HS × Int32 × Int32 × Int32 → Option (HS × Int32)) (S : HS) (x3 : Int32) (x4 : Int32) (x5 : Int32) (x6 : Int32) (x7 : Int32) : Option (HS × Int32) := fx (F_X0_tellByWalk_b41 a0 p1 p2 rec8) FU (S, x3, x4, x5, x6, x7)
def F_X0_tellByWalk_b8 (a0 : Nat) (p1 : Int32) (p2 : Int32)  (rec8 : HS × Int32 × Int32 × Int32 → Option (HS × Int32)) : HS × Int32 × Int32 × Int32 → Option (HS × Int32) := fun q => match q with
  | (S, x3, x4, x5) =>
    if (10 : Int32) ≤ x5 then
    f_X0_tellByWalk_b260 a0 p1 p2  S
    else
    if x4 = 0 then
    f_X0_tellByWalk_b260 a0 p1 p2  S
    else
    (f_J6_numberOfTrailingZeros_0f7a4 x4 S).bind (fun o22 =>
    f_X0_tellByWalk_b41 a0 p1 p2 rec8 S x3 (x4 &&& (((1 : Int32) <<< (o22 &&& 31)) ^^^ (-1 : Int32))) x5 o22 (0 : Int32))
def f_X0_tellByWalk_b8 (a0 : Nat) (p1 : Int32) (p2 : Int32)  (S : HS) (x3 : Int32) (x4 : Int32) (x5 : Int32) : Option (HS × Int32) := fx (F_X0_tellByWalk_b8 a0 p1 p2) FU (S, x3, x4, x5)
def f_X0_tellByWalk (a0 : Nat) (p1 : Int32) (p2 : Int32) (S : HS) : Option (HS × Int32) :=
f_X0_tellByWalk_b8 a0 p1 p2  S p1 p1 (0 : Int32)
def rm_X0_tellByWalk : Room := { frames := 2, cells := 0, slots := 0, locals := 45 }
set_option maxRecDepth 100000 in
set_option maxHeartbeats 4000000 in
theorem c_X0_tellByWalk (l : Launch) (a0 : Nat) (p1 : Int32) (p2 : Int32) (ha0 : oc a0 = some 0) (S : HS) (out : HS × Int32) (h : f_X0_tellByWalk a0 p1 p2 S = some out) : Ct l yX0_tellByWalk cX0_tellByWalk 13 (some .boolean) rm_X0_tellByWalk [vR a0, vI p1, vI p2] S (some (vI out.2)) out.1 := by
  refine Ct.intro (own := RX0) (lv := [(0, vR a0), (1, vI p1), (2, vI p2)]) (by decide +kernel) rfl ⟨rfl, rfl⟩ rfl (Nat.le_of_ble_eq_true rfl) ?_
  intro G hG hR
  revert h
  have hb260 : ∀ (S : HS), f_X0_tellByWalk_b260 a0 p1 p2 S  = some out → G 0 0 S [] 260 [] := by
    intro S
    unfold f_X0_tellByWalk_b260
    refine s_iconst hG (v := (1 : Int32)) dX0_tellByWalk_260 (by decide) ?_
    exact s_rzC hR dX0_tellByWalk_261
  have hb248 : ∀ (rec8 : HS × Int32 × Int32 × Int32 → Option (HS × Int32)) (hrec8 : ∀ (S : HS) (x3 : Int32) (x4 : Int32) (x5 : Int32), rec8 (S, x3, x4, x5) = some out → G 0 0 S [(0, vR a0), (2, vI p2), (3, vI x3), (4, vI x4), (5, vI x5)] 8 []) (rec41 : HS × Int32 × Int32 × Int32 × Int32 × Int32 → Option (HS × Int32)) (hrec41 : ∀ (S : HS) (x3 : Int32) (x4 : Int32) (x5 : Int32) (x6 : Int32) (x7 : Int32), rec41 (S, x3, x4, x5, x6, x7) = some out → G 0 0 S [(0, vR a0), (2, vI p2), (3, vI x3), (4, vI x4), (5, vI x5), (6, vI x6), (7, vI x7)] 41 []) (S : HS) (x3 : Int32) (x4 : Int32) (x5 : Int32) (x6 : Int32) (x7 : Int32), f_X0_tellByWalk_b248 a0 p1 p2 rec8 rec41 S x3 x4 x5 x6 x7 = some out → G 0 0 S [(0, vR a0), (2, vI p2), (3, vI x3), (4, vI x4), (5, vI x5), (6, vI x6), (7, vI x7)] 248 [] := by
    intro rec8 hrec8 rec41 hrec41 S x3 x4 x5 x6 x7
    unfold f_X0_tellByWalk_b248
    refine s_iinc hG (v := (x7 + (1 : Int32))) (lv' := [(7, vI (x7 + (1 : Int32))), (0, vR a0), (2, vI p2), (3, vI x3), (4, vI x4), (5, vI x5), (6, vI x6)]) dX0_tellByWalk_248 rfl rfl (by decide) rfl ?_
    refine s_goto hG (tgt := 41) dX0_tellByWalk_251 (by decide) ?_
    refine s_lv hG [1, 2, 3, 4, 5, 6, 0] rfl ?_
    exact hrec41 _ _ _ _ _ _
  have hb238 : ∀ (rec8 : HS × Int32 × Int32 × Int32 → Option (HS × Int32)) (hrec8 : ∀ (S : HS) (x3 : Int32) (x4 : Int32) (x5 : Int32), rec8 (S, x3, x4, x5) = some out → G 0 0 S [(0, vR a0), (2, vI p2), (3, vI x3), (4, vI x4), (5, vI x5)] 8 []) (rec41 : HS × Int32 × Int32 × Int32 × Int32 × Int32 → Option (HS × Int32)) (hrec41 : ∀ (S : HS) (x3 : Int32) (x4 : Int32) (x5 : Int32) (x6 : Int32) (x7 : Int32), rec41 (S, x3, x4, x5, x6, x7) = some out → G 0 0 S [(0, vR a0), (2, vI p2), (3, vI x3), (4, vI x4), (5, vI x5), (6, vI x6), (7, vI x7)] 41 []) (S : HS) (x3 : Int32) (x5 : Int32) (x6 : Int32) (x7 : Int32) (x10 : Int32) (t0 : Int32) (t1 : Int32), f_X0_tellByWalk_b238 a0 p1 p2 rec8 rec41 S x3 x5 x6 x7 x10 t0 t1 = some out → G 0 0 S [(0, vR a0), (2, vI p2), (3, vI x3), (5, vI x5), (6, vI x6), (7, vI x7), (10, vI x10)] 238 [vI t1, vI t0] := by
    intro rec8 hrec8 rec41 hrec41 S x3 x5 x6 x7 x10 t0 t1
    unfold f_X0_tellByWalk_b238
    refine s_ior hG dX0_tellByWalk_238 ?_
    refine s_istore hG (lv' := [(4, vI (t0 ||| t1)), (0, vR a0), (2, vI p2), (3, vI x3), (5, vI x5), (6, vI x6), (7, vI x7), (10, vI x10)]) dX0_tellByWalk_239 (by decide) rfl ?_
    refine s_iload_n hG dX0_tellByWalk_241 rfl ?_
    refine s_iconst hG (v := (1 : Int32)) dX0_tellByWalk_242 (by decide) ?_
    refine s_iload hG dX0_tellByWalk_243 rfl ?_
    refine s_ishl hG dX0_tellByWalk_245 ?_
    refine s_ior hG dX0_tellByWalk_246 ?_
    refine s_istore_n hG (lv' := [(3, vI (x3 ||| ((1 : Int32) <<< (x10 &&& 31)))), (4, vI (t0 ||| t1)), (0, vR a0), (2, vI p2), (5, vI x5), (6, vI x6), (7, vI x7), (10, vI x10)]) dX0_tellByWalk_247 (by decide) rfl ?_
    refine s_lv hG [2, 3, 0, 1, 4, 5, 6] rfl ?_
    exact hb248 _ hrec8 _ hrec41 _ _ _ _ _ _
  have hb209 : ∀ (rec8 : HS × Int32 × Int32 × Int32 → Option (HS × Int32)) (hrec8 : ∀ (S : HS) (x3 : Int32) (x4 : Int32) (x5 : Int32), rec8 (S, x3, x4, x5) = some out → G 0 0 S [(0, vR a0), (2, vI p2), (3, vI x3), (4, vI x4), (5, vI x5)] 8 []) (rec41 : HS × Int32 × Int32 × Int32 × Int32 × Int32 → Option (HS × Int32)) (hrec41 : ∀ (S : HS) (x3 : Int32) (x4 : Int32) (x5 : Int32) (x6 : Int32) (x7 : Int32), rec41 (S, x3, x4, x5, x6, x7) = some out → G 0 0 S [(0, vR a0), (2, vI p2), (3, vI x3), (4, vI x4), (5, vI x5), (6, vI x6), (7, vI x7)] 41 []) (S : HS) (x3 : Int32) (x4 : Int32) (x5 : Int32) (x6 : Int32) (x7 : Int32) (x10 : Int32) (x12 : Int32), f_X0_tellByWalk_b209 a0 p1 p2 rec8 rec41 S x3 x4 x5 x6 x7 x10 x12 = some out → G 0 0 S [(0, vR a0), (2, vI p2), (3, vI x3), (4, vI x4), (5, vI x5), (6, vI x6), (7, vI x7), (10, vI x10), (12, vI x12)] 209 [] := by
    intro rec8 hrec8 rec41 hrec41 S x3 x4 x5 x6 x7 x10 x12
    unfold f_X0_tellByWalk_b209
    refine s_aload_n hG dX0_tellByWalk_209 rfl ?_
    refine s_iload hG dX0_tellByWalk_210 rfl ?_
    refine s_iload_n hG dX0_tellByWalk_212 rfl ?_
    refine s_iload hG dX0_tellByWalk_213 rfl ?_
    refine s_cvV hG (as := [vI x10, vI p2, vI x12]) (st := []) (rm := rm_X0_set) dX0_tellByWalk_215 ml_RX0_55 (ha0) (tb6 (mem_i 10 rfl)) rfl ⟨rfl, rfl⟩ ⟨by decide, by decide⟩ (Nat.le_of_ble_eq_true rfl) ⟨Nat.zero_le _, Nat.zero_le _⟩ rfl (fun o h => c_X0_set l _ _ _ _ (ha0) _ o h) (fun o215 => ?_)
    refine s_iload hG dX0_tellByWalk_218 rfl ?_
    refine s_iload_n hG dX0_tellByWalk_220 rfl ?_
    refine s_i2l hG dX0_tellByWalk_221 ?_
    refine s_iload hG dX0_tellByWalk_222 rfl ?_
    refine s_csP hG (as := [vL x3.toInt64, vI x10]) (st := [vI x4]) (rm := rm_X7_has) dX0_tellByWalk_224 ml_RX0_59 (tb6 (mem_i 14 rfl)) rfl ⟨rfl, rfl⟩ ⟨by decide, by decide⟩ (Nat.le_of_ble_eq_true rfl) ⟨Nat.zero_le _, Nat.zero_le _⟩ rfl (fun o h => c_X7_has l _ _ _ o h) (fun o224 => ?_)
    refine s_if_eq hG (tgt := 234) dX0_tellByWalk_227 (by decide) ?_ ?_
    · refine s_iconst hG (v := (1 : Int32)) dX0_tellByWalk_234 (by decide) ?_
      refine s_iload hG dX0_tellByWalk_235 rfl ?_
      refine s_ishl hG dX0_tellByWalk_237 ?_
      refine s_lv hG [0, 1, 2, 4, 5, 6, 7] rfl ?_
      exact hb238 _ hrec8 _ hrec41 _ _ _ _ _ _ _ _
    · refine s_iconst hG (v := (0 : Int32)) dX0_tellByWalk_230 (by decide) ?_
      refine s_goto hG (tgt := 238) dX0_tellByWalk_231 (by decide) ?_
      refine s_lv hG [0, 1, 2, 4, 5, 6, 7] rfl ?_
      exact hb238 _ hrec8 _ hrec41 _ _ _ _ _ _ _ _
  have hb182 : ∀ (rec8 : HS × Int32 × Int32 × Int32 → Option (HS × Int32)) (hrec8 : ∀ (S : HS) (x3 : Int32) (x4 : Int32) (x5 : Int32), rec8 (S, x3, x4, x5) = some out → G 0 0 S [(0, vR a0), (2, vI p2), (3, vI x3), (4, vI x4), (5, vI x5)] 8 []) (rec41 : HS × Int32 × Int32 × Int32 × Int32 × Int32 → Option (HS × Int32)) (hrec41 : ∀ (S : HS) (x3 : Int32) (x4 : Int32) (x5 : Int32) (x6 : Int32) (x7 : Int32), rec41 (S, x3, x4, x5, x6, x7) = some out → G 0 0 S [(0, vR a0), (2, vI p2), (3, vI x3), (4, vI x4), (5, vI x5), (6, vI x6), (7, vI x7)] 41 []) (S : HS) (x3 : Int32) (x4 : Int32) (x5 : Int32) (x6 : Int32) (x7 : Int32) (x10 : Int32) (t0 : Int32) (t1 : Int32), f_X0_tellByWalk_b182 a0 p1 p2 rec8 rec41 S x3 x4 x5 x6 x7 x10 t0 t1 = some out → G 0 0 S [(0, vR a0), (2, vI p2), (3, vI x3), (4, vI x4), (5, vI x5), (6, vI x6), (7, vI x7), (10, vI x10)] 182 [vI t1, vI t0] := by
    intro rec8 hrec8 rec41 hrec41 S x3 x4 x5 x6 x7 x10 t0 t1
    unfold f_X0_tellByWalk_b182
    refine s_iadd hG dX0_tellByWalk_182 ?_
    refine s_istore hG (lv' := [(12, vI (t0 + t1)), (0, vR a0), (2, vI p2), (3, vI x3), (4, vI x4), (5, vI x5), (6, vI x6), (7, vI x7), (10, vI x10)]) dX0_tellByWalk_183 (by decide) rfl ?_
    refine s_iload_n hG dX0_tellByWalk_185 rfl ?_
    refine s_i2l hG dX0_tellByWalk_186 ?_
    refine s_iload hG dX0_tellByWalk_187 rfl ?_
    refine s_csP hG (as := [vL x3.toInt64, vI x10]) (st := []) (rm := rm_X7_has) dX0_tellByWalk_189 ml_RX0_59 (tb6 (mem_i 14 rfl)) rfl ⟨rfl, rfl⟩ ⟨by decide, by decide⟩ (Nat.le_of_ble_eq_true rfl) ⟨Nat.zero_le _, Nat.zero_le _⟩ rfl (fun o h => c_X7_has l _ _ _ o h) (fun o189 => ?_)
    refine s_if_eq hG (tgt := 209) dX0_tellByWalk_192 (by decide) ?_ ?_
    · refine s_lv hG [1, 2, 3, 4, 5, 6, 7, 8, 0] rfl ?_
      exact hb209 _ hrec8 _ hrec41 _ _ _ _ _ _ _ _
    · refine s_aload_n hG dX0_tellByWalk_195 rfl ?_
      refine s_iload hG dX0_tellByWalk_196 rfl ?_
      refine s_iload_n hG dX0_tellByWalk_198 rfl ?_
      refine s_cvP hG (as := [vI x10, vI p2]) (st := []) (rm := rm_X0_numberOf) dX0_tellByWalk_199 ml_RX0_51 (ha0) (tb6 (mem_i 25 rfl)) rfl ⟨rfl, rfl⟩ ⟨by decide, by decide⟩ (Nat.le_of_ble_eq_true rfl) ⟨Nat.zero_le _, Nat.zero_le _⟩ rfl (fun o h => c_X0_numberOf l _ _ _ (ha0) _ o h) (fun o199 => ?_)
      refine s_iload hG dX0_tellByWalk_202 rfl ?_
      refine s_icmp_eq hG (tgt := 209) dX0_tellByWalk_204 (by decide) ?_ ?_
      · refine s_lv hG [1, 2, 3, 4, 5, 6, 7, 8, 0] rfl ?_
        exact hb209 _ hrec8 _ hrec41 _ _ _ _ _ _ _ _
      · refine s_iconst hG (v := (0 : Int32)) dX0_tellByWalk_207 (by decide) ?_
        exact s_rzC hR dX0_tellByWalk_208
  have hb151 : ∀ (rec8 : HS × Int32 × Int32 × Int32 → Option (HS × Int32)) (hrec8 : ∀ (S : HS) (x3 : Int32) (x4 : Int32) (x5 : Int32), rec8 (S, x3, x4, x5) = some out → G 0 0 S [(0, vR a0), (2, vI p2), (3, vI x3), (4, vI x4), (5, vI x5)] 8 []) (rec41 : HS × Int32 × Int32 × Int32 × Int32 × Int32 → Option (HS × Int32)) (hrec41 : ∀ (S : HS) (x3 : Int32) (x4 : Int32) (x5 : Int32) (x6 : Int32) (x7 : Int32), rec41 (S, x3, x4, x5, x6, x7) = some out → G 0 0 S [(0, vR a0), (2, vI p2), (3, vI x3), (4, vI x4), (5, vI x5), (6, vI x6), (7, vI x7)] 41 []) (S : HS) (x3 : Int32) (x4 : Int32) (x5 : Int32) (x6 : Int32) (x7 : Int32) (x8 : Int32) (t0 : Int32), f_X0_tellByWalk_b151 a0 p1 p2 rec8 rec41 S x3 x4 x5 x6 x7 x8 t0 = some out → G 0 0 S [(0, vR a0), (2, vI p2), (3, vI x3), (4, vI x4), (5, vI x5), (6, vI x6), (7, vI x7), (8, vI x8)] 151 [vI t0] := by
    intro rec8 hrec8 rec41 hrec41 S x3 x4 x5 x6 x7 x8 t0
    unfold f_X0_tellByWalk_b151
    refine s_istore hG (lv' := [(10, vI t0), (0, vR a0), (2, vI p2), (3, vI x3), (4, vI x4), (5, vI x5), (6, vI x6), (7, vI x7), (8, vI x8)]) dX0_tellByWalk_151 (by decide) rfl ?_
    refine s_aload_n hG dX0_tellByWalk_153 rfl ?_
    refine s_iload hG dX0_tellByWalk_154 rfl ?_
    refine s_iload_n hG dX0_tellByWalk_156 rfl ?_
    refine s_cvP hG (as := [vI x7, vI p2]) (st := []) (rm := rm_X0_gapOf) dX0_tellByWalk_157 ml_RX0_89 (ha0) (tb7 (mem_i 11 rfl)) rfl ⟨rfl, rfl⟩ ⟨by decide, by decide⟩ (Nat.le_of_ble_eq_true rfl) ⟨Nat.zero_le _, Nat.zero_le _⟩ rfl (fun o h => c_X0_gapOf l _ _ _ (ha0) _ o h) (fun o157 => ?_)
    refine s_istore hG (lv' := [(11, vI o157), (10, vI t0), (0, vR a0), (2, vI p2), (3, vI x3), (4, vI x4), (5, vI x5), (6, vI x6), (7, vI x7), (8, vI x8)]) dX0_tellByWalk_160 (by decide) rfl ?_
    refine s_aload_n hG dX0_tellByWalk_162 rfl ?_
    refine s_iload hG dX0_tellByWalk_163 rfl ?_
    refine s_iload_n hG dX0_tellByWalk_165 rfl ?_
    refine s_cvP hG (as := [vI x6, vI p2]) (st := []) (rm := rm_X0_numberOf) dX0_tellByWalk_166 ml_RX0_51 (ha0) (tb6 (mem_i 25 rfl)) rfl ⟨rfl, rfl⟩ ⟨by decide, by decide⟩ (Nat.le_of_ble_eq_true rfl) ⟨Nat.zero_le _, Nat.zero_le _⟩ rfl (fun o h => c_X0_numberOf l _ _ _ (ha0) _ o h) (fun o166 => ?_)
    refine s_iload hG dX0_tellByWalk_169 rfl ?_
    refine s_if_eq hG (tgt := 179) dX0_tellByWalk_171 (by decide) ?_ ?_
    · refine s_iload hG dX0_tellByWalk_179 rfl ?_
      refine s_ineg hG dX0_tellByWalk_181 ?_
      refine s_lv hG [2, 3, 4, 5, 6, 7, 8, 1] rfl ?_
      exact hb182 _ hrec8 _ hrec41 _ _ _ _ _ _ _ _ _
    · refine s_iload hG dX0_tellByWalk_174 rfl ?_
      refine s_goto hG (tgt := 182) dX0_tellByWalk_176 (by decide) ?_
      refine s_lv hG [2, 3, 4, 5, 6, 7, 8, 1] rfl ?_
      exact hb182 _ hrec8 _ hrec41 _ _ _ _ _ _ _ _ _
  have hb106 : ∀ (rec8 : HS × Int32 × Int32 × Int32 → Option (HS × Int32)) (hrec8 : ∀ (S : HS) (x3 : Int32) (x4 : Int32) (x5 : Int32), rec8 (S, x3, x4, x5) = some out → G 0 0 S [(0, vR a0), (2, vI p2), (3, vI x3), (4, vI x4), (5, vI x5)] 8 []) (rec41 : HS × Int32 × Int32 × Int32 × Int32 × Int32 → Option (HS × Int32)) (hrec41 : ∀ (S : HS) (x3 : Int32) (x4 : Int32) (x5 : Int32) (x6 : Int32) (x7 : Int32), rec41 (S, x3, x4, x5, x6, x7) = some out → G 0 0 S [(0, vR a0), (2, vI p2), (3, vI x3), (4, vI x4), (5, vI x5), (6, vI x6), (7, vI x7)] 41 []) (S : HS) (x3 : Int32) (x4 : Int32) (x5 : Int32) (x6 : Int32) (x7 : Int32) (x8 : Int32), f_X0_tellByWalk_b106 a0 p1 p2 rec8 rec41 S x3 x4 x5 x6 x7 x8 = some out → G 0 0 S [(0, vR a0), (2, vI p2), (3, vI x3), (4, vI x4), (5, vI x5), (6, vI x6), (7, vI x7), (8, vI x8)] 106 [] := by
    intro rec8 hrec8 rec41 hrec41 S x3 x4 x5 x6 x7 x8
    unfold f_X0_tellByWalk_b106
    refine s_aload_n hG dX0_tellByWalk_106 rfl ?_
    refine s_iload hG dX0_tellByWalk_107 rfl ?_
    refine s_iload_n hG dX0_tellByWalk_109 rfl ?_
    refine s_cvP hG (as := [vI x7, vI p2]) (st := []) (rm := rm_X0_isLink) dX0_tellByWalk_110 ml_RX0_92 (ha0) (tb6 (mem_i 20 rfl)) rfl ⟨rfl, rfl⟩ ⟨by decide, by decide⟩ (Nat.le_of_ble_eq_true rfl) ⟨Nat.zero_le _, Nat.zero_le _⟩ rfl (fun o h => c_X0_isLink l _ _ _ (ha0) _ o h) (fun o110 => ?_)
    refine s_if_ne hG (tgt := 119) dX0_tellByWalk_113 (by decide) ?_ ?_
    · refine s_iload hG dX0_tellByWalk_119 rfl ?_
      refine s_if_eq hG (tgt := 139) dX0_tellByWalk_121 (by decide) ?_ ?_
      · refine s_aload_n hG dX0_tellByWalk_139 rfl ?_
        refine s_getC hG dX0_tellByWalk_140 fl_RX0_29 (fk0_1 _ ha0) ?_
        refine s_getC hG dX0_tellByWalk_143 fl_RX0_79 (rfl) ?_
        refine s_iload hG dX0_tellByWalk_146 rfl ?_
        refine s_csP hG (as := [vR 7, vI x7]) (st := []) (rm := rm_X7_read) dX0_tellByWalk_148 ml_RX0_43 (tb5 (mem_i 19 rfl)) rfl ⟨rfl, rfl⟩ ⟨by decide, by decide⟩ (Nat.le_of_ble_eq_true rfl) ⟨Nat.zero_le _, Nat.zero_le _⟩ rfl (fun o h => c_X7_read l _ _ (rfl) _ o h) (fun o148 => ?_)
        exact hb151 _ hrec8 _ hrec41 _ _ _ _ _ _ _ _
      · refine s_aload_n hG dX0_tellByWalk_124 rfl ?_
        refine s_getC hG dX0_tellByWalk_125 fl_RX0_29 (fk0_1 _ ha0) ?_
        refine s_getC hG dX0_tellByWalk_128 fl_RX0_82 (rfl) ?_
        refine s_iload hG dX0_tellByWalk_131 rfl ?_
        refine s_csP hG (as := [vR 8, vI x7]) (st := []) (rm := rm_X7_read) dX0_tellByWalk_133 ml_RX0_43 (tb5 (mem_i 19 rfl)) rfl ⟨rfl, rfl⟩ ⟨by decide, by decide⟩ (Nat.le_of_ble_eq_true rfl) ⟨Nat.zero_le _, Nat.zero_le _⟩ rfl (fun o h => c_X7_read l _ _ (rfl) _ o h) (fun o133 => ?_)
        refine s_goto hG (tgt := 151) dX0_tellByWalk_136 (by decide) ?_
        exact hb151 _ hrec8 _ hrec41 _ _ _ _ _ _ _ _
    · refine s_goto hG (tgt := 248) dX0_tellByWalk_116 (by decide) ?_
      refine s_lv hG [0, 1, 2, 3, 4, 5, 6] rfl ?_
      exact hb248 _ hrec8 _ hrec41 _ _ _ _ _ _
  have hb94 : ∀ (rec8 : HS × Int32 × Int32 × Int32 → Option (HS × Int32)) (hrec8 : ∀ (S : HS) (x3 : Int32) (x4 : Int32) (x5 : Int32), rec8 (S, x3, x4, x5) = some out → G 0 0 S [(0, vR a0), (2, vI p2), (3, vI x3), (4, vI x4), (5, vI x5)] 8 []) (rec41 : HS × Int32 × Int32 × Int32 × Int32 × Int32 → Option (HS × Int32)) (hrec41 : ∀ (S : HS) (x3 : Int32) (x4 : Int32) (x5 : Int32) (x6 : Int32) (x7 : Int32), rec41 (S, x3, x4, x5, x6, x7) = some out → G 0 0 S [(0, vR a0), (2, vI p2), (3, vI x3), (4, vI x4), (5, vI x5), (6, vI x6), (7, vI x7)] 41 []) (S : HS) (x3 : Int32) (x4 : Int32) (x5 : Int32) (x6 : Int32) (x7 : Int32) (x8 : Int32) (t0 : Int32), f_X0_tellByWalk_b94 a0 p1 p2 rec8 rec41 S x3 x4 x5 x6 x7 x8 t0 = some out → G 0 0 S [(0, vR a0), (2, vI p2), (3, vI x3), (4, vI x4), (5, vI x5), (6, vI x6), (7, vI x7), (8, vI x8)] 94 [vI t0] := by
    intro rec8 hrec8 rec41 hrec41 S x3 x4 x5 x6 x7 x8 t0
    unfold f_X0_tellByWalk_b94
    refine s_istore hG (lv' := [(9, vI t0), (0, vR a0), (2, vI p2), (3, vI x3), (4, vI x4), (5, vI x5), (6, vI x6), (7, vI x7), (8, vI x8)]) dX0_tellByWalk_94 (by decide) rfl ?_
    refine s_iload hG dX0_tellByWalk_96 rfl ?_
    refine s_if_ne hG (tgt := 106) dX0_tellByWalk_98 (by decide) ?_ ?_
    · refine s_lv hG [1, 2, 3, 4, 5, 6, 7, 8] rfl ?_
      exact hb106 _ hrec8 _ hrec41 _ _ _ _ _ _ _
    · refine s_iload hG dX0_tellByWalk_101 rfl ?_
      refine s_if_eq hG (tgt := 248) dX0_tellByWalk_103 (by decide) ?_ ?_
      · refine s_lv hG [1, 2, 3, 4, 5, 6, 7] rfl ?_
        exact hb248 _ hrec8 _ hrec41 _ _ _ _ _ _
      · refine s_lv hG [1, 2, 3, 4, 5, 6, 7, 8] rfl ?_
        exact hb106 _ hrec8 _ hrec41 _ _ _ _ _ _ _
  have hb70 : ∀ (rec8 : HS × Int32 × Int32 × Int32 → Option (HS × Int32)) (hrec8 : ∀ (S : HS) (x3 : Int32) (x4 : Int32) (x5 : Int32), rec8 (S, x3, x4, x5) = some out → G 0 0 S [(0, vR a0), (2, vI p2), (3, vI x3), (4, vI x4), (5, vI x5)] 8 []) (rec41 : HS × Int32 × Int32 × Int32 × Int32 × Int32 → Option (HS × Int32)) (hrec41 : ∀ (S : HS) (x3 : Int32) (x4 : Int32) (x5 : Int32) (x6 : Int32) (x7 : Int32), rec41 (S, x3, x4, x5, x6, x7) = some out → G 0 0 S [(0, vR a0), (2, vI p2), (3, vI x3), (4, vI x4), (5, vI x5), (6, vI x6), (7, vI x7)] 41 []) (S : HS) (x3 : Int32) (x4 : Int32) (x5 : Int32) (x6 : Int32) (x7 : Int32) (t0 : Int32), f_X0_tellByWalk_b70 a0 p1 p2 rec8 rec41 S x3 x4 x5 x6 x7 t0 = some out → G 0 0 S [(0, vR a0), (2, vI p2), (3, vI x3), (4, vI x4), (5, vI x5), (6, vI x6), (7, vI x7)] 70 [vI t0] := by
    intro rec8 hrec8 rec41 hrec41 S x3 x4 x5 x6 x7 t0
    unfold f_X0_tellByWalk_b70
    refine s_istore hG (lv' := [(8, vI t0), (0, vR a0), (2, vI p2), (3, vI x3), (4, vI x4), (5, vI x5), (6, vI x6), (7, vI x7)]) dX0_tellByWalk_70 (by decide) rfl ?_
    refine s_aload_n hG dX0_tellByWalk_72 rfl ?_
    refine s_getC hG dX0_tellByWalk_73 fl_RX0_29 (fk0_1 _ ha0) ?_
    refine s_getC hG dX0_tellByWalk_76 fl_RX0_82 (rfl) ?_
    refine s_iload hG dX0_tellByWalk_79 rfl ?_
    refine s_csP hG (as := [vR 8, vI x7]) (st := []) (rm := rm_X7_read) dX0_tellByWalk_81 ml_RX0_43 (tb5 (mem_i 19 rfl)) rfl ⟨rfl, rfl⟩ ⟨by decide, by decide⟩ (Nat.le_of_ble_eq_true rfl) ⟨Nat.zero_le _, Nat.zero_le _⟩ rfl (fun o h => c_X7_read l _ _ (rfl) _ o h) (fun o81 => ?_)
    refine s_iload hG dX0_tellByWalk_84 rfl ?_
    refine s_icmp_ne hG (tgt := 93) dX0_tellByWalk_86 (by decide) ?_ ?_
    · refine s_iconst hG (v := (0 : Int32)) dX0_tellByWalk_93 (by decide) ?_
      refine s_lv hG [1, 2, 3, 4, 5, 6, 7, 0] rfl ?_
      exact hb94 _ hrec8 _ hrec41 _ _ _ _ _ _ _ _
    · refine s_iconst hG (v := (1 : Int32)) dX0_tellByWalk_89 (by decide) ?_
      refine s_goto hG (tgt := 94) dX0_tellByWalk_90 (by decide) ?_
      refine s_lv hG [1, 2, 3, 4, 5, 6, 7, 0] rfl ?_
      exact hb94 _ hrec8 _ hrec41 _ _ _ _ _ _ _ _
  have hb41 : ∀ (rec8 : HS × Int32 × Int32 × Int32 → Option (HS × Int32)) (hrec8 : ∀ (S : HS) (x3 : Int32) (x4 : Int32) (x5 : Int32), rec8 (S, x3, x4, x5) = some out → G 0 0 S [(0, vR a0), (2, vI p2), (3, vI x3), (4, vI x4), (5, vI x5)] 8 []) (S : HS) (x3 : Int32) (x4 : Int32) (x5 : Int32) (x6 : Int32) (x7 : Int32), f_X0_tellByWalk_b41 a0 p1 p2 rec8 S x3 x4 x5 x6 x7 = some out → G 0 0 S [(0, vR a0), (2, vI p2), (3, vI x3), (4, vI x4), (5, vI x5), (6, vI x6), (7, vI x7)] 41 [] := by
    intro rec8 hrec8 S x3 x4 x5 x6 x7
    unfold f_X0_tellByWalk_b41
    generalize FU = nf
    revert S x3 x4 x5 x6 x7
    induction nf with
    | zero => intro S x3 x4 x5 x6 x7 h9; cases h9
    | succ nf hrec41 =>
      intro S x3 x4 x5 x6 x7
      show F_X0_tellByWalk_b41 a0 p1 p2 rec8 (fx (F_X0_tellByWalk_b41 a0 p1 p2 rec8) nf) (S, x3, x4, x5, x6, x7) = some out → _
      generalize fx (F_X0_tellByWalk_b41 a0 p1 p2 rec8) nf = rec41 at hrec41
      unfold F_X0_tellByWalk_b41
      dsimp only
      refine s_iload hG dX0_tellByWalk_41 rfl ?_
      refine s_bipush hG (v := (12 : Int32)) dX0_tellByWalk_43 (by decide) ?_
      refine s_icmp_ge hG (tgt := 254) dX0_tellByWalk_45 (by decide) ?_ ?_
      · refine s_iinc hG (v := (x5 + (1 : Int32))) (lv' := [(5, vI (x5 + (1 : Int32))), (0, vR a0), (2, vI p2), (3, vI x3), (4, vI x4), (6, vI x6), (7, vI x7)]) dX0_tellByWalk_254 rfl rfl (by decide) rfl ?_
        refine s_goto hG (tgt := 8) dX0_tellByWalk_257 (by decide) ?_
        refine s_lv hG [1, 2, 3, 4, 0] rfl ?_
        exact hrec8 _ _ _ _
      · refine s_aload_n hG dX0_tellByWalk_48 rfl ?_
        refine s_getC hG dX0_tellByWalk_49 fl_RX0_29 (fk0_1 _ ha0) ?_
        refine s_getC hG dX0_tellByWalk_52 fl_RX0_79 (rfl) ?_
        refine s_iload hG dX0_tellByWalk_55 rfl ?_
        refine s_csP hG (as := [vR 7, vI x7]) (st := []) (rm := rm_X7_read) dX0_tellByWalk_57 ml_RX0_43 (tb5 (mem_i 19 rfl)) rfl ⟨rfl, rfl⟩ ⟨by decide, by decide⟩ (Nat.le_of_ble_eq_true rfl) ⟨Nat.zero_le _, Nat.zero_le _⟩ rfl (fun o h => c_X7_read l _ _ (rfl) _ o h) (fun o57 => ?_)
        refine s_iload hG dX0_tellByWalk_60 rfl ?_
        refine s_icmp_ne hG (tgt := 69) dX0_tellByWalk_62 (by decide) ?_ ?_
        · refine s_iconst hG (v := (0 : Int32)) dX0_tellByWalk_69 (by decide) ?_
          exact hb70 _ hrec8 _ hrec41 _ _ _ _ _ _ _
        · refine s_iconst hG (v := (1 : Int32)) dX0_tellByWalk_65 (by decide) ?_
          refine s_goto hG (tgt := 70) dX0_tellByWalk_66 (by decide) ?_
          exact hb70 _ hrec8 _ hrec41 _ _ _ _ _ _ _
  have hb8 : ∀ (S : HS) (x3 : Int32) (x4 : Int32) (x5 : Int32), f_X0_tellByWalk_b8 a0 p1 p2 S x3 x4 x5 = some out → G 0 0 S [(0, vR a0), (2, vI p2), (3, vI x3), (4, vI x4), (5, vI x5)] 8 [] := by
    intro  S x3 x4 x5
    unfold f_X0_tellByWalk_b8
    generalize FU = nf
    revert S x3 x4 x5
    induction nf with
    | zero => intro S x3 x4 x5 h9; cases h9
    | succ nf hrec8 =>
      intro S x3 x4 x5
      show F_X0_tellByWalk_b8 a0 p1 p2 (fx (F_X0_tellByWalk_b8 a0 p1 p2) nf) (S, x3, x4, x5) = some out → _
      generalize fx (F_X0_tellByWalk_b8 a0 p1 p2) nf = rec8 at hrec8
      unfold F_X0_tellByWalk_b8
      dsimp only
      refine s_iload hG dX0_tellByWalk_8 rfl ?_
      refine s_bipush hG (v := (10 : Int32)) dX0_tellByWalk_10 (by decide) ?_
      refine s_icmp_ge hG (tgt := 260) dX0_tellByWalk_12 (by decide) ?_ ?_
      · refine s_lv hG [] rfl ?_
        exact hb260 _
      · refine s_iload hG dX0_tellByWalk_15 rfl ?_
        refine s_if_eq hG (tgt := 260) dX0_tellByWalk_17 (by decide) ?_ ?_
        · refine s_lv hG [] rfl ?_
          exact hb260 _
        · refine s_iload hG dX0_tellByWalk_20 rfl ?_
          refine s_csP hG (as := [vI x4]) (st := []) (rm := rm_J6_numberOfTrailingZeros_0f7a4) dX0_tellByWalk_22 ml_RX0_114 (tb7 (mem_i 17 rfl)) rfl ⟨rfl, rfl⟩ ⟨by decide, by decide⟩ (Nat.le_of_ble_eq_true rfl) ⟨Nat.zero_le _, Nat.zero_le _⟩ rfl (fun o h => c_J6_numberOfTrailingZeros_0f7a4 l _ _ o h) (fun o22 => ?_)
          refine s_istore hG (lv' := [(6, vI o22), (0, vR a0), (2, vI p2), (3, vI x3), (4, vI x4), (5, vI x5)]) dX0_tellByWalk_25 (by decide) rfl ?_
          refine s_iload hG dX0_tellByWalk_27 rfl ?_
          refine s_iconst hG (v := (1 : Int32)) dX0_tellByWalk_29 (by decide) ?_
          refine s_iload hG dX0_tellByWalk_30 rfl ?_
          refine s_ishl hG dX0_tellByWalk_32 ?_
          refine s_iconst hG (v := (-1 : Int32)) dX0_tellByWalk_33 (by decide) ?_
          refine s_ixor hG dX0_tellByWalk_34 ?_
          refine s_iand hG dX0_tellByWalk_35 ?_
          refine s_istore hG (lv' := [(4, vI (x4 &&& (((1 : Int32) <<< (o22 &&& 31)) ^^^ (-1 : Int32)))), (6, vI o22), (0, vR a0), (2, vI p2), (3, vI x3), (5, vI x5)]) dX0_tellByWalk_36 (by decide) rfl ?_
          refine s_iconst hG (v := (0 : Int32)) dX0_tellByWalk_38 (by decide) ?_
          refine s_istore hG (lv' := [(7, vI (0 : Int32)), (4, vI (x4 &&& (((1 : Int32) <<< (o22 &&& 31)) ^^^ (-1 : Int32)))), (6, vI o22), (0, vR a0), (2, vI p2), (3, vI x3), (5, vI x5)]) dX0_tellByWalk_39 (by decide) rfl ?_
          refine s_lv hG [3, 4, 5, 1, 6, 2, 0] rfl ?_
          exact hb41 _ hrec8 _ _ _ _ _ _
  unfold f_X0_tellByWalk
  refine s_iload_n hG dX0_tellByWalk_0 rfl ?_
  refine s_istore_n hG (lv' := [(3, vI p1), (0, vR a0), (1, vI p1), (2, vI p2)]) dX0_tellByWalk_1 (by decide) rfl ?_
  refine s_iload_n hG dX0_tellByWalk_2 rfl ?_
  refine s_istore hG (lv' := [(4, vI p1), (3, vI p1), (0, vR a0), (1, vI p1), (2, vI p2)]) dX0_tellByWalk_3 (by decide) rfl ?_
  refine s_iconst hG (v := (0 : Int32)) dX0_tellByWalk_5 (by decide) ?_
  refine s_istore hG (lv' := [(5, vI (0 : Int32)), (4, vI p1), (3, vI p1), (0, vR a0), (1, vI p1), (2, vI p2)]) dX0_tellByWalk_6 (by decide) rfl ?_
  refine s_lv hG [3, 5, 2, 1, 0] rfl ?_
  exact hb8 _ _ _ _

def f_X0_tellInRounds_b210 (a0 : Nat) (p1 : Int32) (p2 : Int32)  (S : HS)  : Option (HS × Int32) :=
if nz (1 : Int32) = true then some (S, (1 : Int32)) else none
def f_X0_tellInRounds_b189 (a0 : Nat) (p1 : Int32) (p2 : Int32) (rec5 : HS × Int32 × Int32 → Option (HS × Int32)) (rec18 : HS × Int32 × Int32 × Int32 × Int32 → Option (HS × Int32)) (S : HS) (x3 : Int32) (x4 : Int32) (x5 : Int32) (x6 : Int32) : Option (HS × Int32) :=
rec18 (S, x3, x4, x5, (x6 + (1 : Int32)))
def f_X0_tellInRounds_b177 (a0 : Nat) (p1 : Int32) (p2 : Int32) (rec5 : HS × Int32 × Int32 → Option (HS × Int32)) (rec18 : HS × Int32 × Int32 × Int32 × Int32 → Option (HS × Int32)) (S : HS) (x3 : Int32) (x4 : Int32) (x5 : Int32) (x6 : Int32) (x7 : Int32) (x8 : Int32) : Option (HS × Int32) :=
f_X0_tellInRounds_b189 a0 p1 p2 rec5 rec18 S (x3 ||| (((1 : Int32) <<< (x7 &&& 31)) ||| ((1 : Int32) <<< (x8 &&& 31)))) x4 x5 x6
def f_X0_tellInRounds_b86 (a0 : Nat) (p1 : Int32) (p2 : Int32) (rec5 : HS × Int32 × Int32 → Option (HS × Int32)) (rec18 : HS × Int32 × Int32 × Int32 × Int32 → Option (HS × Int32)) (S : HS) (x3 : Int32) (x4 : Int32) (x5 : Int32) (x6 : Int32) (x7 : Int32) (x8 : Int32) : Option (HS × Int32) :=
(f_X0_gapOf a0 x6 p2 S).bind (fun o90 =>
(f_X7_has x3.toInt64 x8 S).bind (fun o99 =>
if o99 = 0 then
(f_X0_numberOf a0 x7 p2 S).bind (fun o113 =>
(f_X0_set a0 x8 p2 (o113 + o90) S).bind (fun o119 =>
f_X0_tellInRounds_b177 a0 p1 p2 rec5 rec18 o119 x3 x4 x5 x6 x7 x8))
else
(f_X7_has x3.toInt64 x7 S).bind (fun o129 =>
if o129 = 0 then
(f_X0_numberOf a0 x8 p2 S).bind (fun o143 =>
(f_X0_set a0 x7 p2 (o143 - o90) S).bind (fun o149 =>
f_X0_tellInRounds_b177 a0 p1 p2 rec5 rec18 o149 x3 x4 x5 x6 x7 x8))
else
(f_X0_numberOf a0 x8 p2 S).bind (fun o159 =>
(f_X0_numberOf a0 x7 p2 S).bind (fun o166 =>
if (o159 - o166) = o90 then
f_X0_tellInRounds_b177 a0 p1 p2 rec5 rec18 S x3 x4 x5 x6 x7 x8
else
if nz (0 : Int32) = true then some (S, (0 : Int32)) else none)))))
def F_X0_tellInRounds_b18 (a0 : Nat) (p1 : Int32) (p2 : Int32) (rec5 : HS × Int32 × Int32 → Option (HS × Int32)) (rec18 : HS × Int32 × Int32 × Int32 × Int32 → Option (HS × Int32)) : HS × Int32 × Int32 × Int32 × Int32 → Option (HS × Int32) := fun q => match q with
  | (S, x3, x4, x5, x6) =>
    if (12 : Int32) ≤ x6 then
    if x3 = x5 then
    f_X0_tellInRounds_b210 a0 p1 p2  S
    else
    rec5 (S, x3, (x4 + (1 : Int32)))
    else
    (f_X7_read 7 x6 S).bind (fun o34 =>
    (f_X7_read 8 x6 S).bind (fun o48 =>
    (f_X0_isLink a0 x6 p2 S).bind (fun o57 =>
    if o57 = 0 then
    f_X0_tellInRounds_b189 a0 p1 p2 rec5 rec18 S x3 x4 x5 x6
    else
    (f_X7_has x3.toInt64 o34 S).bind (fun o67 =>
    if o67 = 0 then
    (f_X7_has x3.toInt64 o48 S).bind (fun o77 =>
    if o77 = 0 then
    f_X0_tellInRounds_b189 a0 p1 p2 rec5 rec18 S x3 x4 x5 x6
    else
    f_X0_tellInRounds_b86 a0 p1 p2 rec5 rec18 S x3 x4 x5 x6 o34 o48)
    else
    f_X0_tellInRounds_b86 a0 p1 p2 rec5 rec18 S x3 x4 x5 x6 o34 o48))))
def f_X0_tellInRounds_b18 (a0 : Nat) (p1 : Int32) (p2 : Int32) (rec5 : HS × Int32 × Int32 → Option (HS × Int32)) (S : HS) (x3 : Int32) (x4 : Int32) (x5 : Int32) (x6 : Int32) : Option (HS × Int32) := fx (F_X0_tellInRounds_b18 a0 p1 p2 rec5) FU (S, x3, x4, x5, x6)
def F_X0_tellInRounds_b5 (a0 : Nat) (p1 : Int32) (p2 : Int32)  (rec5 : HS × Int32 × Int32 → Option (HS × Int32)) : HS × Int32 × Int32 → Option (HS × Int32) := fun q => match q with
  | (S, x3, x4) =>
    if (10 : Int32) ≤ x4 then
    f_X0_tellInRounds_b210 a0 p1 p2  S
    else
    f_X0_tellInRounds_b18 a0 p1 p2 rec5 S x3 x4 x3 (0 : Int32)
def f_X0_tellInRounds_b5 (a0 : Nat) (p1 : Int32) (p2 : Int32)  (S : HS) (x3 : Int32) (x4 : Int32) : Option (HS × Int32) := fx (F_X0_tellInRounds_b5 a0 p1 p2) FU (S, x3, x4)
def f_X0_tellInRounds (a0 : Nat) (p1 : Int32) (p2 : Int32) (S : HS) : Option (HS × Int32) :=
f_X0_tellInRounds_b5 a0 p1 p2  S p1 (0 : Int32)
def rm_X0_tellInRounds : Room := { frames := 2, cells := 0, slots := 0, locals := 45 }
set_option maxRecDepth 100000 in
set_option maxHeartbeats 4000000 in
theorem c_X0_tellInRounds (l : Launch) (a0 : Nat) (p1 : Int32) (p2 : Int32) (ha0 : oc a0 = some 0) (S : HS) (out : HS × Int32) (h : f_X0_tellInRounds a0 p1 p2 S = some out) : Ct l yX0_tellInRounds cX0_tellInRounds 10 (some .boolean) rm_X0_tellInRounds [vR a0, vI p1, vI p2] S (some (vI out.2)) out.1 := by
  refine Ct.intro (own := RX0) (lv := [(0, vR a0), (1, vI p1), (2, vI p2)]) (by decide +kernel) rfl ⟨rfl, rfl⟩ rfl (Nat.le_of_ble_eq_true rfl) ?_
  intro G hG hR
  revert h
  have hb210 : ∀ (S : HS), f_X0_tellInRounds_b210 a0 p1 p2 S  = some out → G 0 0 S [] 210 [] := by
    intro S
    unfold f_X0_tellInRounds_b210
    refine s_iconst hG (v := (1 : Int32)) dX0_tellInRounds_210 (by decide) ?_
    exact s_rzC hR dX0_tellInRounds_211
  have hb189 : ∀ (rec5 : HS × Int32 × Int32 → Option (HS × Int32)) (hrec5 : ∀ (S : HS) (x3 : Int32) (x4 : Int32), rec5 (S, x3, x4) = some out → G 0 0 S [(0, vR a0), (2, vI p2), (3, vI x3), (4, vI x4)] 5 []) (rec18 : HS × Int32 × Int32 × Int32 × Int32 → Option (HS × Int32)) (hrec18 : ∀ (S : HS) (x3 : Int32) (x4 : Int32) (x5 : Int32) (x6 : Int32), rec18 (S, x3, x4, x5, x6) = some out → G 0 0 S [(0, vR a0), (2, vI p2), (3, vI x3), (4, vI x4), (5, vI x5), (6, vI x6)] 18 []) (S : HS) (x3 : Int32) (x4 : Int32) (x5 : Int32) (x6 : Int32), f_X0_tellInRounds_b189 a0 p1 p2 rec5 rec18 S x3 x4 x5 x6 = some out → G 0 0 S [(0, vR a0), (2, vI p2), (3, vI x3), (4, vI x4), (5, vI x5), (6, vI x6)] 189 [] := by
    intro rec5 hrec5 rec18 hrec18 S x3 x4 x5 x6
    unfold f_X0_tellInRounds_b189
    refine s_iinc hG (v := (x6 + (1 : Int32))) (lv' := [(6, vI (x6 + (1 : Int32))), (0, vR a0), (2, vI p2), (3, vI x3), (4, vI x4), (5, vI x5)]) dX0_tellInRounds_189 rfl rfl (by decide) rfl ?_
    refine s_goto hG (tgt := 18) dX0_tellInRounds_192 (by decide) ?_
    refine s_lv hG [1, 2, 3, 4, 5, 0] rfl ?_
    exact hrec18 _ _ _ _ _
  have hb177 : ∀ (rec5 : HS × Int32 × Int32 → Option (HS × Int32)) (hrec5 : ∀ (S : HS) (x3 : Int32) (x4 : Int32), rec5 (S, x3, x4) = some out → G 0 0 S [(0, vR a0), (2, vI p2), (3, vI x3), (4, vI x4)] 5 []) (rec18 : HS × Int32 × Int32 × Int32 × Int32 → Option (HS × Int32)) (hrec18 : ∀ (S : HS) (x3 : Int32) (x4 : Int32) (x5 : Int32) (x6 : Int32), rec18 (S, x3, x4, x5, x6) = some out → G 0 0 S [(0, vR a0), (2, vI p2), (3, vI x3), (4, vI x4), (5, vI x5), (6, vI x6)] 18 []) (S : HS) (x3 : Int32) (x4 : Int32) (x5 : Int32) (x6 : Int32) (x7 : Int32) (x8 : Int32), f_X0_tellInRounds_b177 a0 p1 p2 rec5 rec18 S x3 x4 x5 x6 x7 x8 = some out → G 0 0 S [(0, vR a0), (2, vI p2), (3, vI x3), (4, vI x4), (5, vI x5), (6, vI x6), (7, vI x7), (8, vI x8)] 177 [] := by
    intro rec5 hrec5 rec18 hrec18 S x3 x4 x5 x6 x7 x8
    unfold f_X0_tellInRounds_b177
    refine s_iload_n hG dX0_tellInRounds_177 rfl ?_
    refine s_iconst hG (v := (1 : Int32)) dX0_tellInRounds_178 (by decide) ?_
    refine s_iload hG dX0_tellInRounds_179 rfl ?_
    refine s_ishl hG dX0_tellInRounds_181 ?_
    refine s_iconst hG (v := (1 : Int32)) dX0_tellInRounds_182 (by decide) ?_
    refine s_iload hG dX0_tellInRounds_183 rfl ?_
    refine s_ishl hG dX0_tellInRounds_185 ?_
    refine s_ior hG dX0_tellInRounds_186 ?_
    refine s_ior hG dX0_tellInRounds_187 ?_
    refine s_istore_n hG (lv' := [(3, vI (x3 ||| (((1 : Int32) <<< (x7 &&& 31)) ||| ((1 : Int32) <<< (x8 &&& 31))))), (0, vR a0), (2, vI p2), (4, vI x4), (5, vI x5), (6, vI x6), (7, vI x7), (8, vI x8)]) dX0_tellInRounds_188 (by decide) rfl ?_
    refine s_lv hG [1, 2, 0, 3, 4, 5] rfl ?_
    exact hb189 _ hrec5 _ hrec18 _ _ _ _ _
  have hb86 : ∀ (rec5 : HS × Int32 × Int32 → Option (HS × Int32)) (hrec5 : ∀ (S : HS) (x3 : Int32) (x4 : Int32), rec5 (S, x3, x4) = some out → G 0 0 S [(0, vR a0), (2, vI p2), (3, vI x3), (4, vI x4)] 5 []) (rec18 : HS × Int32 × Int32 × Int32 × Int32 → Option (HS × Int32)) (hrec18 : ∀ (S : HS) (x3 : Int32) (x4 : Int32) (x5 : Int32) (x6 : Int32), rec18 (S, x3, x4, x5, x6) = some out → G 0 0 S [(0, vR a0), (2, vI p2), (3, vI x3), (4, vI x4), (5, vI x5), (6, vI x6)] 18 []) (S : HS) (x3 : Int32) (x4 : Int32) (x5 : Int32) (x6 : Int32) (x7 : Int32) (x8 : Int32), f_X0_tellInRounds_b86 a0 p1 p2 rec5 rec18 S x3 x4 x5 x6 x7 x8 = some out → G 0 0 S [(0, vR a0), (2, vI p2), (3, vI x3), (4, vI x4), (5, vI x5), (6, vI x6), (7, vI x7), (8, vI x8)] 86 [] := by
    intro rec5 hrec5 rec18 hrec18 S x3 x4 x5 x6 x7 x8
    unfold f_X0_tellInRounds_b86
    refine s_aload_n hG dX0_tellInRounds_86 rfl ?_
    refine s_iload hG dX0_tellInRounds_87 rfl ?_
    refine s_iload_n hG dX0_tellInRounds_89 rfl ?_
    refine s_cvP hG (as := [vI x6, vI p2]) (st := []) (rm := rm_X0_gapOf) dX0_tellInRounds_90 ml_RX0_89 (ha0) (tb7 (mem_i 11 rfl)) rfl ⟨rfl, rfl⟩ ⟨by decide, by decide⟩ (Nat.le_of_ble_eq_true rfl) ⟨Nat.zero_le _, Nat.zero_le _⟩ rfl (fun o h => c_X0_gapOf l _ _ _ (ha0) _ o h) (fun o90 => ?_)
    refine s_istore hG (lv' := [(9, vI o90), (0, vR a0), (2, vI p2), (3, vI x3), (4, vI x4), (5, vI x5), (6, vI x6), (7, vI x7), (8, vI x8)]) dX0_tellInRounds_93 (by decide) rfl ?_
    refine s_iload_n hG dX0_tellInRounds_95 rfl ?_
    refine s_i2l hG dX0_tellInRounds_96 ?_
    refine s_iload hG dX0_tellInRounds_97 rfl ?_
    refine s_csP hG (as := [vL x3.toInt64, vI x8]) (st := []) (rm := rm_X7_has) dX0_tellInRounds_99 ml_RX0_59 (tb6 (mem_i 14 rfl)) rfl ⟨rfl, rfl⟩ ⟨by decide, by decide⟩ (Nat.le_of_ble_eq_true rfl) ⟨Nat.zero_le _, Nat.zero_le _⟩ rfl (fun o h => c_X7_has l _ _ _ o h) (fun o99 => ?_)
    refine s_if_ne hG (tgt := 125) dX0_tellInRounds_102 (by decide) ?_ ?_
    · refine s_iload_n hG dX0_tellInRounds_125 rfl ?_
      refine s_i2l hG dX0_tellInRounds_126 ?_
      refine s_iload hG dX0_tellInRounds_127 rfl ?_
      refine s_csP hG (as := [vL x3.toInt64, vI x7]) (st := []) (rm := rm_X7_has) dX0_tellInRounds_129 ml_RX0_59 (tb6 (mem_i 14 rfl)) rfl ⟨rfl, rfl⟩ ⟨by decide, by decide⟩ (Nat.le_of_ble_eq_true rfl) ⟨Nat.zero_le _, Nat.zero_le _⟩ rfl (fun o h => c_X7_has l _ _ _ o h) (fun o129 => ?_)
      refine s_if_ne hG (tgt := 155) dX0_tellInRounds_132 (by decide) ?_ ?_
      · refine s_aload_n hG dX0_tellInRounds_155 rfl ?_
        refine s_iload hG dX0_tellInRounds_156 rfl ?_
        refine s_iload_n hG dX0_tellInRounds_158 rfl ?_
        refine s_cvP hG (as := [vI x8, vI p2]) (st := []) (rm := rm_X0_numberOf) dX0_tellInRounds_159 ml_RX0_51 (ha0) (tb6 (mem_i 25 rfl)) rfl ⟨rfl, rfl⟩ ⟨by decide, by decide⟩ (Nat.le_of_ble_eq_true rfl) ⟨Nat.zero_le _, Nat.zero_le _⟩ rfl (fun o h => c_X0_numberOf l _ _ _ (ha0) _ o h) (fun o159 => ?_)
        refine s_aload_n hG dX0_tellInRounds_162 rfl ?_
        refine s_iload hG dX0_tellInRounds_163 rfl ?_
        refine s_iload_n hG dX0_tellInRounds_165 rfl ?_
        refine s_cvP hG (as := [vI x7, vI p2]) (st := [vI o159]) (rm := rm_X0_numberOf) dX0_tellInRounds_166 ml_RX0_51 (ha0) (tb6 (mem_i 25 rfl)) rfl ⟨rfl, rfl⟩ ⟨by decide, by decide⟩ (Nat.le_of_ble_eq_true rfl) ⟨Nat.zero_le _, Nat.zero_le _⟩ rfl (fun o h => c_X0_numberOf l _ _ _ (ha0) _ o h) (fun o166 => ?_)
        refine s_isub hG dX0_tellInRounds_169 ?_
        refine s_iload hG dX0_tellInRounds_170 rfl ?_
        refine s_icmp_eq hG (tgt := 177) dX0_tellInRounds_172 (by decide) ?_ ?_
        · refine s_lv hG [1, 2, 3, 4, 5, 6, 7, 8] rfl ?_
          exact hb177 _ hrec5 _ hrec18 _ _ _ _ _ _ _
        · refine s_iconst hG (v := (0 : Int32)) dX0_tellInRounds_175 (by decide) ?_
          exact s_rzC hR dX0_tellInRounds_176
      · refine s_aload_n hG dX0_tellInRounds_135 rfl ?_
        refine s_iload hG dX0_tellInRounds_136 rfl ?_
        refine s_iload_n hG dX0_tellInRounds_138 rfl ?_
        refine s_aload_n hG dX0_tellInRounds_139 rfl ?_
        refine s_iload hG dX0_tellInRounds_140 rfl ?_
        refine s_iload_n hG dX0_tellInRounds_142 rfl ?_
        refine s_cvP hG (as := [vI x8, vI p2]) (st := [vI p2, vI x7, vR a0]) (rm := rm_X0_numberOf) dX0_tellInRounds_143 ml_RX0_51 (ha0) (tb6 (mem_i 25 rfl)) rfl ⟨rfl, rfl⟩ ⟨by decide, by decide⟩ (Nat.le_of_ble_eq_true rfl) ⟨Nat.zero_le _, Nat.zero_le _⟩ rfl (fun o h => c_X0_numberOf l _ _ _ (ha0) _ o h) (fun o143 => ?_)
        refine s_iload hG dX0_tellInRounds_146 rfl ?_
        refine s_isub hG dX0_tellInRounds_148 ?_
        refine s_cvV hG (as := [vI x7, vI p2, vI (o143 - o90)]) (st := []) (rm := rm_X0_set) dX0_tellInRounds_149 ml_RX0_55 (ha0) (tb6 (mem_i 10 rfl)) rfl ⟨rfl, rfl⟩ ⟨by decide, by decide⟩ (Nat.le_of_ble_eq_true rfl) ⟨Nat.zero_le _, Nat.zero_le _⟩ rfl (fun o h => c_X0_set l _ _ _ _ (ha0) _ o h) (fun o149 => ?_)
        refine s_goto hG (tgt := 177) dX0_tellInRounds_152 (by decide) ?_
        refine s_lv hG [1, 2, 3, 4, 5, 6, 7, 8] rfl ?_
        exact hb177 _ hrec5 _ hrec18 _ _ _ _ _ _ _
    · refine s_aload_n hG dX0_tellInRounds_105 rfl ?_
      refine s_iload hG dX0_tellInRounds_106 rfl ?_
      refine s_iload_n hG dX0_tellInRounds_108 rfl ?_
      refine s_aload_n hG dX0_tellInRounds_109 rfl ?_
      refine s_iload hG dX0_tellInRounds_110 rfl ?_
      refine s_iload_n hG dX0_tellInRounds_112 rfl ?_
      refine s_cvP hG (as := [vI x7, vI p2]) (st := [vI p2, vI x8, vR a0]) (rm := rm_X0_numberOf) dX0_tellInRounds_113 ml_RX0_51 (ha0) (tb6 (mem_i 25 rfl)) rfl ⟨rfl, rfl⟩ ⟨by decide, by decide⟩ (Nat.le_of_ble_eq_true rfl) ⟨Nat.zero_le _, Nat.zero_le _⟩ rfl (fun o h => c_X0_numberOf l _ _ _ (ha0) _ o h) (fun o113 => ?_)
      refine s_iload hG dX0_tellInRounds_116 rfl ?_
      refine s_iadd hG dX0_tellInRounds_118 ?_
      refine s_cvV hG (as := [vI x8, vI p2, vI (o113 + o90)]) (st := []) (rm := rm_X0_set) dX0_tellInRounds_119 ml_RX0_55 (ha0) (tb6 (mem_i 10 rfl)) rfl ⟨rfl, rfl⟩ ⟨by decide, by decide⟩ (Nat.le_of_ble_eq_true rfl) ⟨Nat.zero_le _, Nat.zero_le _⟩ rfl (fun o h => c_X0_set l _ _ _ _ (ha0) _ o h) (fun o119 => ?_)
      refine s_goto hG (tgt := 177) dX0_tellInRounds_122 (by decide) ?_
      refine s_lv hG [1, 2, 3, 4, 5, 6, 7, 8] rfl ?_
      exact hb177 _ hrec5 _ hrec18 _ _ _ _ _ _ _
  have hb18 : ∀ (rec5 : HS × Int32 × Int32 → Option (HS × Int32)) (hrec5 : ∀ (S : HS) (x3 : Int32) (x4 : Int32), rec5 (S, x3, x4) = some out → G 0 0 S [(0, vR a0), (2, vI p2), (3, vI x3), (4, vI x4)] 5 []) (S : HS) (x3 : Int32) (x4 : Int32) (x5 : Int32) (x6 : Int32), f_X0_tellInRounds_b18 a0 p1 p2 rec5 S x3 x4 x5 x6 = some out → G 0 0 S [(0, vR a0), (2, vI p2), (3, vI x3), (4, vI x4), (5, vI x5), (6, vI x6)] 18 [] := by
    intro rec5 hrec5 S x3 x4 x5 x6
    unfold f_X0_tellInRounds_b18
    generalize FU = nf
    revert S x3 x4 x5 x6
    induction nf with
    | zero => intro S x3 x4 x5 x6 h9; cases h9
    | succ nf hrec18 =>
      intro S x3 x4 x5 x6
      show F_X0_tellInRounds_b18 a0 p1 p2 rec5 (fx (F_X0_tellInRounds_b18 a0 p1 p2 rec5) nf) (S, x3, x4, x5, x6) = some out → _
      generalize fx (F_X0_tellInRounds_b18 a0 p1 p2 rec5) nf = rec18 at hrec18
      unfold F_X0_tellInRounds_b18
      dsimp only
      refine s_iload hG dX0_tellInRounds_18 rfl ?_
      refine s_bipush hG (v := (12 : Int32)) dX0_tellInRounds_20 (by decide) ?_
      refine s_icmp_ge hG (tgt := 195) dX0_tellInRounds_22 (by decide) ?_ ?_
      · refine s_iload_n hG dX0_tellInRounds_195 rfl ?_
        refine s_iload hG dX0_tellInRounds_196 rfl ?_
        refine s_icmp_ne hG (tgt := 204) dX0_tellInRounds_198 (by decide) ?_ ?_
        · refine s_iinc hG (v := (x4 + (1 : Int32))) (lv' := [(4, vI (x4 + (1 : Int32))), (0, vR a0), (2, vI p2), (3, vI x3), (5, vI x5), (6, vI x6)]) dX0_tellInRounds_204 rfl rfl (by decide) rfl ?_
          refine s_goto hG (tgt := 5) dX0_tellInRounds_207 (by decide) ?_
          refine s_lv hG [1, 2, 3, 0] rfl ?_
          exact hrec5 _ _ _
        · refine s_goto hG (tgt := 210) dX0_tellInRounds_201 (by decide) ?_
          refine s_lv hG [] rfl ?_
          exact hb210 _
      · refine s_aload_n hG dX0_tellInRounds_25 rfl ?_
        refine s_getC hG dX0_tellInRounds_26 fl_RX0_29 (fk0_1 _ ha0) ?_
        refine s_getC hG dX0_tellInRounds_29 fl_RX0_79 (rfl) ?_
        refine s_iload hG dX0_tellInRounds_32 rfl ?_
        refine s_csP hG (as := [vR 7, vI x6]) (st := []) (rm := rm_X7_read) dX0_tellInRounds_34 ml_RX0_43 (tb5 (mem_i 19 rfl)) rfl ⟨rfl, rfl⟩ ⟨by decide, by decide⟩ (Nat.le_of_ble_eq_true rfl) ⟨Nat.zero_le _, Nat.zero_le _⟩ rfl (fun o h => c_X7_read l _ _ (rfl) _ o h) (fun o34 => ?_)
        refine s_istore hG (lv' := [(7, vI o34), (0, vR a0), (2, vI p2), (3, vI x3), (4, vI x4), (5, vI x5), (6, vI x6)]) dX0_tellInRounds_37 (by decide) rfl ?_
        refine s_aload_n hG dX0_tellInRounds_39 rfl ?_
        refine s_getC hG dX0_tellInRounds_40 fl_RX0_29 (fk0_1 _ ha0) ?_
        refine s_getC hG dX0_tellInRounds_43 fl_RX0_82 (rfl) ?_
        refine s_iload hG dX0_tellInRounds_46 rfl ?_
        refine s_csP hG (as := [vR 8, vI x6]) (st := []) (rm := rm_X7_read) dX0_tellInRounds_48 ml_RX0_43 (tb5 (mem_i 19 rfl)) rfl ⟨rfl, rfl⟩ ⟨by decide, by decide⟩ (Nat.le_of_ble_eq_true rfl) ⟨Nat.zero_le _, Nat.zero_le _⟩ rfl (fun o h => c_X7_read l _ _ (rfl) _ o h) (fun o48 => ?_)
        refine s_istore hG (lv' := [(8, vI o48), (7, vI o34), (0, vR a0), (2, vI p2), (3, vI x3), (4, vI x4), (5, vI x5), (6, vI x6)]) dX0_tellInRounds_51 (by decide) rfl ?_
        refine s_aload_n hG dX0_tellInRounds_53 rfl ?_
        refine s_iload hG dX0_tellInRounds_54 rfl ?_
        refine s_iload_n hG dX0_tellInRounds_56 rfl ?_
        refine s_cvP hG (as := [vI x6, vI p2]) (st := []) (rm := rm_X0_isLink) dX0_tellInRounds_57 ml_RX0_92 (ha0) (tb6 (mem_i 20 rfl)) rfl ⟨rfl, rfl⟩ ⟨by decide, by decide⟩ (Nat.le_of_ble_eq_true rfl) ⟨Nat.zero_le _, Nat.zero_le _⟩ rfl (fun o h => c_X0_isLink l _ _ _ (ha0) _ o h) (fun o57 => ?_)
        refine s_if_eq hG (tgt := 189) dX0_tellInRounds_60 (by decide) ?_ ?_
        · refine s_lv hG [2, 3, 4, 5, 6, 7] rfl ?_
          exact hb189 _ hrec5 _ hrec18 _ _ _ _ _
        · refine s_iload_n hG dX0_tellInRounds_63 rfl ?_
          refine s_i2l hG dX0_tellInRounds_64 ?_
          refine s_iload hG dX0_tellInRounds_65 rfl ?_
          refine s_csP hG (as := [vL x3.toInt64, vI o34]) (st := []) (rm := rm_X7_has) dX0_tellInRounds_67 ml_RX0_59 (tb6 (mem_i 14 rfl)) rfl ⟨rfl, rfl⟩ ⟨by decide, by decide⟩ (Nat.le_of_ble_eq_true rfl) ⟨Nat.zero_le _, Nat.zero_le _⟩ rfl (fun o h => c_X7_has l _ _ _ o h) (fun o67 => ?_)
          refine s_if_ne hG (tgt := 86) dX0_tellInRounds_70 (by decide) ?_ ?_
          · refine s_lv hG [2, 3, 4, 5, 6, 7, 1, 0] rfl ?_
            exact hb86 _ hrec5 _ hrec18 _ _ _ _ _ _ _
          · refine s_iload_n hG dX0_tellInRounds_73 rfl ?_
            refine s_i2l hG dX0_tellInRounds_74 ?_
            refine s_iload hG dX0_tellInRounds_75 rfl ?_
            refine s_csP hG (as := [vL x3.toInt64, vI o48]) (st := []) (rm := rm_X7_has) dX0_tellInRounds_77 ml_RX0_59 (tb6 (mem_i 14 rfl)) rfl ⟨rfl, rfl⟩ ⟨by decide, by decide⟩ (Nat.le_of_ble_eq_true rfl) ⟨Nat.zero_le _, Nat.zero_le _⟩ rfl (fun o h => c_X7_has l _ _ _ o h) (fun o77 => ?_)
            refine s_if_ne hG (tgt := 86) dX0_tellInRounds_80 (by decide) ?_ ?_
            · refine s_lv hG [2, 3, 4, 5, 6, 7, 1, 0] rfl ?_
              exact hb86 _ hrec5 _ hrec18 _ _ _ _ _ _ _
            · refine s_goto hG (tgt := 189) dX0_tellInRounds_83 (by decide) ?_
              refine s_lv hG [2, 3, 4, 5, 6, 7] rfl ?_
              exact hb189 _ hrec5 _ hrec18 _ _ _ _ _
  have hb5 : ∀ (S : HS) (x3 : Int32) (x4 : Int32), f_X0_tellInRounds_b5 a0 p1 p2 S x3 x4 = some out → G 0 0 S [(0, vR a0), (2, vI p2), (3, vI x3), (4, vI x4)] 5 [] := by
    intro  S x3 x4
    unfold f_X0_tellInRounds_b5
    generalize FU = nf
    revert S x3 x4
    induction nf with
    | zero => intro S x3 x4 h9; cases h9
    | succ nf hrec5 =>
      intro S x3 x4
      show F_X0_tellInRounds_b5 a0 p1 p2 (fx (F_X0_tellInRounds_b5 a0 p1 p2) nf) (S, x3, x4) = some out → _
      generalize fx (F_X0_tellInRounds_b5 a0 p1 p2) nf = rec5 at hrec5
      unfold F_X0_tellInRounds_b5
      dsimp only
      refine s_iload hG dX0_tellInRounds_5 rfl ?_
      refine s_bipush hG (v := (10 : Int32)) dX0_tellInRounds_7 (by decide) ?_
      refine s_icmp_ge hG (tgt := 210) dX0_tellInRounds_9 (by decide) ?_ ?_
      · refine s_lv hG [] rfl ?_
        exact hb210 _
      · refine s_iload_n hG dX0_tellInRounds_12 rfl ?_
        refine s_istore hG (lv' := [(5, vI x3), (0, vR a0), (2, vI p2), (3, vI x3), (4, vI x4)]) dX0_tellInRounds_13 (by decide) rfl ?_
        refine s_iconst hG (v := (0 : Int32)) dX0_tellInRounds_15 (by decide) ?_
        refine s_istore hG (lv' := [(6, vI (0 : Int32)), (5, vI x3), (0, vR a0), (2, vI p2), (3, vI x3), (4, vI x4)]) dX0_tellInRounds_16 (by decide) rfl ?_
        refine s_lv hG [2, 3, 4, 5, 1, 0] rfl ?_
        exact hb18 _ hrec5 _ _ _ _ _
  unfold f_X0_tellInRounds
  refine s_iload_n hG dX0_tellInRounds_0 rfl ?_
  refine s_istore_n hG (lv' := [(3, vI p1), (0, vR a0), (1, vI p1), (2, vI p2)]) dX0_tellInRounds_1 (by decide) rfl ?_
  refine s_iconst hG (v := (0 : Int32)) dX0_tellInRounds_2 (by decide) ?_
  refine s_istore hG (lv' := [(4, vI (0 : Int32)), (3, vI p1), (0, vR a0), (1, vI p1), (2, vI p2)]) dX0_tellInRounds_3 (by decide) rfl ?_
  refine s_lv hG [2, 4, 1, 0] rfl ?_
  exact hb5 _ _ _

def f_X0_shiftGroup_b76 (a0 : Nat) (p1 : Int32) (p2 : Int32) (p3 : Int32)  (S : HS)  : Option (HS × Int32) :=
if nz (0 : Int32) = true then some (S, (0 : Int32)) else none
def f_X0_shiftGroup_b87 (a0 : Nat) (p1 : Int32) (p2 : Int32) (p3 : Int32) (rec3 : HS × Int32 → Option (HS × Int32)) (S : HS) (x4 : Int32) : Option (HS × Int32) :=
rec3 (S, (x4 + (1 : Int32)))
def f_X0_shiftGroup_b78 (a0 : Nat) (p1 : Int32) (p2 : Int32) (p3 : Int32) (rec3 : HS × Int32 → Option (HS × Int32)) (S : HS) (x4 : Int32) (x5 : Int32) : Option (HS × Int32) :=
(f_X0_set a0 x4 p2 x5 S).bind (fun o84 =>
f_X0_shiftGroup_b87 a0 p1 p2 p3 rec3 o84 x4)
def f_X0_shiftGroup_b56 (a0 : Nat) (p1 : Int32) (p2 : Int32) (p3 : Int32) (rec3 : HS × Int32 → Option (HS × Int32)) (S : HS) (x4 : Int32) (x5 : Int32) (t0 : Int32) : Option (HS × Int32) :=
(f_X7_isInRange x5 p2 S).bind (fun o61 =>
if o61 = 0 then
f_X0_shiftGroup_b76 a0 p1 p2 p3  S
else
if t0 = 0 then
f_X0_shiftGroup_b78 a0 p1 p2 p3 rec3 S x4 x5
else
if p3 = 0 then
f_X0_shiftGroup_b78 a0 p1 p2 p3 rec3 S x4 x5
else
f_X0_shiftGroup_b76 a0 p1 p2 p3  S)
def f_X0_shiftGroup_b55 (a0 : Nat) (p1 : Int32) (p2 : Int32) (p3 : Int32) (rec3 : HS × Int32 → Option (HS × Int32)) (S : HS) (x4 : Int32) (x5 : Int32) : Option (HS × Int32) :=
f_X0_shiftGroup_b56 a0 p1 p2 p3 rec3 S x4 x5 (0 : Int32)
def F_X0_shiftGroup_b3 (a0 : Nat) (p1 : Int32) (p2 : Int32) (p3 : Int32)  (rec3 : HS × Int32 → Option (HS × Int32)) : HS × Int32 → Option (HS × Int32) := fun q => match q with
  | (S, x4) =>
    if (10 : Int32) ≤ x4 then
    if nz (1 : Int32) = true then some (S, (1 : Int32)) else none
    else
    (f_X7_has p1.toInt64 x4 S).bind (fun o14 =>
    if o14 = 0 then
    f_X0_shiftGroup_b87 a0 p1 p2 p3 rec3 S x4
    else
    (f_X0_numberOf a0 x4 p2 S).bind (fun o27 =>
    if p2 < (2 : Int32) then
    f_X0_shiftGroup_b55 a0 p1 p2 p3 rec3 S x4 (o27 + p3)
    else
    (f_X5_lettersOf x4 S).bind (fun o45 =>
    if o45 ≤ 0 then
    f_X0_shiftGroup_b55 a0 p1 p2 p3 rec3 S x4 (o27 + p3)
    else
    f_X0_shiftGroup_b56 a0 p1 p2 p3 rec3 S x4 (o27 + p3) (1 : Int32))))
def f_X0_shiftGroup_b3 (a0 : Nat) (p1 : Int32) (p2 : Int32) (p3 : Int32)  (S : HS) (x4 : Int32) : Option (HS × Int32) := fx (F_X0_shiftGroup_b3 a0 p1 p2 p3) FU (S, x4)
def f_X0_shiftGroup (a0 : Nat) (p1 : Int32) (p2 : Int32) (p3 : Int32) (S : HS) : Option (HS × Int32) :=
f_X0_shiftGroup_b3 a0 p1 p2 p3  S (0 : Int32)
def rm_X0_shiftGroup : Room := { frames := 2, cells := 0, slots := 0, locals := 45 }
set_option maxRecDepth 100000 in
set_option maxHeartbeats 4000000 in
theorem c_X0_shiftGroup (l : Launch) (a0 : Nat) (p1 : Int32) (p2 : Int32) (p3 : Int32) (ha0 : oc a0 = some 0) (S : HS) (out : HS × Int32) (h : f_X0_shiftGroup a0 p1 p2 p3 S = some out) : Ct l yX0_shiftGroup cX0_shiftGroup 7 (some .boolean) rm_X0_shiftGroup [vR a0, vI p1, vI p2, vI p3] S (some (vI out.2)) out.1 := by
  refine Ct.intro (own := RX0) (lv := [(0, vR a0), (1, vI p1), (2, vI p2), (3, vI p3)]) (by decide +kernel) rfl ⟨rfl, rfl⟩ rfl (Nat.le_of_ble_eq_true rfl) ?_
  intro G hG hR
  revert h
  have hb76 : ∀ (S : HS), f_X0_shiftGroup_b76 a0 p1 p2 p3 S  = some out → G 0 0 S [] 76 [] := by
    intro S
    unfold f_X0_shiftGroup_b76
    refine s_iconst hG (v := (0 : Int32)) dX0_shiftGroup_76 (by decide) ?_
    exact s_rzC hR dX0_shiftGroup_77
  have hb87 : ∀ (rec3 : HS × Int32 → Option (HS × Int32)) (hrec3 : ∀ (S : HS) (x4 : Int32), rec3 (S, x4) = some out → G 0 0 S [(0, vR a0), (1, vI p1), (2, vI p2), (3, vI p3), (4, vI x4)] 3 []) (S : HS) (x4 : Int32), f_X0_shiftGroup_b87 a0 p1 p2 p3 rec3 S x4 = some out → G 0 0 S [(0, vR a0), (1, vI p1), (2, vI p2), (3, vI p3), (4, vI x4)] 87 [] := by
    intro rec3 hrec3 S x4
    unfold f_X0_shiftGroup_b87
    refine s_iinc hG (v := (x4 + (1 : Int32))) (lv' := [(4, vI (x4 + (1 : Int32))), (0, vR a0), (1, vI p1), (2, vI p2), (3, vI p3)]) dX0_shiftGroup_87 rfl rfl (by decide) rfl ?_
    refine s_goto hG (tgt := 3) dX0_shiftGroup_90 (by decide) ?_
    refine s_lv hG [1, 2, 3, 4, 0] rfl ?_
    exact hrec3 _ _
  have hb78 : ∀ (rec3 : HS × Int32 → Option (HS × Int32)) (hrec3 : ∀ (S : HS) (x4 : Int32), rec3 (S, x4) = some out → G 0 0 S [(0, vR a0), (1, vI p1), (2, vI p2), (3, vI p3), (4, vI x4)] 3 []) (S : HS) (x4 : Int32) (x5 : Int32), f_X0_shiftGroup_b78 a0 p1 p2 p3 rec3 S x4 x5 = some out → G 0 0 S [(0, vR a0), (1, vI p1), (2, vI p2), (3, vI p3), (4, vI x4), (5, vI x5)] 78 [] := by
    intro rec3 hrec3 S x4 x5
    unfold f_X0_shiftGroup_b78
    refine s_aload_n hG dX0_shiftGroup_78 rfl ?_
    refine s_iload hG dX0_shiftGroup_79 rfl ?_
    refine s_iload_n hG dX0_shiftGroup_81 rfl ?_
    refine s_iload hG dX0_shiftGroup_82 rfl ?_
    refine s_cvV hG (as := [vI x4, vI p2, vI x5]) (st := []) (rm := rm_X0_set) dX0_shiftGroup_84 ml_RX0_55 (ha0) (tb6 (mem_i 10 rfl)) rfl ⟨rfl, rfl⟩ ⟨by decide, by decide⟩ (Nat.le_of_ble_eq_true rfl) ⟨Nat.zero_le _, Nat.zero_le _⟩ rfl (fun o h => c_X0_set l _ _ _ _ (ha0) _ o h) (fun o84 => ?_)
    refine s_lv hG [0, 1, 2, 3, 4] rfl ?_
    exact hb87 _ hrec3 _ _
  have hb56 : ∀ (rec3 : HS × Int32 → Option (HS × Int32)) (hrec3 : ∀ (S : HS) (x4 : Int32), rec3 (S, x4) = some out → G 0 0 S [(0, vR a0), (1, vI p1), (2, vI p2), (3, vI p3), (4, vI x4)] 3 []) (S : HS) (x4 : Int32) (x5 : Int32) (t0 : Int32), f_X0_shiftGroup_b56 a0 p1 p2 p3 rec3 S x4 x5 t0 = some out → G 0 0 S [(0, vR a0), (1, vI p1), (2, vI p2), (3, vI p3), (4, vI x4), (5, vI x5)] 56 [vI t0] := by
    intro rec3 hrec3 S x4 x5 t0
    unfold f_X0_shiftGroup_b56
    refine s_istore hG (lv' := [(6, vI t0), (0, vR a0), (1, vI p1), (2, vI p2), (3, vI p3), (4, vI x4), (5, vI x5)]) dX0_shiftGroup_56 (by decide) rfl ?_
    refine s_iload hG dX0_shiftGroup_58 rfl ?_
    refine s_iload_n hG dX0_shiftGroup_60 rfl ?_
    refine s_csP hG (as := [vI x5, vI p2]) (st := []) (rm := rm_X7_isInRange) dX0_shiftGroup_61 ml_RX0_101 (tb5 (mem_i 8 rfl)) rfl ⟨rfl, rfl⟩ ⟨by decide, by decide⟩ (Nat.le_of_ble_eq_true rfl) ⟨Nat.zero_le _, Nat.zero_le _⟩ rfl (fun o h => c_X7_isInRange l _ _ _ o h) (fun o61 => ?_)
    refine s_if_eq hG (tgt := 76) dX0_shiftGroup_64 (by decide) ?_ ?_
    · refine s_lv hG [] rfl ?_
      exact hb76 _
    · refine s_iload hG dX0_shiftGroup_67 rfl ?_
      refine s_if_eq hG (tgt := 78) dX0_shiftGroup_69 (by decide) ?_ ?_
      · refine s_lv hG [1, 2, 3, 4, 5, 6] rfl ?_
        exact hb78 _ hrec3 _ _ _
      · refine s_iload_n hG dX0_shiftGroup_72 rfl ?_
        refine s_if_eq hG (tgt := 78) dX0_shiftGroup_73 (by decide) ?_ ?_
        · refine s_lv hG [1, 2, 3, 4, 5, 6] rfl ?_
          exact hb78 _ hrec3 _ _ _
        · refine s_lv hG [] rfl ?_
          exact hb76 _
  have hb55 : ∀ (rec3 : HS × Int32 → Option (HS × Int32)) (hrec3 : ∀ (S : HS) (x4 : Int32), rec3 (S, x4) = some out → G 0 0 S [(0, vR a0), (1, vI p1), (2, vI p2), (3, vI p3), (4, vI x4)] 3 []) (S : HS) (x4 : Int32) (x5 : Int32), f_X0_shiftGroup_b55 a0 p1 p2 p3 rec3 S x4 x5 = some out → G 0 0 S [(0, vR a0), (1, vI p1), (2, vI p2), (3, vI p3), (4, vI x4), (5, vI x5)] 55 [] := by
    intro rec3 hrec3 S x4 x5
    unfold f_X0_shiftGroup_b55
    refine s_iconst hG (v := (0 : Int32)) dX0_shiftGroup_55 (by decide) ?_
    exact hb56 _ hrec3 _ _ _ _
  have hb3 : ∀ (S : HS) (x4 : Int32), f_X0_shiftGroup_b3 a0 p1 p2 p3 S x4 = some out → G 0 0 S [(0, vR a0), (1, vI p1), (2, vI p2), (3, vI p3), (4, vI x4)] 3 [] := by
    intro  S x4
    unfold f_X0_shiftGroup_b3
    generalize FU = nf
    revert S x4
    induction nf with
    | zero => intro S x4 h9; cases h9
    | succ nf hrec3 =>
      intro S x4
      show F_X0_shiftGroup_b3 a0 p1 p2 p3 (fx (F_X0_shiftGroup_b3 a0 p1 p2 p3) nf) (S, x4) = some out → _
      generalize fx (F_X0_shiftGroup_b3 a0 p1 p2 p3) nf = rec3 at hrec3
      unfold F_X0_shiftGroup_b3
      dsimp only
      refine s_iload hG dX0_shiftGroup_3 rfl ?_
      refine s_bipush hG (v := (10 : Int32)) dX0_shiftGroup_5 (by decide) ?_
      refine s_icmp_ge hG (tgt := 93) dX0_shiftGroup_7 (by decide) ?_ ?_
      · refine s_iconst hG (v := (1 : Int32)) dX0_shiftGroup_93 (by decide) ?_
        exact s_rzC hR dX0_shiftGroup_94
      · refine s_iload_n hG dX0_shiftGroup_10 rfl ?_
        refine s_i2l hG dX0_shiftGroup_11 ?_
        refine s_iload hG dX0_shiftGroup_12 rfl ?_
        refine s_csP hG (as := [vL p1.toInt64, vI x4]) (st := []) (rm := rm_X7_has) dX0_shiftGroup_14 ml_RX0_59 (tb6 (mem_i 14 rfl)) rfl ⟨rfl, rfl⟩ ⟨by decide, by decide⟩ (Nat.le_of_ble_eq_true rfl) ⟨Nat.zero_le _, Nat.zero_le _⟩ rfl (fun o h => c_X7_has l _ _ _ o h) (fun o14 => ?_)
        refine s_if_ne hG (tgt := 23) dX0_shiftGroup_17 (by decide) ?_ ?_
        · refine s_aload_n hG dX0_shiftGroup_23 rfl ?_
          refine s_iload hG dX0_shiftGroup_24 rfl ?_
          refine s_iload_n hG dX0_shiftGroup_26 rfl ?_
          refine s_cvP hG (as := [vI x4, vI p2]) (st := []) (rm := rm_X0_numberOf) dX0_shiftGroup_27 ml_RX0_51 (ha0) (tb6 (mem_i 25 rfl)) rfl ⟨rfl, rfl⟩ ⟨by decide, by decide⟩ (Nat.le_of_ble_eq_true rfl) ⟨Nat.zero_le _, Nat.zero_le _⟩ rfl (fun o h => c_X0_numberOf l _ _ _ (ha0) _ o h) (fun o27 => ?_)
          refine s_iload_n hG dX0_shiftGroup_30 rfl ?_
          refine s_iadd hG dX0_shiftGroup_31 ?_
          refine s_istore hG (lv' := [(5, vI (o27 + p3)), (0, vR a0), (1, vI p1), (2, vI p2), (3, vI p3), (4, vI x4)]) dX0_shiftGroup_32 (by decide) rfl ?_
          refine s_iload_n hG dX0_shiftGroup_34 rfl ?_
          refine s_iconst hG (v := (2 : Int32)) dX0_shiftGroup_35 (by decide) ?_
          refine s_icmp_lt hG (tgt := 55) dX0_shiftGroup_36 (by decide) ?_ ?_
          · refine s_lv hG [1, 2, 3, 4, 5, 0] rfl ?_
            exact hb55 _ hrec3 _ _ _
          · refine s_aload_n hG dX0_shiftGroup_39 rfl ?_
            refine s_getC hG dX0_shiftGroup_40 fl_RX0_25 (fk0_0 _ ha0) ?_
            refine s_iload hG dX0_shiftGroup_43 rfl ?_
            refine s_cvP hG (as := [vI x4]) (st := []) (rm := rm_X5_lettersOf) dX0_shiftGroup_45 ml_RX0_95 (rfl) (tb7 (mem_i 0 rfl)) rfl ⟨rfl, rfl⟩ ⟨by decide, by decide⟩ (Nat.le_of_ble_eq_true rfl) ⟨Nat.zero_le _, Nat.zero_le _⟩ rfl (fun o h => c_X5_lettersOf l _ _ o h) (fun o45 => ?_)
            refine s_if_le hG (tgt := 55) dX0_shiftGroup_48 (by decide) ?_ ?_
            · refine s_lv hG [1, 2, 3, 4, 5, 0] rfl ?_
              exact hb55 _ hrec3 _ _ _
            · refine s_iconst hG (v := (1 : Int32)) dX0_shiftGroup_51 (by decide) ?_
              refine s_goto hG (tgt := 56) dX0_shiftGroup_52 (by decide) ?_
              refine s_lv hG [1, 2, 3, 4, 5, 0] rfl ?_
              exact hb56 _ hrec3 _ _ _ _
        · refine s_goto hG (tgt := 87) dX0_shiftGroup_20 (by decide) ?_
          exact hb87 _ hrec3 _ _
  unfold f_X0_shiftGroup
  refine s_iconst hG (v := (0 : Int32)) dX0_shiftGroup_0 (by decide) ?_
  refine s_istore hG (lv' := [(4, vI (0 : Int32)), (0, vR a0), (1, vI p1), (2, vI p2), (3, vI p3)]) dX0_shiftGroup_1 (by decide) rfl ?_
  refine s_lv hG [1, 2, 3, 4, 0] rfl ?_
  exact hb3 _ _

def f_X0_growClass_b148 (a0 : Nat) (p1 : Int32) (p2 : Int32) (p3 : Int32) (p4 : Int32)  (S : HS) (t0 : Int32) : Option (HS × Int32) :=
if nz t0 = true then some (S, t0) else none
def f_X0_growClass_b147 (a0 : Nat) (p1 : Int32) (p2 : Int32) (p3 : Int32) (p4 : Int32)  (S : HS)  : Option (HS × Int32) :=
f_X0_growClass_b148 a0 p1 p2 p3 p4  S (0 : Int32)
def f_X0_growClass_b128 (a0 : Nat) (p1 : Int32) (p2 : Int32) (p3 : Int32) (p4 : Int32)  (S : HS) (t0 : Int32) : Option (HS × Int32) :=
if t0 = 0 then
f_X0_growClass_b147 a0 p1 p2 p3 p4  S
else
(f_X0_areInRange a0 p2 S).bind (fun o137 =>
if o137 = 0 then
f_X0_growClass_b147 a0 p1 p2 p3 p4  S
else
f_X0_growClass_b148 a0 p1 p2 p3 p4  S (1 : Int32))
def f_X0_growClass_b98 (a0 : Nat) (p1 : Int32) (p2 : Int32) (p3 : Int32) (p4 : Int32) (rec29 : HS × Int32 × Int32 × Int32 → Option (HS × Int32)) (S : HS) (x5 : Int32) (x6 : Int32) (x7 : Int32) : Option (HS × Int32) :=
rec29 (S, x5, x6, (x7 + (1 : Int32)))
def f_X0_growClass_b86 (a0 : Nat) (p1 : Int32) (p2 : Int32) (p3 : Int32) (p4 : Int32) (rec29 : HS × Int32 × Int32 × Int32 → Option (HS × Int32)) (S : HS) (x6 : Int32) (x7 : Int32) (x8 : Int32) (t0 : Int32) (t1 : Int32) : Option (HS × Int32) :=
f_X0_growClass_b98 a0 p1 p2 p3 p4 rec29 S (t0 ||| t1) (x6 &&& (x8 ^^^ (-1 : Int32))) x7
def F_X0_growClass_b29 (a0 : Nat) (p1 : Int32) (p2 : Int32) (p3 : Int32) (p4 : Int32)  (rec29 : HS × Int32 × Int32 × Int32 → Option (HS × Int32)) : HS × Int32 × Int32 × Int32 → Option (HS × Int32) := fun q => match q with
  | (S, x5, x6, x7) =>
    if (10 : Int32) ≤ x7 then
    if (S.1 a0 2) = 0 then
    (f_X0_tellByWalk a0 x5 p2 S).bind (fun o125 =>
    f_X0_growClass_b128 a0 p1 p2 p3 p4  o125.1 o125.2)
    else
    (f_X0_tellInRounds a0 x5 p2 S).bind (fun o115 =>
    f_X0_growClass_b128 a0 p1 p2 p3 p4  o115.1 o115.2)
    else
    (f_X7_has x6.toInt64 x7 S).bind (fun o41 =>
    if o41 = 0 then
    f_X0_growClass_b98 a0 p1 p2 p3 p4 rec29 S x5 x6 x7
    else
    (f_X0_groupOf a0 x7 p2 S).bind (fun o51 =>
    (f_X7_has o51.toInt64 p4 S).bind (fun o71 =>
    if o71 = 0 then
    f_X0_growClass_b86 a0 p1 p2 p3 p4 rec29 S x6 x7 o51 x5 (o51 &&& (-o51))
    else
    f_X0_growClass_b86 a0 p1 p2 p3 p4 rec29 S x6 x7 o51 x5 ((1 : Int32) <<< (p4 &&& 31)))))
def f_X0_growClass_b29 (a0 : Nat) (p1 : Int32) (p2 : Int32) (p3 : Int32) (p4 : Int32)  (S : HS) (x5 : Int32) (x6 : Int32) (x7 : Int32) : Option (HS × Int32) := fx (F_X0_growClass_b29 a0 p1 p2 p3 p4) FU (S, x5, x6, x7)
def f_X0_growClass (a0 : Nat) (p1 : Int32) (p2 : Int32) (p3 : Int32) (p4 : Int32) (S : HS) : Option (HS × Int32) :=
(f_X0_shiftGroup a0 p1 (p2 + (2 : Int32)) p3 S).bind (fun o6 =>
if o6.2 = 0 then
if nz (0 : Int32) = true then some (o6.1, (0 : Int32)) else none
else
if p3 = 0 then
if nz (1 : Int32) = true then some (o6.1, (1 : Int32)) else none
else
f_X0_growClass_b29 a0 p1 p2 p3 p4  o6.1 (0 : Int32) p1 (0 : Int32))
def rm_X0_growClass : Room := { frames := 3, cells := 0, slots := 0, locals := 77 }
set_option maxRecDepth 100000 in
set_option maxHeartbeats 4000000 in
theorem c_X0_growClass (l : Launch) (a0 : Nat) (p1 : Int32) (p2 : Int32) (p3 : Int32) (p4 : Int32) (ha0 : oc a0 = some 0) (S : HS) (out : HS × Int32) (h : f_X0_growClass a0 p1 p2 p3 p4 S = some out) : Ct l yX0_growClass cX0_growClass 10 (some .boolean) rm_X0_growClass [vR a0, vI p1, vI p2, vI p3, vI p4] S (some (vI out.2)) out.1 := by
  refine Ct.intro (own := RX0) (lv := [(0, vR a0), (1, vI p1), (2, vI p2), (3, vI p3), (4, vI p4)]) (by decide +kernel) rfl ⟨rfl, rfl⟩ rfl (Nat.le_of_ble_eq_true rfl) ?_
  intro G hG hR
  revert h
  have hb148 : ∀ (S : HS) (t0 : Int32), f_X0_growClass_b148 a0 p1 p2 p3 p4 S t0 = some out → G 0 0 S [] 148 [vI t0] := by
    intro S t0
    unfold f_X0_growClass_b148
    exact s_rzC hR dX0_growClass_148
  have hb147 : ∀ (S : HS), f_X0_growClass_b147 a0 p1 p2 p3 p4 S  = some out → G 0 0 S [] 147 [] := by
    intro S
    unfold f_X0_growClass_b147
    refine s_iconst hG (v := (0 : Int32)) dX0_growClass_147 (by decide) ?_
    exact hb148 _ _
  have hb128 : ∀ (S : HS) (t0 : Int32), f_X0_growClass_b128 a0 p1 p2 p3 p4 S t0 = some out → G 0 0 S [(0, vR a0), (2, vI p2)] 128 [vI t0] := by
    intro S t0
    unfold f_X0_growClass_b128
    refine s_istore hG (lv' := [(7, vI t0), (0, vR a0), (2, vI p2)]) dX0_growClass_128 (by decide) rfl ?_
    refine s_iload hG dX0_growClass_130 rfl ?_
    refine s_if_eq hG (tgt := 147) dX0_growClass_132 (by decide) ?_ ?_
    · refine s_lv hG [] rfl ?_
      exact hb147 _
    · refine s_aload_n hG dX0_growClass_135 rfl ?_
      refine s_iload_n hG dX0_growClass_136 rfl ?_
      refine s_cvP hG (as := [vI p2]) (st := []) (rm := rm_X0_areInRange) dX0_growClass_137 ml_RX0_110 (ha0) (tb7 (mem_i 21 rfl)) rfl ⟨rfl, rfl⟩ ⟨by decide, by decide⟩ (Nat.le_of_ble_eq_true rfl) ⟨Nat.zero_le _, Nat.zero_le _⟩ rfl (fun o h => c_X0_areInRange l _ _ (ha0) _ o h) (fun o137 => ?_)
      refine s_if_eq hG (tgt := 147) dX0_growClass_140 (by decide) ?_ ?_
      · refine s_lv hG [] rfl ?_
        exact hb147 _
      · refine s_iconst hG (v := (1 : Int32)) dX0_growClass_143 (by decide) ?_
        refine s_goto hG (tgt := 148) dX0_growClass_144 (by decide) ?_
        refine s_lv hG [] rfl ?_
        exact hb148 _ _
  have hb98 : ∀ (rec29 : HS × Int32 × Int32 × Int32 → Option (HS × Int32)) (hrec29 : ∀ (S : HS) (x5 : Int32) (x6 : Int32) (x7 : Int32), rec29 (S, x5, x6, x7) = some out → G 0 0 S [(0, vR a0), (2, vI p2), (4, vI p4), (5, vI x5), (6, vI x6), (7, vI x7)] 29 []) (S : HS) (x5 : Int32) (x6 : Int32) (x7 : Int32), f_X0_growClass_b98 a0 p1 p2 p3 p4 rec29 S x5 x6 x7 = some out → G 0 0 S [(0, vR a0), (2, vI p2), (4, vI p4), (5, vI x5), (6, vI x6), (7, vI x7)] 98 [] := by
    intro rec29 hrec29 S x5 x6 x7
    unfold f_X0_growClass_b98
    refine s_iinc hG (v := (x7 + (1 : Int32))) (lv' := [(7, vI (x7 + (1 : Int32))), (0, vR a0), (2, vI p2), (4, vI p4), (5, vI x5), (6, vI x6)]) dX0_growClass_98 rfl rfl (by decide) rfl ?_
    refine s_goto hG (tgt := 29) dX0_growClass_101 (by decide) ?_
    refine s_lv hG [1, 2, 3, 4, 5, 0] rfl ?_
    exact hrec29 _ _ _ _
  have hb86 : ∀ (rec29 : HS × Int32 × Int32 × Int32 → Option (HS × Int32)) (hrec29 : ∀ (S : HS) (x5 : Int32) (x6 : Int32) (x7 : Int32), rec29 (S, x5, x6, x7) = some out → G 0 0 S [(0, vR a0), (2, vI p2), (4, vI p4), (5, vI x5), (6, vI x6), (7, vI x7)] 29 []) (S : HS) (x6 : Int32) (x7 : Int32) (x8 : Int32) (t0 : Int32) (t1 : Int32), f_X0_growClass_b86 a0 p1 p2 p3 p4 rec29 S x6 x7 x8 t0 t1 = some out → G 0 0 S [(0, vR a0), (2, vI p2), (4, vI p4), (6, vI x6), (7, vI x7), (8, vI x8)] 86 [vI t1, vI t0] := by
    intro rec29 hrec29 S x6 x7 x8 t0 t1
    unfold f_X0_growClass_b86
    refine s_ior hG dX0_growClass_86 ?_
    refine s_istore hG (lv' := [(5, vI (t0 ||| t1)), (0, vR a0), (2, vI p2), (4, vI p4), (6, vI x6), (7, vI x7), (8, vI x8)]) dX0_growClass_87 (by decide) rfl ?_
    refine s_iload hG dX0_growClass_89 rfl ?_
    refine s_iload hG dX0_growClass_91 rfl ?_
    refine s_iconst hG (v := (-1 : Int32)) dX0_growClass_93 (by decide) ?_
    refine s_ixor hG dX0_growClass_94 ?_
    refine s_iand hG dX0_growClass_95 ?_
    refine s_istore hG (lv' := [(6, vI (x6 &&& (x8 ^^^ (-1 : Int32)))), (5, vI (t0 ||| t1)), (0, vR a0), (2, vI p2), (4, vI p4), (7, vI x7), (8, vI x8)]) dX0_growClass_96 (by decide) rfl ?_
    refine s_lv hG [2, 3, 4, 1, 0, 5] rfl ?_
    exact hb98 _ hrec29 _ _ _ _
  have hb29 : ∀ (S : HS) (x5 : Int32) (x6 : Int32) (x7 : Int32), f_X0_growClass_b29 a0 p1 p2 p3 p4 S x5 x6 x7 = some out → G 0 0 S [(0, vR a0), (2, vI p2), (4, vI p4), (5, vI x5), (6, vI x6), (7, vI x7)] 29 [] := by
    intro  S x5 x6 x7
    unfold f_X0_growClass_b29
    generalize FU = nf
    revert S x5 x6 x7
    induction nf with
    | zero => intro S x5 x6 x7 h9; cases h9
    | succ nf hrec29 =>
      intro S x5 x6 x7
      show F_X0_growClass_b29 a0 p1 p2 p3 p4 (fx (F_X0_growClass_b29 a0 p1 p2 p3 p4) nf) (S, x5, x6, x7) = some out → _
      generalize fx (F_X0_growClass_b29 a0 p1 p2 p3 p4) nf = rec29 at hrec29
      unfold F_X0_growClass_b29
      dsimp only
      refine s_iload hG dX0_growClass_29 rfl ?_
      refine s_bipush hG (v := (10 : Int32)) dX0_growClass_31 (by decide) ?_
      refine s_icmp_ge hG (tgt := 104) dX0_growClass_33 (by decide) ?_ ?_
      · refine s_aload_n hG dX0_growClass_104 rfl ?_
        refine s_getI hG dX0_growClass_105 fl_RX0_33 (fk0_2 _ ha0) ?_
        refine s_if_eq hG (tgt := 121) dX0_growClass_108 (by decide) ?_ ?_
        · refine s_aload_n hG dX0_growClass_121 rfl ?_
          refine s_iload hG dX0_growClass_122 rfl ?_
          refine s_iload_n hG dX0_growClass_124 rfl ?_
          refine s_cvI hG (as := [vI x5, vI p2]) (st := []) (rm := rm_X0_tellByWalk) dX0_growClass_125 ml_RX0_107 (ha0) (tb7 (mem_i 14 rfl)) rfl ⟨rfl, rfl⟩ ⟨by decide, by decide⟩ (Nat.le_of_ble_eq_true rfl) ⟨Nat.zero_le _, Nat.zero_le _⟩ rfl (fun o h => c_X0_tellByWalk l _ _ _ (ha0) _ o h) (fun o125 => ?_)
          refine s_lv hG [0, 1] rfl ?_
          exact hb128 _ _
        · refine s_aload_n hG dX0_growClass_111 rfl ?_
          refine s_iload hG dX0_growClass_112 rfl ?_
          refine s_iload_n hG dX0_growClass_114 rfl ?_
          refine s_cvI hG (as := [vI x5, vI p2]) (st := []) (rm := rm_X0_tellInRounds) dX0_growClass_115 ml_RX0_104 (ha0) (tb7 (mem_i 8 rfl)) rfl ⟨rfl, rfl⟩ ⟨by decide, by decide⟩ (Nat.le_of_ble_eq_true rfl) ⟨Nat.zero_le _, Nat.zero_le _⟩ rfl (fun o h => c_X0_tellInRounds l _ _ _ (ha0) _ o h) (fun o115 => ?_)
          refine s_goto hG (tgt := 128) dX0_growClass_118 (by decide) ?_
          refine s_lv hG [0, 1] rfl ?_
          exact hb128 _ _
      · refine s_iload hG dX0_growClass_36 rfl ?_
        refine s_i2l hG dX0_growClass_38 ?_
        refine s_iload hG dX0_growClass_39 rfl ?_
        refine s_csP hG (as := [vL x6.toInt64, vI x7]) (st := []) (rm := rm_X7_has) dX0_growClass_41 ml_RX0_59 (tb6 (mem_i 14 rfl)) rfl ⟨rfl, rfl⟩ ⟨by decide, by decide⟩ (Nat.le_of_ble_eq_true rfl) ⟨Nat.zero_le _, Nat.zero_le _⟩ rfl (fun o h => c_X7_has l _ _ _ o h) (fun o41 => ?_)
        refine s_if_eq hG (tgt := 98) dX0_growClass_44 (by decide) ?_ ?_
        · exact hb98 _ hrec29 _ _ _ _
        · refine s_aload_n hG dX0_growClass_47 rfl ?_
          refine s_iload hG dX0_growClass_48 rfl ?_
          refine s_iload_n hG dX0_growClass_50 rfl ?_
          refine s_cvP hG (as := [vI x7, vI p2]) (st := []) (rm := rm_X0_groupOf) dX0_growClass_51 ml_RX0_63 (ha0) (tb6 (mem_i 17 rfl)) rfl ⟨rfl, rfl⟩ ⟨by decide, by decide⟩ (Nat.le_of_ble_eq_true rfl) ⟨Nat.zero_le _, Nat.zero_le _⟩ rfl (fun o h => c_X0_groupOf l _ _ _ (ha0) _ o h) (fun o51 => ?_)
          refine s_istore hG (lv' := [(8, vI o51), (0, vR a0), (2, vI p2), (4, vI p4), (5, vI x5), (6, vI x6), (7, vI x7)]) dX0_growClass_54 (by decide) rfl ?_
          refine s_iload hG dX0_growClass_56 rfl ?_
          refine s_iload hG dX0_growClass_58 rfl ?_
          refine s_ineg hG dX0_growClass_60 ?_
          refine s_iand hG dX0_growClass_61 ?_
          refine s_istore hG (lv' := [(9, vI (o51 &&& (-o51))), (8, vI o51), (0, vR a0), (2, vI p2), (4, vI p4), (5, vI x5), (6, vI x6), (7, vI x7)]) dX0_growClass_62 (by decide) rfl ?_
          refine s_iload hG dX0_growClass_64 rfl ?_
          refine s_iload hG dX0_growClass_66 rfl ?_
          refine s_i2l hG dX0_growClass_68 ?_
          refine s_iload hG dX0_growClass_69 rfl ?_
          refine s_csP hG (as := [vL o51.toInt64, vI p4]) (st := [vI x5]) (rm := rm_X7_has) dX0_growClass_71 ml_RX0_59 (tb6 (mem_i 14 rfl)) rfl ⟨rfl, rfl⟩ ⟨by decide, by decide⟩ (Nat.le_of_ble_eq_true rfl) ⟨Nat.zero_le _, Nat.zero_le _⟩ rfl (fun o h => c_X7_has l _ _ _ o h) (fun o71 => ?_)
          refine s_if_eq hG (tgt := 84) dX0_growClass_74 (by decide) ?_ ?_
          · refine s_iload hG dX0_growClass_84 rfl ?_
            refine s_lv hG [2, 3, 4, 6, 7, 1] rfl ?_
            exact hb86 _ hrec29 _ _ _ _ _ _
          · refine s_iconst hG (v := (1 : Int32)) dX0_growClass_77 (by decide) ?_
            refine s_iload hG dX0_growClass_78 rfl ?_
            refine s_ishl hG dX0_growClass_80 ?_
            refine s_goto hG (tgt := 86) dX0_growClass_81 (by decide) ?_
            refine s_lv hG [2, 3, 4, 6, 7, 1] rfl ?_
            exact hb86 _ hrec29 _ _ _ _ _ _
  unfold f_X0_growClass
  refine s_aload_n hG dX0_growClass_0 rfl ?_
  refine s_iload_n hG dX0_growClass_1 rfl ?_
  refine s_iload_n hG dX0_growClass_2 rfl ?_
  refine s_iconst hG (v := (2 : Int32)) dX0_growClass_3 (by decide) ?_
  refine s_iadd hG dX0_growClass_4 ?_
  refine s_iload_n hG dX0_growClass_5 rfl ?_
  refine s_cvI hG (as := [vI p1, vI (p2 + (2 : Int32)), vI p3]) (st := []) (rm := rm_X0_shiftGroup) dX0_growClass_6 ml_RX0_66 (ha0) (tb6 (mem_i 28 rfl)) rfl ⟨rfl, rfl⟩ ⟨by decide, by decide⟩ (Nat.le_of_ble_eq_true rfl) ⟨Nat.zero_le _, Nat.zero_le _⟩ rfl (fun o h => c_X0_shiftGroup l _ _ _ _ (ha0) _ o h) (fun o6 => ?_)
  refine s_if_ne hG (tgt := 14) dX0_growClass_9 (by decide) ?_ ?_
  · refine s_iload_n hG dX0_growClass_14 rfl ?_
    refine s_if_ne hG (tgt := 20) dX0_growClass_15 (by decide) ?_ ?_
    · refine s_iconst hG (v := (0 : Int32)) dX0_growClass_20 (by decide) ?_
      refine s_istore hG (lv' := [(5, vI (0 : Int32)), (0, vR a0), (1, vI p1), (2, vI p2), (3, vI p3), (4, vI p4)]) dX0_growClass_21 (by decide) rfl ?_
      refine s_iload_n hG dX0_growClass_23 rfl ?_
      refine s_istore hG (lv' := [(6, vI p1), (5, vI (0 : Int32)), (0, vR a0), (1, vI p1), (2, vI p2), (3, vI p3), (4, vI p4)]) dX0_growClass_24 (by decide) rfl ?_
      refine s_iconst hG (v := (0 : Int32)) dX0_growClass_26 (by decide) ?_
      refine s_istore hG (lv' := [(7, vI (0 : Int32)), (6, vI p1), (5, vI (0 : Int32)), (0, vR a0), (1, vI p1), (2, vI p2), (3, vI p3), (4, vI p4)]) dX0_growClass_27 (by decide) rfl ?_
      refine s_lv hG [3, 5, 7, 2, 1, 0] rfl ?_
      exact hb29 _ _ _ _
    · refine s_iconst hG (v := (1 : Int32)) dX0_growClass_18 (by decide) ?_
      exact s_rzC hR dX0_growClass_19
  · refine s_iconst hG (v := (0 : Int32)) dX0_growClass_12 (by decide) ?_
    exact s_rzC hR dX0_growClass_13

def f_X0_layRule_b240 (a0 : Nat) (p1 : Int32)  (S : HS) (x5 : Int32) (t1 : Int32) (t2 : Int32) : Option (HS × Int32) :=
if nz x5 = true then some ((sI S a0 6 (t1 ||| t2)), x5) else none
def f_X0_layRule_b223 (a0 : Nat) (p1 : Int32)  (S : HS) (x5 : Int32) : Option (HS × Int32) :=
if x5 = 0 then
f_X0_layRule_b240 a0 p1  S x5 (S.1 a0 6) (0 : Int32)
else
f_X0_layRule_b240 a0 p1  S x5 (S.1 a0 6) ((1 : Int32) <<< (p1 &&& 31))
def f_X0_layRule_b217 (a0 : Nat) (p1 : Int32) (rec72 : HS × Int32 × Int32 × Int32 × Int32 × Int32 → Option (HS × Int32)) (S : HS) (x2 : Int32) (x3 : Int32) (x4 : Int32) (x5 : Int32) (x6 : Int32) : Option (HS × Int32) :=
rec72 (S, x2, x3, x4, x5, (x6 + (1 : Int32)))
def f_X0_layRule_b176 (a0 : Nat) (p1 : Int32) (rec72 : HS × Int32 × Int32 × Int32 × Int32 × Int32 → Option (HS × Int32)) (S : HS) (x2 : Int32) (x3 : Int32) (x4 : Int32) (x6 : Int32) (t0 : Int32) : Option (HS × Int32) :=
f_X0_layRule_b217 a0 p1 rec72 S x2 x3 x4 t0 x6
def f_X0_layRule_b134 (a0 : Nat) (p1 : Int32) (rec72 : HS × Int32 × Int32 × Int32 × Int32 × Int32 → Option (HS × Int32)) (S : HS) (x2 : Int32) (x3 : Int32) (x4 : Int32) (x6 : Int32) (x7 : Int32) : Option (HS × Int32) :=
(f_X0_gapOf a0 p1 x6 S).bind (fun o138 =>
(f_X0_groupOf a0 x4 x6 S).bind (fun o151 =>
(f_X7_has o151.toInt64 x3 S).bind (fun o160 =>
if o160 = 0 then
if (2 : Int32) ≤ x6 then
(f_X0_growClass a0 o151 (x6 - (2 : Int32)) (o138 - x7) x3 S).bind (fun o212 =>
f_X0_layRule_b217 a0 p1 rec72 o212.1 x2 x3 x4 o212.2 x6)
else
(f_X0_shiftGroup a0 o151 x6 (o138 - x7) S).bind (fun o194 =>
f_X0_layRule_b217 a0 p1 rec72 o194.1 x2 x3 x4 o194.2 x6)
else
if (o138 - x7) = 0 then
f_X0_layRule_b176 a0 p1 rec72 S x2 x3 x4 x6 (1 : Int32)
else
f_X0_layRule_b176 a0 p1 rec72 S x2 x3 x4 x6 (0 : Int32))))
def F_X0_layRule_b72 (a0 : Nat) (p1 : Int32)  (rec72 : HS × Int32 × Int32 × Int32 × Int32 × Int32 → Option (HS × Int32)) : HS × Int32 × Int32 × Int32 × Int32 × Int32 → Option (HS × Int32) := fun q => match q with
  | (S, x2, x3, x4, x5, x6) =>
    if (4 : Int32) ≤ x6 then
    f_X0_layRule_b223 a0 p1  S x5
    else
    if x5 = 0 then
    f_X0_layRule_b223 a0 p1  S x5
    else
    (f_X7_isAbout x2 x6 S).bind (fun o86 =>
    if o86 = 0 then
    f_X0_layRule_b217 a0 p1 rec72 S x2 x3 x4 x5 x6
    else
    (f_X0_numberOf a0 x4 x6 S).bind (fun o100 =>
    (f_X0_numberOf a0 x3 x6 S).bind (fun o107 =>
    if x2 = (6 : Int32) then
    (f_X7_put (a0 + 2) ((p1 * (2 : Int32)) + x6) (o100 - o107) S).bind (fun o131 =>
    f_X0_layRule_b134 a0 p1 rec72 o131 x2 x3 x4 x6 (o100 - o107))
    else
    f_X0_layRule_b134 a0 p1 rec72 S x2 x3 x4 x6 (o100 - o107))))
def f_X0_layRule_b72 (a0 : Nat) (p1 : Int32)  (S : HS) (x2 : Int32) (x3 : Int32) (x4 : Int32) (x5 : Int32) (x6 : Int32) : Option (HS × Int32) := fx (F_X0_layRule_b72 a0 p1) FU (S, x2, x3, x4, x5, x6)
def f_X0_layRule_b67 (a0 : Nat) (p1 : Int32)  (S : HS) (x2 : Int32) (x3 : Int32) (x4 : Int32) (t0 : Int32) : Option (HS × Int32) :=
f_X0_layRule_b72 a0 p1  S x2 x3 x4 t0 (0 : Int32)
def f_X0_layRule_b66 (a0 : Nat) (p1 : Int32)  (S : HS) (x2 : Int32) (x3 : Int32) (x4 : Int32) : Option (HS × Int32) :=
f_X0_layRule_b67 a0 p1  S x2 x3 x4 (0 : Int32)
def f_X0_layRule (a0 : Nat) (p1 : Int32) (S : HS) : Option (HS × Int32) :=
(f_X7_read 6 p1 S).bind (fun o8 =>
(f_X7_read 7 p1 S).bind (fun o20 =>
(f_X7_read 8 p1 S).bind (fun o32 =>
(f_X7_has ((S.1 a0 5).toInt64) o20 S).bind (fun o43 =>
if o43 = 0 then
f_X0_layRule_b66 a0 p1  S o8 o20 o32
else
(f_X7_has ((S.1 a0 5).toInt64) o32 S).bind (fun o56 =>
if o56 = 0 then
f_X0_layRule_b66 a0 p1  S o8 o20 o32
else
f_X0_layRule_b67 a0 p1  S o8 o20 o32 (1 : Int32))))))
def rm_X0_layRule : Room := { frames := 4, cells := 0, slots := 0, locals := 106 }
set_option maxRecDepth 100000 in
set_option maxHeartbeats 4000000 in
theorem c_X0_layRule (l : Launch) (a0 : Nat) (p1 : Int32) (ha0 : oc a0 = some 0) (S : HS) (out : HS × Int32) (h : f_X0_layRule a0 p1 S = some out) : Ct l yX0_layRule cX0_layRule 10 (some .boolean) rm_X0_layRule [vR a0, vI p1] S (some (vI out.2)) out.1 := by
  refine Ct.intro (own := RX0) (lv := [(0, vR a0), (1, vI p1)]) (by decide +kernel) rfl ⟨rfl, rfl⟩ rfl (Nat.le_of_ble_eq_true rfl) ?_
  intro G hG hR
  revert h
  have hb240 : ∀ (S : HS) (x5 : Int32) (t1 : Int32) (t2 : Int32), f_X0_layRule_b240 a0 p1 S x5 t1 t2 = some out → G 0 0 S [(5, vI x5)] 240 [vI t2, vI t1, vR a0] := by
    intro S x5 t1 t2
    unfold f_X0_layRule_b240
    refine s_ior hG dX0_layRule_240 ?_
    refine s_putI hG dX0_layRule_241 fl_RX0_22 fp_0_6 (fk0_6 _ ha0) ⟨rfl, rfl⟩ ?_
    refine s_iload hG dX0_layRule_244 rfl ?_
    exact s_rzC hR dX0_layRule_246
  have hb223 : ∀ (S : HS) (x5 : Int32), f_X0_layRule_b223 a0 p1 S x5 = some out → G 0 0 S [(0, vR a0), (1, vI p1), (5, vI x5)] 223 [] := by
    intro S x5
    unfold f_X0_layRule_b223
    refine s_aload_n hG dX0_layRule_223 rfl ?_
    refine s_dup hG dX0_layRule_224 rfl ?_
    refine s_getI hG dX0_layRule_225 fl_RX0_22 (fk0_6 _ ha0) ?_
    refine s_iload hG dX0_layRule_228 rfl ?_
    refine s_if_eq hG (tgt := 239) dX0_layRule_230 (by decide) ?_ ?_
    · refine s_iconst hG (v := (0 : Int32)) dX0_layRule_239 (by decide) ?_
      refine s_lv hG [2] rfl ?_
      exact hb240 _ _ _ _
    · refine s_iconst hG (v := (1 : Int32)) dX0_layRule_233 (by decide) ?_
      refine s_iload_n hG dX0_layRule_234 rfl ?_
      refine s_ishl hG dX0_layRule_235 ?_
      refine s_goto hG (tgt := 240) dX0_layRule_236 (by decide) ?_
      refine s_lv hG [2] rfl ?_
      exact hb240 _ _ _ _
  have hb217 : ∀ (rec72 : HS × Int32 × Int32 × Int32 × Int32 × Int32 → Option (HS × Int32)) (hrec72 : ∀ (S : HS) (x2 : Int32) (x3 : Int32) (x4 : Int32) (x5 : Int32) (x6 : Int32), rec72 (S, x2, x3, x4, x5, x6) = some out → G 0 0 S [(0, vR a0), (1, vI p1), (2, vI x2), (3, vI x3), (4, vI x4), (5, vI x5), (6, vI x6)] 72 []) (S : HS) (x2 : Int32) (x3 : Int32) (x4 : Int32) (x5 : Int32) (x6 : Int32), f_X0_layRule_b217 a0 p1 rec72 S x2 x3 x4 x5 x6 = some out → G 0 0 S [(0, vR a0), (1, vI p1), (2, vI x2), (3, vI x3), (4, vI x4), (5, vI x5), (6, vI x6)] 217 [] := by
    intro rec72 hrec72 S x2 x3 x4 x5 x6
    unfold f_X0_layRule_b217
    refine s_iinc hG (v := (x6 + (1 : Int32))) (lv' := [(6, vI (x6 + (1 : Int32))), (0, vR a0), (1, vI p1), (2, vI x2), (3, vI x3), (4, vI x4), (5, vI x5)]) dX0_layRule_217 rfl rfl (by decide) rfl ?_
    refine s_goto hG (tgt := 72) dX0_layRule_220 (by decide) ?_
    refine s_lv hG [1, 2, 3, 4, 5, 6, 0] rfl ?_
    exact hrec72 _ _ _ _ _ _
  have hb176 : ∀ (rec72 : HS × Int32 × Int32 × Int32 × Int32 × Int32 → Option (HS × Int32)) (hrec72 : ∀ (S : HS) (x2 : Int32) (x3 : Int32) (x4 : Int32) (x5 : Int32) (x6 : Int32), rec72 (S, x2, x3, x4, x5, x6) = some out → G 0 0 S [(0, vR a0), (1, vI p1), (2, vI x2), (3, vI x3), (4, vI x4), (5, vI x5), (6, vI x6)] 72 []) (S : HS) (x2 : Int32) (x3 : Int32) (x4 : Int32) (x6 : Int32) (t0 : Int32), f_X0_layRule_b176 a0 p1 rec72 S x2 x3 x4 x6 t0 = some out → G 0 0 S [(0, vR a0), (1, vI p1), (2, vI x2), (3, vI x3), (4, vI x4), (6, vI x6)] 176 [vI t0] := by
    intro rec72 hrec72 S x2 x3 x4 x6 t0
    unfold f_X0_layRule_b176
    refine s_istore hG (lv' := [(5, vI t0), (0, vR a0), (1, vI p1), (2, vI x2), (3, vI x3), (4, vI x4), (6, vI x6)]) dX0_layRule_176 (by decide) rfl ?_
    refine s_goto hG (tgt := 217) dX0_layRule_178 (by decide) ?_
    refine s_lv hG [1, 2, 3, 4, 5, 0, 6] rfl ?_
    exact hb217 _ hrec72 _ _ _ _ _ _
  have hb134 : ∀ (rec72 : HS × Int32 × Int32 × Int32 × Int32 × Int32 → Option (HS × Int32)) (hrec72 : ∀ (S : HS) (x2 : Int32) (x3 : Int32) (x4 : Int32) (x5 : Int32) (x6 : Int32), rec72 (S, x2, x3, x4, x5, x6) = some out → G 0 0 S [(0, vR a0), (1, vI p1), (2, vI x2), (3, vI x3), (4, vI x4), (5, vI x5), (6, vI x6)] 72 []) (S : HS) (x2 : Int32) (x3 : Int32) (x4 : Int32) (x6 : Int32) (x7 : Int32), f_X0_layRule_b134 a0 p1 rec72 S x2 x3 x4 x6 x7 = some out → G 0 0 S [(0, vR a0), (1, vI p1), (2, vI x2), (3, vI x3), (4, vI x4), (6, vI x6), (7, vI x7)] 134 [] := by
    intro rec72 hrec72 S x2 x3 x4 x6 x7
    unfold f_X0_layRule_b134
    refine s_aload_n hG dX0_layRule_134 rfl ?_
    refine s_iload_n hG dX0_layRule_135 rfl ?_
    refine s_iload hG dX0_layRule_136 rfl ?_
    refine s_cvP hG (as := [vI p1, vI x6]) (st := []) (rm := rm_X0_gapOf) dX0_layRule_138 ml_RX0_89 (ha0) (tb7 (mem_i 11 rfl)) rfl ⟨rfl, rfl⟩ ⟨by decide, by decide⟩ (Nat.le_of_ble_eq_true rfl) ⟨Nat.zero_le _, Nat.zero_le _⟩ rfl (fun o h => c_X0_gapOf l _ _ _ (ha0) _ o h) (fun o138 => ?_)
    refine s_iload hG dX0_layRule_141 rfl ?_
    refine s_isub hG dX0_layRule_143 ?_
    refine s_istore hG (lv' := [(8, vI (o138 - x7)), (0, vR a0), (1, vI p1), (2, vI x2), (3, vI x3), (4, vI x4), (6, vI x6), (7, vI x7)]) dX0_layRule_144 (by decide) rfl ?_
    refine s_aload_n hG dX0_layRule_146 rfl ?_
    refine s_iload hG dX0_layRule_147 rfl ?_
    refine s_iload hG dX0_layRule_149 rfl ?_
    refine s_cvP hG (as := [vI x4, vI x6]) (st := []) (rm := rm_X0_groupOf) dX0_layRule_151 ml_RX0_63 (ha0) (tb6 (mem_i 17 rfl)) rfl ⟨rfl, rfl⟩ ⟨by decide, by decide⟩ (Nat.le_of_ble_eq_true rfl) ⟨Nat.zero_le _, Nat.zero_le _⟩ rfl (fun o h => c_X0_groupOf l _ _ _ (ha0) _ o h) (fun o151 => ?_)
    refine s_istore hG (lv' := [(9, vI o151), (8, vI (o138 - x7)), (0, vR a0), (1, vI p1), (2, vI x2), (3, vI x3), (4, vI x4), (6, vI x6), (7, vI x7)]) dX0_layRule_154 (by decide) rfl ?_
    refine s_iload hG dX0_layRule_156 rfl ?_
    refine s_i2l hG dX0_layRule_158 ?_
    refine s_iload_n hG dX0_layRule_159 rfl ?_
    refine s_csP hG (as := [vL o151.toInt64, vI x3]) (st := []) (rm := rm_X7_has) dX0_layRule_160 ml_RX0_59 (tb6 (mem_i 14 rfl)) rfl ⟨rfl, rfl⟩ ⟨by decide, by decide⟩ (Nat.le_of_ble_eq_true rfl) ⟨Nat.zero_le _, Nat.zero_le _⟩ rfl (fun o h => c_X7_has l _ _ _ o h) (fun o160 => ?_)
    refine s_if_eq hG (tgt := 181) dX0_layRule_163 (by decide) ?_ ?_
    · refine s_iload hG dX0_layRule_181 rfl ?_
      refine s_iconst hG (v := (2 : Int32)) dX0_layRule_183 (by decide) ?_
      refine s_icmp_ge hG (tgt := 202) dX0_layRule_184 (by decide) ?_ ?_
      · refine s_aload_n hG dX0_layRule_202 rfl ?_
        refine s_iload hG dX0_layRule_203 rfl ?_
        refine s_iload hG dX0_layRule_205 rfl ?_
        refine s_iconst hG (v := (2 : Int32)) dX0_layRule_207 (by decide) ?_
        refine s_isub hG dX0_layRule_208 ?_
        refine s_iload hG dX0_layRule_209 rfl ?_
        refine s_iload_n hG dX0_layRule_211 rfl ?_
        refine s_cvI hG (as := [vI o151, vI (x6 - (2 : Int32)), vI (o138 - x7), vI x3]) (st := []) (rm := rm_X0_growClass) dX0_layRule_212 ml_RX0_70 (ha0) (tb7 (mem_i 5 rfl)) rfl ⟨rfl, rfl⟩ ⟨by decide, by decide⟩ (Nat.le_of_ble_eq_true rfl) ⟨Nat.zero_le _, Nat.zero_le _⟩ rfl (fun o h => c_X0_growClass l _ _ _ _ _ (ha0) _ o h) (fun o212 => ?_)
        refine s_istore hG (lv' := [(5, vI o212.2), (9, vI o151), (8, vI (o138 - x7)), (0, vR a0), (1, vI p1), (2, vI x2), (3, vI x3), (4, vI x4), (6, vI x6), (7, vI x7)]) dX0_layRule_215 (by decide) rfl ?_
        refine s_lv hG [3, 4, 5, 6, 7, 0, 8] rfl ?_
        exact hb217 _ hrec72 _ _ _ _ _ _
      · refine s_aload_n hG dX0_layRule_187 rfl ?_
        refine s_iload hG dX0_layRule_188 rfl ?_
        refine s_iload hG dX0_layRule_190 rfl ?_
        refine s_iload hG dX0_layRule_192 rfl ?_
        refine s_cvI hG (as := [vI o151, vI x6, vI (o138 - x7)]) (st := []) (rm := rm_X0_shiftGroup) dX0_layRule_194 ml_RX0_66 (ha0) (tb6 (mem_i 28 rfl)) rfl ⟨rfl, rfl⟩ ⟨by decide, by decide⟩ (Nat.le_of_ble_eq_true rfl) ⟨Nat.zero_le _, Nat.zero_le _⟩ rfl (fun o h => c_X0_shiftGroup l _ _ _ _ (ha0) _ o h) (fun o194 => ?_)
        refine s_istore hG (lv' := [(5, vI o194.2), (9, vI o151), (8, vI (o138 - x7)), (0, vR a0), (1, vI p1), (2, vI x2), (3, vI x3), (4, vI x4), (6, vI x6), (7, vI x7)]) dX0_layRule_197 (by decide) rfl ?_
        refine s_goto hG (tgt := 217) dX0_layRule_199 (by decide) ?_
        refine s_lv hG [3, 4, 5, 6, 7, 0, 8] rfl ?_
        exact hb217 _ hrec72 _ _ _ _ _ _
    · refine s_iload hG dX0_layRule_166 rfl ?_
      refine s_if_ne hG (tgt := 175) dX0_layRule_168 (by decide) ?_ ?_
      · refine s_iconst hG (v := (0 : Int32)) dX0_layRule_175 (by decide) ?_
        refine s_lv hG [2, 3, 4, 5, 6, 7] rfl ?_
        exact hb176 _ hrec72 _ _ _ _ _ _
      · refine s_iconst hG (v := (1 : Int32)) dX0_layRule_171 (by decide) ?_
        refine s_goto hG (tgt := 176) dX0_layRule_172 (by decide) ?_
        refine s_lv hG [2, 3, 4, 5, 6, 7] rfl ?_
        exact hb176 _ hrec72 _ _ _ _ _ _
  have hb72 : ∀ (S : HS) (x2 : Int32) (x3 : Int32) (x4 : Int32) (x5 : Int32) (x6 : Int32), f_X0_layRule_b72 a0 p1 S x2 x3 x4 x5 x6 = some out → G 0 0 S [(0, vR a0), (1, vI p1), (2, vI x2), (3, vI x3), (4, vI x4), (5, vI x5), (6, vI x6)] 72 [] := by
    intro  S x2 x3 x4 x5 x6
    unfold f_X0_layRule_b72
    generalize FU = nf
    revert S x2 x3 x4 x5 x6
    induction nf with
    | zero => intro S x2 x3 x4 x5 x6 h9; cases h9
    | succ nf hrec72 =>
      intro S x2 x3 x4 x5 x6
      show F_X0_layRule_b72 a0 p1 (fx (F_X0_layRule_b72 a0 p1) nf) (S, x2, x3, x4, x5, x6) = some out → _
      generalize fx (F_X0_layRule_b72 a0 p1) nf = rec72 at hrec72
      unfold F_X0_layRule_b72
      dsimp only
      refine s_iload hG dX0_layRule_72 rfl ?_
      refine s_iconst hG (v := (4 : Int32)) dX0_layRule_74 (by decide) ?_
      refine s_icmp_ge hG (tgt := 223) dX0_layRule_75 (by decide) ?_ ?_
      · refine s_lv hG [0, 1, 5] rfl ?_
        exact hb223 _ _
      · refine s_iload hG dX0_layRule_78 rfl ?_
        refine s_if_eq hG (tgt := 223) dX0_layRule_80 (by decide) ?_ ?_
        · refine s_lv hG [0, 1, 5] rfl ?_
          exact hb223 _ _
        · refine s_iload_n hG dX0_layRule_83 rfl ?_
          refine s_iload hG dX0_layRule_84 rfl ?_
          refine s_csP hG (as := [vI x2, vI x6]) (st := []) (rm := rm_X7_isAbout) dX0_layRule_86 ml_RX0_85 (tb6 (mem_i 22 rfl)) rfl ⟨rfl, rfl⟩ ⟨by decide, by decide⟩ (Nat.le_of_ble_eq_true rfl) ⟨Nat.zero_le _, Nat.zero_le _⟩ rfl (fun o h => c_X7_isAbout l _ _ _ o h) (fun o86 => ?_)
          refine s_if_ne hG (tgt := 95) dX0_layRule_89 (by decide) ?_ ?_
          · refine s_aload_n hG dX0_layRule_95 rfl ?_
            refine s_iload hG dX0_layRule_96 rfl ?_
            refine s_iload hG dX0_layRule_98 rfl ?_
            refine s_cvP hG (as := [vI x4, vI x6]) (st := []) (rm := rm_X0_numberOf) dX0_layRule_100 ml_RX0_51 (ha0) (tb6 (mem_i 25 rfl)) rfl ⟨rfl, rfl⟩ ⟨by decide, by decide⟩ (Nat.le_of_ble_eq_true rfl) ⟨Nat.zero_le _, Nat.zero_le _⟩ rfl (fun o h => c_X0_numberOf l _ _ _ (ha0) _ o h) (fun o100 => ?_)
            refine s_aload_n hG dX0_layRule_103 rfl ?_
            refine s_iload_n hG dX0_layRule_104 rfl ?_
            refine s_iload hG dX0_layRule_105 rfl ?_
            refine s_cvP hG (as := [vI x3, vI x6]) (st := [vI o100]) (rm := rm_X0_numberOf) dX0_layRule_107 ml_RX0_51 (ha0) (tb6 (mem_i 25 rfl)) rfl ⟨rfl, rfl⟩ ⟨by decide, by decide⟩ (Nat.le_of_ble_eq_true rfl) ⟨Nat.zero_le _, Nat.zero_le _⟩ rfl (fun o h => c_X0_numberOf l _ _ _ (ha0) _ o h) (fun o107 => ?_)
            refine s_isub hG dX0_layRule_110 ?_
            refine s_istore hG (lv' := [(7, vI (o100 - o107)), (0, vR a0), (1, vI p1), (2, vI x2), (3, vI x3), (4, vI x4), (5, vI x5), (6, vI x6)]) dX0_layRule_111 (by decide) rfl ?_
            refine s_iload_n hG dX0_layRule_113 rfl ?_
            refine s_bipush hG (v := (6 : Int32)) dX0_layRule_114 (by decide) ?_
            refine s_icmp_ne hG (tgt := 134) dX0_layRule_116 (by decide) ?_ ?_
            · refine s_lv hG [1, 2, 3, 4, 5, 7, 0] rfl ?_
              exact hb134 _ hrec72 _ _ _ _ _ _
            · refine s_aload_n hG dX0_layRule_119 rfl ?_
              refine s_getC hG dX0_layRule_120 fl_RX0_15 (fk0_4 _ ha0) ?_
              refine s_iload_n hG dX0_layRule_123 rfl ?_
              refine s_iconst hG (v := (2 : Int32)) dX0_layRule_124 (by decide) ?_
              refine s_imul hG dX0_layRule_125 ?_
              refine s_iload hG dX0_layRule_126 rfl ?_
              refine s_iadd hG dX0_layRule_128 ?_
              refine s_iload hG dX0_layRule_129 rfl ?_
              refine s_csV hG (as := [vR (a0 + 2), vI ((p1 * (2 : Int32)) + x6), vI (o100 - o107)]) (st := []) (rm := rm_X7_put) dX0_layRule_131 ml_RX0_47 (tb5 (mem_i 15 rfl)) rfl ⟨rfl, rfl⟩ ⟨by decide, by decide⟩ (Nat.le_of_ble_eq_true rfl) ⟨Nat.zero_le _, Nat.zero_le _⟩ rfl (fun o h => c_X7_put l _ _ _ (ak_len (ak0_4 _ ha0)) _ o h) (fun o131 => ?_)
              refine s_lv hG [1, 2, 3, 4, 5, 7, 0] rfl ?_
              exact hb134 _ hrec72 _ _ _ _ _ _
          · refine s_goto hG (tgt := 217) dX0_layRule_92 (by decide) ?_
            exact hb217 _ hrec72 _ _ _ _ _ _
  have hb67 : ∀ (S : HS) (x2 : Int32) (x3 : Int32) (x4 : Int32) (t0 : Int32), f_X0_layRule_b67 a0 p1 S x2 x3 x4 t0 = some out → G 0 0 S [(0, vR a0), (1, vI p1), (2, vI x2), (3, vI x3), (4, vI x4)] 67 [vI t0] := by
    intro S x2 x3 x4 t0
    unfold f_X0_layRule_b67
    refine s_istore hG (lv' := [(5, vI t0), (0, vR a0), (1, vI p1), (2, vI x2), (3, vI x3), (4, vI x4)]) dX0_layRule_67 (by decide) rfl ?_
    refine s_iconst hG (v := (0 : Int32)) dX0_layRule_69 (by decide) ?_
    refine s_istore hG (lv' := [(6, vI (0 : Int32)), (5, vI t0), (0, vR a0), (1, vI p1), (2, vI x2), (3, vI x3), (4, vI x4)]) dX0_layRule_70 (by decide) rfl ?_
    refine s_lv hG [2, 3, 4, 5, 6, 1, 0] rfl ?_
    exact hb72 _ _ _ _ _ _
  have hb66 : ∀ (S : HS) (x2 : Int32) (x3 : Int32) (x4 : Int32), f_X0_layRule_b66 a0 p1 S x2 x3 x4 = some out → G 0 0 S [(0, vR a0), (1, vI p1), (2, vI x2), (3, vI x3), (4, vI x4)] 66 [] := by
    intro S x2 x3 x4
    unfold f_X0_layRule_b66
    refine s_iconst hG (v := (0 : Int32)) dX0_layRule_66 (by decide) ?_
    exact hb67 _ _ _ _ _
  unfold f_X0_layRule
  refine s_aload_n hG dX0_layRule_0 rfl ?_
  refine s_getC hG dX0_layRule_1 fl_RX0_29 (fk0_1 _ ha0) ?_
  refine s_getC hG dX0_layRule_4 fl_RX0_74 (rfl) ?_
  refine s_iload_n hG dX0_layRule_7 rfl ?_
  refine s_csP hG (as := [vR 6, vI p1]) (st := []) (rm := rm_X7_read) dX0_layRule_8 ml_RX0_43 (tb5 (mem_i 19 rfl)) rfl ⟨rfl, rfl⟩ ⟨by decide, by decide⟩ (Nat.le_of_ble_eq_true rfl) ⟨Nat.zero_le _, Nat.zero_le _⟩ rfl (fun o h => c_X7_read l _ _ (rfl) _ o h) (fun o8 => ?_)
  refine s_istore_n hG (lv' := [(2, vI o8), (0, vR a0), (1, vI p1)]) dX0_layRule_11 (by decide) rfl ?_
  refine s_aload_n hG dX0_layRule_12 rfl ?_
  refine s_getC hG dX0_layRule_13 fl_RX0_29 (fk0_1 _ ha0) ?_
  refine s_getC hG dX0_layRule_16 fl_RX0_79 (rfl) ?_
  refine s_iload_n hG dX0_layRule_19 rfl ?_
  refine s_csP hG (as := [vR 7, vI p1]) (st := []) (rm := rm_X7_read) dX0_layRule_20 ml_RX0_43 (tb5 (mem_i 19 rfl)) rfl ⟨rfl, rfl⟩ ⟨by decide, by decide⟩ (Nat.le_of_ble_eq_true rfl) ⟨Nat.zero_le _, Nat.zero_le _⟩ rfl (fun o h => c_X7_read l _ _ (rfl) _ o h) (fun o20 => ?_)
  refine s_istore_n hG (lv' := [(3, vI o20), (2, vI o8), (0, vR a0), (1, vI p1)]) dX0_layRule_23 (by decide) rfl ?_
  refine s_aload_n hG dX0_layRule_24 rfl ?_
  refine s_getC hG dX0_layRule_25 fl_RX0_29 (fk0_1 _ ha0) ?_
  refine s_getC hG dX0_layRule_28 fl_RX0_82 (rfl) ?_
  refine s_iload_n hG dX0_layRule_31 rfl ?_
  refine s_csP hG (as := [vR 8, vI p1]) (st := []) (rm := rm_X7_read) dX0_layRule_32 ml_RX0_43 (tb5 (mem_i 19 rfl)) rfl ⟨rfl, rfl⟩ ⟨by decide, by decide⟩ (Nat.le_of_ble_eq_true rfl) ⟨Nat.zero_le _, Nat.zero_le _⟩ rfl (fun o h => c_X7_read l _ _ (rfl) _ o h) (fun o32 => ?_)
  refine s_istore hG (lv' := [(4, vI o32), (3, vI o20), (2, vI o8), (0, vR a0), (1, vI p1)]) dX0_layRule_35 (by decide) rfl ?_
  refine s_aload_n hG dX0_layRule_37 rfl ?_
  refine s_getI hG dX0_layRule_38 fl_RX0_18 (fk0_5 _ ha0) ?_
  refine s_i2l hG dX0_layRule_41 ?_
  refine s_iload_n hG dX0_layRule_42 rfl ?_
  refine s_csP hG (as := [vL ((S.1 a0 5).toInt64), vI o20]) (st := []) (rm := rm_X7_has) dX0_layRule_43 ml_RX0_59 (tb6 (mem_i 14 rfl)) rfl ⟨rfl, rfl⟩ ⟨by decide, by decide⟩ (Nat.le_of_ble_eq_true rfl) ⟨Nat.zero_le _, Nat.zero_le _⟩ rfl (fun o h => c_X7_has l _ _ _ o h) (fun o43 => ?_)
  refine s_if_eq hG (tgt := 66) dX0_layRule_46 (by decide) ?_ ?_
  · refine s_lv hG [3, 4, 2, 1, 0] rfl ?_
    exact hb66 _ _ _ _
  · refine s_aload_n hG dX0_layRule_49 rfl ?_
    refine s_getI hG dX0_layRule_50 fl_RX0_18 (fk0_5 _ ha0) ?_
    refine s_i2l hG dX0_layRule_53 ?_
    refine s_iload hG dX0_layRule_54 rfl ?_
    refine s_csP hG (as := [vL ((S.1 a0 5).toInt64), vI o32]) (st := []) (rm := rm_X7_has) dX0_layRule_56 ml_RX0_59 (tb6 (mem_i 14 rfl)) rfl ⟨rfl, rfl⟩ ⟨by decide, by decide⟩ (Nat.le_of_ble_eq_true rfl) ⟨Nat.zero_le _, Nat.zero_le _⟩ rfl (fun o h => c_X7_has l _ _ _ o h) (fun o56 => ?_)
    refine s_if_eq hG (tgt := 66) dX0_layRule_59 (by decide) ?_ ?_
    · refine s_lv hG [3, 4, 2, 1, 0] rfl ?_
      exact hb66 _ _ _ _
    · refine s_iconst hG (v := (1 : Int32)) dX0_layRule_62 (by decide) ?_
      refine s_goto hG (tgt := 67) dX0_layRule_63 (by decide) ?_
      refine s_lv hG [3, 4, 2, 1, 0] rfl ?_
      exact hb67 _ _ _ _ _

def f_X0_moveTo_b61 (a0 : Nat) (p1 : Int32) (p2 : Int32) (p3 : Int32)  (S : HS) (t0 : Int32) : Option (HS × Int32) :=
if nz t0 = true then some (S, t0) else none
def f_X0_moveTo_b60 (a0 : Nat) (p1 : Int32) (p2 : Int32) (p3 : Int32)  (S : HS)  : Option (HS × Int32) :=
f_X0_moveTo_b61 a0 p1 p2 p3  S (0 : Int32)
def f_X0_moveTo (a0 : Nat) (p1 : Int32) (p2 : Int32) (p3 : Int32) (S : HS) : Option (HS × Int32) :=
(f_X7_has ((S.1 a0 5).toInt64) p1 S).bind (fun o6 =>
if o6 = 0 then
f_X0_moveTo_b60 a0 p1 p2 p3  S
else
(f_X0_groupOf a0 p1 (0 : Int32) S).bind (fun o16 =>
(f_X0_numberOf a0 p1 (0 : Int32) S).bind (fun o24 =>
(f_X0_shiftGroup a0 o16 (0 : Int32) (p2 - o24) S).bind (fun o28 =>
if o28.2 = 0 then
f_X0_moveTo_b60 a0 p1 p2 p3  o28.1
else
(f_X0_groupOf a0 p1 (1 : Int32) o28.1).bind (fun o38 =>
(f_X0_numberOf a0 p1 (1 : Int32) o28.1).bind (fun o46 =>
(f_X0_shiftGroup a0 o38 (1 : Int32) (p3 - o46) o28.1).bind (fun o50 =>
if o50.2 = 0 then
f_X0_moveTo_b60 a0 p1 p2 p3  o50.1
else
f_X0_moveTo_b61 a0 p1 p2 p3  o50.1 (1 : Int32))))))))
def rm_X0_moveTo : Room := { frames := 3, cells := 0, slots := 0, locals := 71 }
set_option maxRecDepth 100000 in
set_option maxHeartbeats 4000000 in
theorem c_X0_moveTo (l : Launch) (a0 : Nat) (p1 : Int32) (p2 : Int32) (p3 : Int32) (ha0 : oc a0 = some 0) (S : HS) (out : HS × Int32) (h : f_X0_moveTo a0 p1 p2 p3 S = some out) : Ct l yX0_moveTo cX0_moveTo 4 (some .boolean) rm_X0_moveTo [vR a0, vI p1, vI p2, vI p3] S (some (vI out.2)) out.1 := by
  refine Ct.intro (own := RX0) (lv := [(0, vR a0), (1, vI p1), (2, vI p2), (3, vI p3)]) (by decide +kernel) rfl ⟨rfl, rfl⟩ rfl (Nat.le_of_ble_eq_true rfl) ?_
  intro G hG hR
  revert h
  have hb61 : ∀ (S : HS) (t0 : Int32), f_X0_moveTo_b61 a0 p1 p2 p3 S t0 = some out → G 0 0 S [] 61 [vI t0] := by
    intro S t0
    unfold f_X0_moveTo_b61
    exact s_rzC hR dX0_moveTo_61
  have hb60 : ∀ (S : HS), f_X0_moveTo_b60 a0 p1 p2 p3 S  = some out → G 0 0 S [] 60 [] := by
    intro S
    unfold f_X0_moveTo_b60
    refine s_iconst hG (v := (0 : Int32)) dX0_moveTo_60 (by decide) ?_
    exact hb61 _ _
  unfold f_X0_moveTo
  refine s_aload_n hG dX0_moveTo_0 rfl ?_
  refine s_getI hG dX0_moveTo_1 fl_RX0_18 (fk0_5 _ ha0) ?_
  refine s_i2l hG dX0_moveTo_4 ?_
  refine s_iload_n hG dX0_moveTo_5 rfl ?_
  refine s_csP hG (as := [vL ((S.1 a0 5).toInt64), vI p1]) (st := []) (rm := rm_X7_has) dX0_moveTo_6 ml_RX0_59 (tb6 (mem_i 14 rfl)) rfl ⟨rfl, rfl⟩ ⟨by decide, by decide⟩ (Nat.le_of_ble_eq_true rfl) ⟨Nat.zero_le _, Nat.zero_le _⟩ rfl (fun o h => c_X7_has l _ _ _ o h) (fun o6 => ?_)
  refine s_if_eq hG (tgt := 60) dX0_moveTo_9 (by decide) ?_ ?_
  · refine s_lv hG [] rfl ?_
    exact hb60 _
  · refine s_aload_n hG dX0_moveTo_12 rfl ?_
    refine s_aload_n hG dX0_moveTo_13 rfl ?_
    refine s_iload_n hG dX0_moveTo_14 rfl ?_
    refine s_iconst hG (v := (0 : Int32)) dX0_moveTo_15 (by decide) ?_
    refine s_cvP hG (as := [vI p1, vI (0 : Int32)]) (st := [vR a0]) (rm := rm_X0_groupOf) dX0_moveTo_16 ml_RX0_63 (ha0) (tb6 (mem_i 17 rfl)) rfl ⟨rfl, rfl⟩ ⟨by decide, by decide⟩ (Nat.le_of_ble_eq_true rfl) ⟨Nat.zero_le _, Nat.zero_le _⟩ rfl (fun o h => c_X0_groupOf l _ _ _ (ha0) _ o h) (fun o16 => ?_)
    refine s_iconst hG (v := (0 : Int32)) dX0_moveTo_19 (by decide) ?_
    refine s_iload_n hG dX0_moveTo_20 rfl ?_
    refine s_aload_n hG dX0_moveTo_21 rfl ?_
    refine s_iload_n hG dX0_moveTo_22 rfl ?_
    refine s_iconst hG (v := (0 : Int32)) dX0_moveTo_23 (by decide) ?_
    refine s_cvP hG (as := [vI p1, vI (0 : Int32)]) (st := [vI p2, vI (0 : Int32), vI o16, vR a0]) (rm := rm_X0_numberOf) dX0_moveTo_24 ml_RX0_51 (ha0) (tb6 (mem_i 25 rfl)) rfl ⟨rfl, rfl⟩ ⟨by decide, by decide⟩ (Nat.le_of_ble_eq_true rfl) ⟨Nat.zero_le _, Nat.zero_le _⟩ rfl (fun o h => c_X0_numberOf l _ _ _ (ha0) _ o h) (fun o24 => ?_)
    refine s_isub hG dX0_moveTo_27 ?_
    refine s_cvI hG (as := [vI o16, vI (0 : Int32), vI (p2 - o24)]) (st := []) (rm := rm_X0_shiftGroup) dX0_moveTo_28 ml_RX0_66 (ha0) (tb6 (mem_i 28 rfl)) rfl ⟨rfl, rfl⟩ ⟨by decide, by decide⟩ (Nat.le_of_ble_eq_true rfl) ⟨Nat.zero_le _, Nat.zero_le _⟩ rfl (fun o h => c_X0_shiftGroup l _ _ _ _ (ha0) _ o h) (fun o28 => ?_)
    refine s_if_eq hG (tgt := 60) dX0_moveTo_31 (by decide) ?_ ?_
    · refine s_lv hG [] rfl ?_
      exact hb60 _
    · refine s_aload_n hG dX0_moveTo_34 rfl ?_
      refine s_aload_n hG dX0_moveTo_35 rfl ?_
      refine s_iload_n hG dX0_moveTo_36 rfl ?_
      refine s_iconst hG (v := (1 : Int32)) dX0_moveTo_37 (by decide) ?_
      refine s_cvP hG (as := [vI p1, vI (1 : Int32)]) (st := [vR a0]) (rm := rm_X0_groupOf) dX0_moveTo_38 ml_RX0_63 (ha0) (tb6 (mem_i 17 rfl)) rfl ⟨rfl, rfl⟩ ⟨by decide, by decide⟩ (Nat.le_of_ble_eq_true rfl) ⟨Nat.zero_le _, Nat.zero_le _⟩ rfl (fun o h => c_X0_groupOf l _ _ _ (ha0) _ o h) (fun o38 => ?_)
      refine s_iconst hG (v := (1 : Int32)) dX0_moveTo_41 (by decide) ?_
      refine s_iload_n hG dX0_moveTo_42 rfl ?_
      refine s_aload_n hG dX0_moveTo_43 rfl ?_
      refine s_iload_n hG dX0_moveTo_44 rfl ?_
      refine s_iconst hG (v := (1 : Int32)) dX0_moveTo_45 (by decide) ?_
      refine s_cvP hG (as := [vI p1, vI (1 : Int32)]) (st := [vI p3, vI (1 : Int32), vI o38, vR a0]) (rm := rm_X0_numberOf) dX0_moveTo_46 ml_RX0_51 (ha0) (tb6 (mem_i 25 rfl)) rfl ⟨rfl, rfl⟩ ⟨by decide, by decide⟩ (Nat.le_of_ble_eq_true rfl) ⟨Nat.zero_le _, Nat.zero_le _⟩ rfl (fun o h => c_X0_numberOf l _ _ _ (ha0) _ o h) (fun o46 => ?_)
      refine s_isub hG dX0_moveTo_49 ?_
      refine s_cvI hG (as := [vI o38, vI (1 : Int32), vI (p3 - o46)]) (st := []) (rm := rm_X0_shiftGroup) dX0_moveTo_50 ml_RX0_66 (ha0) (tb6 (mem_i 28 rfl)) rfl ⟨rfl, rfl⟩ ⟨by decide, by decide⟩ (Nat.le_of_ble_eq_true rfl) ⟨Nat.zero_le _, Nat.zero_le _⟩ rfl (fun o h => c_X0_shiftGroup l _ _ _ _ (ha0) _ o h) (fun o50 => ?_)
      refine s_if_eq hG (tgt := 60) dX0_moveTo_53 (by decide) ?_ ?_
      · refine s_lv hG [] rfl ?_
        exact hb60 _
      · refine s_iconst hG (v := (1 : Int32)) dX0_moveTo_56 (by decide) ?_
        refine s_goto hG (tgt := 61) dX0_moveTo_57 (by decide) ?_
        refine s_lv hG [] rfl ?_
        exact hb61 _ _

def f_X0_resizeTo_b63 (a0 : Nat) (p1 : Int32) (p2 : Int32) (p3 : Int32)  (S : HS) (t0 : Int32) : Option (HS × Int32) :=
if nz t0 = true then some (S, t0) else none
def f_X0_resizeTo_b62 (a0 : Nat) (p1 : Int32) (p2 : Int32) (p3 : Int32)  (S : HS)  : Option (HS × Int32) :=
f_X0_resizeTo_b63 a0 p1 p2 p3  S (0 : Int32)
def f_X0_resizeTo (a0 : Nat) (p1 : Int32) (p2 : Int32) (p3 : Int32) (S : HS) : Option (HS × Int32) :=
(f_X7_has ((S.1 a0 5).toInt64) p1 S).bind (fun o6 =>
if o6 = 0 then
f_X0_resizeTo_b62 a0 p1 p2 p3  S
else
(f_X0_groupOf a0 p1 (2 : Int32) S).bind (fun o16 =>
(f_X0_numberOf a0 p1 (2 : Int32) S).bind (fun o24 =>
(f_X0_growClass a0 o16 (0 : Int32) (p2 - o24) p1 S).bind (fun o29 =>
if o29.2 = 0 then
f_X0_resizeTo_b62 a0 p1 p2 p3  o29.1
else
(f_X0_groupOf a0 p1 (3 : Int32) o29.1).bind (fun o39 =>
(f_X0_numberOf a0 p1 (3 : Int32) o29.1).bind (fun o47 =>
(f_X0_growClass a0 o39 (1 : Int32) (p3 - o47) p1 o29.1).bind (fun o52 =>
if o52.2 = 0 then
f_X0_resizeTo_b62 a0 p1 p2 p3  o52.1
else
f_X0_resizeTo_b63 a0 p1 p2 p3  o52.1 (1 : Int32))))))))
def rm_X0_resizeTo : Room := { frames := 4, cells := 0, slots := 0, locals := 106 }
set_option maxRecDepth 100000 in
set_option maxHeartbeats 4000000 in
theorem c_X0_resizeTo (l : Launch) (a0 : Nat) (p1 : Int32) (p2 : Int32) (p3 : Int32) (ha0 : oc a0 = some 0) (S : HS) (out : HS × Int32) (h : f_X0_resizeTo a0 p1 p2 p3 S = some out) : Ct l yX0_resizeTo cX0_resizeTo 4 (some .boolean) rm_X0_resizeTo [vR a0, vI p1, vI p2, vI p3] S (some (vI out.2)) out.1 := by
  refine Ct.intro (own := RX0) (lv := [(0, vR a0), (1, vI p1), (2, vI p2), (3, vI p3)]) (by decide +kernel) rfl ⟨rfl, rfl⟩ rfl (Nat.le_of_ble_eq_true rfl) ?_
  intro G hG hR
  revert h
  have hb63 : ∀ (S : HS) (t0 : Int32), f_X0_resizeTo_b63 a0 p1 p2 p3 S t0 = some out → G 0 0 S [] 63 [vI t0] := by
    intro S t0
    unfold f_X0_resizeTo_b63
    exact s_rzC hR dX0_resizeTo_63
  have hb62 : ∀ (S : HS), f_X0_resizeTo_b62 a0 p1 p2 p3 S  = some out → G 0 0 S [] 62 [] := by
    intro S
    unfold f_X0_resizeTo_b62
    refine s_iconst hG (v := (0 : Int32)) dX0_resizeTo_62 (by decide) ?_
    exact hb63 _ _
  unfold f_X0_resizeTo
  refine s_aload_n hG dX0_resizeTo_0 rfl ?_
  refine s_getI hG dX0_resizeTo_1 fl_RX0_18 (fk0_5 _ ha0) ?_
  refine s_i2l hG dX0_resizeTo_4 ?_
  refine s_iload_n hG dX0_resizeTo_5 rfl ?_
  refine s_csP hG (as := [vL ((S.1 a0 5).toInt64), vI p1]) (st := []) (rm := rm_X7_has) dX0_resizeTo_6 ml_RX0_59 (tb6 (mem_i 14 rfl)) rfl ⟨rfl, rfl⟩ ⟨by decide, by decide⟩ (Nat.le_of_ble_eq_true rfl) ⟨Nat.zero_le _, Nat.zero_le _⟩ rfl (fun o h => c_X7_has l _ _ _ o h) (fun o6 => ?_)
  refine s_if_eq hG (tgt := 62) dX0_resizeTo_9 (by decide) ?_ ?_
  · refine s_lv hG [] rfl ?_
    exact hb62 _
  · refine s_aload_n hG dX0_resizeTo_12 rfl ?_
    refine s_aload_n hG dX0_resizeTo_13 rfl ?_
    refine s_iload_n hG dX0_resizeTo_14 rfl ?_
    refine s_iconst hG (v := (2 : Int32)) dX0_resizeTo_15 (by decide) ?_
    refine s_cvP hG (as := [vI p1, vI (2 : Int32)]) (st := [vR a0]) (rm := rm_X0_groupOf) dX0_resizeTo_16 ml_RX0_63 (ha0) (tb6 (mem_i 17 rfl)) rfl ⟨rfl, rfl⟩ ⟨by decide, by decide⟩ (Nat.le_of_ble_eq_true rfl) ⟨Nat.zero_le _, Nat.zero_le _⟩ rfl (fun o h => c_X0_groupOf l _ _ _ (ha0) _ o h) (fun o16 => ?_)
    refine s_iconst hG (v := (0 : Int32)) dX0_resizeTo_19 (by decide) ?_
    refine s_iload_n hG dX0_resizeTo_20 rfl ?_
    refine s_aload_n hG dX0_resizeTo_21 rfl ?_
    refine s_iload_n hG dX0_resizeTo_22 rfl ?_
    refine s_iconst hG (v := (2 : Int32)) dX0_resizeTo_23 (by decide) ?_
    refine s_cvP hG (as := [vI p1, vI (2 : Int32)]) (st := [vI p2, vI (0 : Int32), vI o16, vR a0]) (rm := rm_X0_numberOf) dX0_resizeTo_24 ml_RX0_51 (ha0) (tb6 (mem_i 25 rfl)) rfl ⟨rfl, rfl⟩ ⟨by decide, by decide⟩ (Nat.le_of_ble_eq_true rfl) ⟨Nat.zero_le _, Nat.zero_le _⟩ rfl (fun o h => c_X0_numberOf l _ _ _ (ha0) _ o h) (fun o24 => ?_)
    refine s_isub hG dX0_resizeTo_27 ?_
    refine s_iload_n hG dX0_resizeTo_28 rfl ?_
    refine s_cvI hG (as := [vI o16, vI (0 : Int32), vI (p2 - o24), vI p1]) (st := []) (rm := rm_X0_growClass) dX0_resizeTo_29 ml_RX0_70 (ha0) (tb7 (mem_i 5 rfl)) rfl ⟨rfl, rfl⟩ ⟨by decide, by decide⟩ (Nat.le_of_ble_eq_true rfl) ⟨Nat.zero_le _, Nat.zero_le _⟩ rfl (fun o h => c_X0_growClass l _ _ _ _ _ (ha0) _ o h) (fun o29 => ?_)
    refine s_if_eq hG (tgt := 62) dX0_resizeTo_32 (by decide) ?_ ?_
    · refine s_lv hG [] rfl ?_
      exact hb62 _
    · refine s_aload_n hG dX0_resizeTo_35 rfl ?_
      refine s_aload_n hG dX0_resizeTo_36 rfl ?_
      refine s_iload_n hG dX0_resizeTo_37 rfl ?_
      refine s_iconst hG (v := (3 : Int32)) dX0_resizeTo_38 (by decide) ?_
      refine s_cvP hG (as := [vI p1, vI (3 : Int32)]) (st := [vR a0]) (rm := rm_X0_groupOf) dX0_resizeTo_39 ml_RX0_63 (ha0) (tb6 (mem_i 17 rfl)) rfl ⟨rfl, rfl⟩ ⟨by decide, by decide⟩ (Nat.le_of_ble_eq_true rfl) ⟨Nat.zero_le _, Nat.zero_le _⟩ rfl (fun o h => c_X0_groupOf l _ _ _ (ha0) _ o h) (fun o39 => ?_)
      refine s_iconst hG (v := (1 : Int32)) dX0_resizeTo_42 (by decide) ?_
      refine s_iload_n hG dX0_resizeTo_43 rfl ?_
      refine s_aload_n hG dX0_resizeTo_44 rfl ?_
      refine s_iload_n hG dX0_resizeTo_45 rfl ?_
      refine s_iconst hG (v := (3 : Int32)) dX0_resizeTo_46 (by decide) ?_
      refine s_cvP hG (as := [vI p1, vI (3 : Int32)]) (st := [vI p3, vI (1 : Int32), vI o39, vR a0]) (rm := rm_X0_numberOf) dX0_resizeTo_47 ml_RX0_51 (ha0) (tb6 (mem_i 25 rfl)) rfl ⟨rfl, rfl⟩ ⟨by decide, by decide⟩ (Nat.le_of_ble_eq_true rfl) ⟨Nat.zero_le _, Nat.zero_le _⟩ rfl (fun o h => c_X0_numberOf l _ _ _ (ha0) _ o h) (fun o47 => ?_)
      refine s_isub hG dX0_resizeTo_50 ?_
      refine s_iload_n hG dX0_resizeTo_51 rfl ?_
      refine s_cvI hG (as := [vI o39, vI (1 : Int32), vI (p3 - o47), vI p1]) (st := []) (rm := rm_X0_growClass) dX0_resizeTo_52 ml_RX0_70 (ha0) (tb7 (mem_i 5 rfl)) rfl ⟨rfl, rfl⟩ ⟨by decide, by decide⟩ (Nat.le_of_ble_eq_true rfl) ⟨Nat.zero_le _, Nat.zero_le _⟩ rfl (fun o h => c_X0_growClass l _ _ _ _ _ (ha0) _ o h) (fun o52 => ?_)
      refine s_if_eq hG (tgt := 62) dX0_resizeTo_55 (by decide) ?_ ?_
      · refine s_lv hG [] rfl ?_
        exact hb62 _
      · refine s_iconst hG (v := (1 : Int32)) dX0_resizeTo_58 (by decide) ?_
        refine s_goto hG (tgt := 63) dX0_resizeTo_59 (by decide) ?_
        refine s_lv hG [] rfl ?_
        exact hb63 _ _
