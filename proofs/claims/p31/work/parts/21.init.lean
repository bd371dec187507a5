/-! constructors: by program (wip/p31/ctor.py) -/
theorem dX5_init_0 : decode cX5_init 0 = .ok (.aload_n 0, 1) := by decide +kernel
theorem dX5_init_1 : decode cX5_init 1 = .ok (.invokespecial 3, 3) := by decide +kernel
theorem dX5_init_4 : decode cX5_init 4 = .ok (.aload_n 0, 1) := by decide +kernel
theorem dX5_init_5 : decode cX5_init 5 = .ok (.iconst 0, 1) := by decide +kernel
theorem dX5_init_6 : decode cX5_init 6 = .ok (.putfield 9, 3) := by decide +kernel
theorem dX5_init_9 : decode cX5_init 9 = .ok (.aload_n 0, 1) := by decide +kernel
theorem dX5_init_10 : decode cX5_init 10 = .ok (.iconst 0, 1) := by decide +kernel
theorem dX5_init_11 : decode cX5_init 11 = .ok (.putfield 15, 3) := by decide +kernel
theorem dX5_init_14 : decode cX5_init 14 = .ok (.aload_n 0, 1) := by decide +kernel
theorem dX5_init_15 : decode cX5_init 15 = .ok (.bipush 10, 2) := by decide +kernel
theorem dX5_init_17 : decode cX5_init 17 = .ok (.newarray .int, 2) := by decide +kernel
theorem dX5_init_19 : decode cX5_init 19 = .ok (.putfield 18, 3) := by decide +kernel
theorem dX5_init_22 : decode cX5_init 22 = .ok (.aload_n 0, 1) := by decide +kernel
theorem dX5_init_23 : decode cX5_init 23 = .ok (.bipush 50, 2) := by decide +kernel
theorem dX5_init_25 : decode cX5_init 25 = .ok (.newarray .int, 2) := by decide +kernel
theorem dX5_init_27 : decode cX5_init 27 = .ok (.putfield 22, 3) := by decide +kernel
theorem dX5_init_30 : decode cX5_init 30 = .ok (.return_, 1) := by decide +kernel
theorem dX4_init_0 : decode cX4_init 0 = .ok (.aload_n 0, 1) := by decide +kernel
theorem dX4_init_1 : decode cX4_init 1 = .ok (.invokespecial 3, 3) := by decide +kernel
theorem dX4_init_4 : decode cX4_init 4 = .ok (.aload_n 0, 1) := by decide +kernel
theorem dX4_init_5 : decode cX4_init 5 = .ok (.iconst 0, 1) := by decide +kernel
theorem dX4_init_6 : decode cX4_init 6 = .ok (.putfield 9, 3) := by decide +kernel
theorem dX4_init_9 : decode cX4_init 9 = .ok (.aload_n 0, 1) := by decide +kernel
theorem dX4_init_10 : decode cX4_init 10 = .ok (.bipush 12, 2) := by decide +kernel
theorem dX4_init_12 : decode cX4_init 12 = .ok (.newarray .int, 2) := by decide +kernel
theorem dX4_init_14 : decode cX4_init 14 = .ok (.putfield 15, 3) := by decide +kernel
theorem dX4_init_17 : decode cX4_init 17 = .ok (.aload_n 0, 1) := by decide +kernel
theorem dX4_init_18 : decode cX4_init 18 = .ok (.bipush 12, 2) := by decide +kernel
theorem dX4_init_20 : decode cX4_init 20 = .ok (.newarray .int, 2) := by decide +kernel
theorem dX4_init_22 : decode cX4_init 22 = .ok (.putfield 19, 3) := by decide +kernel
theorem dX4_init_25 : decode cX4_init 25 = .ok (.aload_n 0, 1) := by decide +kernel
theorem dX4_init_26 : decode cX4_init 26 = .ok (.bipush 12, 2) := by decide +kernel
theorem dX4_init_28 : decode cX4_init 28 = .ok (.newarray .int, 2) := by decide +kernel
theorem dX4_init_30 : decode cX4_init 30 = .ok (.putfield 22, 3) := by decide +kernel
theorem dX4_init_33 : decode cX4_init 33 = .ok (.return_, 1) := by decide +kernel
theorem dX6_init_0 : decode cX6_init 0 = .ok (.aload_n 0, 1) := by decide +kernel
theorem dX6_init_1 : decode cX6_init 1 = .ok (.invokespecial 3, 3) := by decide +kernel
theorem dX6_init_4 : decode cX6_init 4 = .ok (.aload_n 0, 1) := by decide +kernel
theorem dX6_init_5 : decode cX6_init 5 = .ok (.iconst 0, 1) := by decide +kernel
theorem dX6_init_6 : decode cX6_init 6 = .ok (.putfield 9, 3) := by decide +kernel
theorem dX6_init_9 : decode cX6_init 9 = .ok (.aload_n 0, 1) := by decide +kernel
theorem dX6_init_10 : decode cX6_init 10 = .ok (.bipush 60, 2) := by decide +kernel
theorem dX6_init_12 : decode cX6_init 12 = .ok (.newarray .int, 2) := by decide +kernel
theorem dX6_init_14 : decode cX6_init 14 = .ok (.putfield 15, 3) := by decide +kernel
theorem dX6_init_17 : decode cX6_init 17 = .ok (.aload_n 0, 1) := by decide +kernel
theorem dX6_init_18 : decode cX6_init 18 = .ok (.bipush 60, 2) := by decide +kernel
theorem dX6_init_20 : decode cX6_init 20 = .ok (.newarray .int, 2) := by decide +kernel
theorem dX6_init_22 : decode cX6_init 22 = .ok (.putfield 19, 3) := by decide +kernel
theorem dX6_init_25 : decode cX6_init 25 = .ok (.aload_n 0, 1) := by decide +kernel
theorem dX6_init_26 : decode cX6_init 26 = .ok (.sipush 240, 3) := by decide +kernel
theorem dX6_init_29 : decode cX6_init 29 = .ok (.newarray .int, 2) := by decide +kernel
theorem dX6_init_31 : decode cX6_init 31 = .ok (.putfield 22, 3) := by decide +kernel
theorem dX6_init_34 : decode cX6_init 34 = .ok (.aload_n 0, 1) := by decide +kernel
theorem dX6_init_35 : decode cX6_init 35 = .ok (.bipush 60, 2) := by decide +kernel
theorem dX6_init_37 : decode cX6_init 37 = .ok (.newarray .int, 2) := by decide +kernel
theorem dX6_init_39 : decode cX6_init 39 = .ok (.putfield 25, 3) := by decide +kernel
theorem dX6_init_42 : decode cX6_init 42 = .ok (.aload_n 0, 1) := by decide +kernel
theorem dX6_init_43 : decode cX6_init 43 = .ok (.bipush 60, 2) := by decide +kernel
theorem dX6_init_45 : decode cX6_init 45 = .ok (.newarray .int, 2) := by decide +kernel
theorem dX6_init_47 : decode cX6_init 47 = .ok (.putfield 28, 3) := by decide +kernel
theorem dX6_init_50 : decode cX6_init 50 = .ok (.aload_n 0, 1) := by decide +kernel
theorem dX6_init_51 : decode cX6_init 51 = .ok (.iconst 4, 1) := by decide +kernel
theorem dX6_init_52 : decode cX6_init 52 = .ok (.newarray .int, 2) := by decide +kernel
theorem dX6_init_54 : decode cX6_init 54 = .ok (.putfield 31, 3) := by decide +kernel
theorem dX6_init_57 : decode cX6_init 57 = .ok (.iconst 0, 1) := by decide +kernel
theorem dX6_init_58 : decode cX6_init 58 = .ok (.istore_n 1, 1) := by decide +kernel
theorem dX6_init_59 : decode cX6_init 59 = .ok (.iload_n 1, 1) := by decide +kernel
theorem dX6_init_60 : decode cX6_init 60 = .ok (.aload_n 0, 1) := by decide +kernel
theorem dX6_init_61 : decode cX6_init 61 = .ok (.getfield 31, 3) := by decide +kernel
theorem dX6_init_64 : decode cX6_init 64 = .ok (.arraylength, 1) := by decide +kernel
theorem dX6_init_65 : decode cX6_init 65 = .ok (.if_icmp .ge 16, 3) := by decide +kernel
theorem dX6_init_68 : decode cX6_init 68 = .ok (.aload_n 0, 1) := by decide +kernel
theorem dX6_init_69 : decode cX6_init 69 = .ok (.getfield 31, 3) := by decide +kernel
theorem dX6_init_72 : decode cX6_init 72 = .ok (.iload_n 1, 1) := by decide +kernel
theorem dX6_init_73 : decode cX6_init 73 = .ok (.iconst (-1), 1) := by decide +kernel
theorem dX6_init_74 : decode cX6_init 74 = .ok (.iastore, 1) := by decide +kernel
theorem dX6_init_75 : decode cX6_init 75 = .ok (.iinc 1 1, 3) := by decide +kernel
theorem dX6_init_78 : decode cX6_init 78 = .ok (.goto (-19), 3) := by decide +kernel
theorem dX6_init_81 : decode cX6_init 81 = .ok (.return_, 1) := by decide +kernel
theorem dX0_init_0 : decode cX0_init 0 = .ok (.aload_n 0, 1) := by decide +kernel
theorem dX0_init_1 : decode cX0_init 1 = .ok (.invokespecial 3, 3) := by decide +kernel
theorem dX0_init_4 : decode cX0_init 4 = .ok (.aload_n 0, 1) := by decide +kernel
theorem dX0_init_5 : decode cX0_init 5 = .ok (.bipush 40, 2) := by decide +kernel
theorem dX0_init_7 : decode cX0_init 7 = .ok (.newarray .int, 2) := by decide +kernel
theorem dX0_init_9 : decode cX0_init 9 = .ok (.putfield 9, 3) := by decide +kernel
theorem dX0_init_12 : decode cX0_init 12 = .ok (.aload_n 0, 1) := by decide +kernel
theorem dX0_init_13 : decode cX0_init 13 = .ok (.bipush 24, 2) := by decide +kernel
theorem dX0_init_15 : decode cX0_init 15 = .ok (.newarray .int, 2) := by decide +kernel
theorem dX0_init_17 : decode cX0_init 17 = .ok (.putfield 15, 3) := by decide +kernel
theorem dX0_init_20 : decode cX0_init 20 = .ok (.aload_n 0, 1) := by decide +kernel
theorem dX0_init_21 : decode cX0_init 21 = .ok (.iconst 0, 1) := by decide +kernel
theorem dX0_init_22 : decode cX0_init 22 = .ok (.putfield 18, 3) := by decide +kernel
theorem dX0_init_25 : decode cX0_init 25 = .ok (.aload_n 0, 1) := by decide +kernel
theorem dX0_init_26 : decode cX0_init 26 = .ok (.iconst 0, 1) := by decide +kernel
theorem dX0_init_27 : decode cX0_init 27 = .ok (.putfield 22, 3) := by decide +kernel
theorem dX0_init_30 : decode cX0_init 30 = .ok (.aload_n 0, 1) := by decide +kernel
theorem dX0_init_31 : decode cX0_init 31 = .ok (.aload_n 1, 1) := by decide +kernel
theorem dX0_init_32 : decode cX0_init 32 = .ok (.putfield 25, 3) := by decide +kernel
theorem dX0_init_35 : decode cX0_init 35 = .ok (.aload_n 0, 1) := by decide +kernel
theorem dX0_init_36 : decode cX0_init 36 = .ok (.aload_n 2, 1) := by decide +kernel
theorem dX0_init_37 : decode cX0_init 37 = .ok (.putfield 29, 3) := by decide +kernel
theorem dX0_init_40 : decode cX0_init 40 = .ok (.aload_n 0, 1) := by decide +kernel
theorem dX0_init_41 : decode cX0_init 41 = .ok (.iload_n 3, 1) := by decide +kernel
theorem dX0_init_42 : decode cX0_init 42 = .ok (.putfield 33, 3) := by decide +kernel
theorem dX0_init_45 : decode cX0_init 45 = .ok (.return_, 1) := by decide +kernel
theorem dX3_init_0 : decode cX3_init 0 = .ok (.aload_n 0, 1) := by decide +kernel
theorem dX3_init_1 : decode cX3_init 1 = .ok (.invokespecial 3, 3) := by decide +kernel
theorem dX3_init_4 : decode cX3_init 4 = .ok (.aload_n 0, 1) := by decide +kernel
theorem dX3_init_5 : decode cX3_init 5 = .ok (.lconst 0, 1) := by decide +kernel
theorem dX3_init_6 : decode cX3_init 6 = .ok (.putfield 9, 3) := by decide +kernel
theorem dX3_init_9 : decode cX3_init 9 = .ok (.aload_n 0, 1) := by decide +kernel
theorem dX3_init_10 : decode cX3_init 10 = .ok (.aload_n 3, 1) := by decide +kernel
theorem dX3_init_11 : decode cX3_init 11 = .ok (.putfield 15, 3) := by decide +kernel
theorem dX3_init_14 : decode cX3_init 14 = .ok (.aload_n 0, 1) := by decide +kernel
theorem dX3_init_15 : decode cX3_init 15 = .ok (.new 19, 3) := by decide +kernel
theorem dX3_init_18 : decode cX3_init 18 = .ok (.dup, 1) := by decide +kernel
theorem dX3_init_19 : decode cX3_init 19 = .ok (.aload_n 1, 1) := by decide +kernel
theorem dX3_init_20 : decode cX3_init 20 = .ok (.aload_n 2, 1) := by decide +kernel
theorem dX3_init_21 : decode cX3_init 21 = .ok (.iload 4, 2) := by decide +kernel
theorem dX3_init_23 : decode cX3_init 23 = .ok (.invokespecial 21, 3) := by decide +kernel
theorem dX3_init_26 : decode cX3_init 26 = .ok (.putfield 24, 3) := by decide +kernel
theorem dX3_init_29 : decode cX3_init 29 = .ok (.aload_n 0, 1) := by decide +kernel
theorem dX3_init_30 : decode cX3_init 30 = .ok (.new 19, 3) := by decide +kernel
theorem dX3_init_33 : decode cX3_init 33 = .ok (.dup, 1) := by decide +kernel
theorem dX3_init_34 : decode cX3_init 34 = .ok (.aload_n 1, 1) := by decide +kernel
theorem dX3_init_35 : decode cX3_init 35 = .ok (.aload_n 2, 1) := by decide +kernel
theorem dX3_init_36 : decode cX3_init 36 = .ok (.iload 4, 2) := by decide +kernel
theorem dX3_init_38 : decode cX3_init 38 = .ok (.invokespecial 21, 3) := by decide +kernel
theorem dX3_init_41 : decode cX3_init 41 = .ok (.putfield 28, 3) := by decide +kernel
theorem dX3_init_44 : decode cX3_init 44 = .ok (.return_, 1) := by decide +kernel
theorem dX2_init_0 : decode cX2_init 0 = .ok (.aload_n 0, 1) := by decide +kernel
theorem dX2_init_1 : decode cX2_init 1 = .ok (.invokespecial 3, 3) := by decide +kernel
theorem dX2_init_4 : decode cX2_init 4 = .ok (.aload_n 0, 1) := by decide +kernel
theorem dX2_init_5 : decode cX2_init 5 = .ok (.iconst 0, 1) := by decide +kernel
theorem dX2_init_6 : decode cX2_init 6 = .ok (.putfield 9, 3) := by decide +kernel
theorem dX2_init_9 : decode cX2_init 9 = .ok (.aload_n 0, 1) := by decide +kernel
theorem dX2_init_10 : decode cX2_init 10 = .ok (.iconst 0, 1) := by decide +kernel
theorem dX2_init_11 : decode cX2_init 11 = .ok (.putfield 15, 3) := by decide +kernel
theorem dX2_init_14 : decode cX2_init 14 = .ok (.aload_n 0, 1) := by decide +kernel
theorem dX2_init_15 : decode cX2_init 15 = .ok (.bipush 10, 2) := by decide +kernel
theorem dX2_init_17 : decode cX2_init 17 = .ok (.newarray .long, 2) := by decide +kernel
theorem dX2_init_19 : decode cX2_init 19 = .ok (.putfield 18, 3) := by decide +kernel
theorem dX2_init_22 : decode cX2_init 22 = .ok (.aload_n 0, 1) := by decide +kernel
theorem dX2_init_23 : decode cX2_init 23 = .ok (.bipush 10, 2) := by decide +kernel
theorem dX2_init_25 : decode cX2_init 25 = .ok (.newarray .int, 2) := by decide +kernel
theorem dX2_init_27 : decode cX2_init 27 = .ok (.putfield 22, 3) := by decide +kernel
theorem dX2_init_30 : decode cX2_init 30 = .ok (.aload_n 0, 1) := by decide +kernel
theorem dX2_init_31 : decode cX2_init 31 = .ok (.sipush 3280, 3) := by decide +kernel
theorem dX2_init_34 : decode cX2_init 34 = .ok (.newarray .char, 2) := by decide +kernel
theorem dX2_init_36 : decode cX2_init 36 = .ok (.putfield 26, 3) := by decide +kernel
theorem dX2_init_39 : decode cX2_init 39 = .ok (.return_, 1) := by decide +kernel
theorem dX1_init_0 : decode cX1_init 0 = .ok (.aload_n 0, 1) := by decide +kernel
theorem dX1_init_1 : decode cX1_init 1 = .ok (.invokespecial 3, 3) := by decide +kernel
theorem dX1_init_4 : decode cX1_init 4 = .ok (.aload_n 0, 1) := by decide +kernel
theorem dX1_init_5 : decode cX1_init 5 = .ok (.sipush 328, 3) := by decide +kernel
theorem dX1_init_8 : decode cX1_init 8 = .ok (.newarray .char, 2) := by decide +kernel
theorem dX1_init_10 : decode cX1_init 10 = .ok (.putfield 9, 3) := by decide +kernel
theorem dX1_init_13 : decode cX1_init 13 = .ok (.aload_n 0, 1) := by decide +kernel
theorem dX1_init_14 : decode cX1_init 14 = .ok (.iconst 0, 1) := by decide +kernel
theorem dX1_init_15 : decode cX1_init 15 = .ok (.putfield 15, 3) := by decide +kernel
theorem dX1_init_18 : decode cX1_init 18 = .ok (.return_, 1) := by decide +kernel
theorem dX7_init_0 : decode cX7_init 0 = .ok (.aload_n 0, 1) := by decide +kernel
theorem dX7_init_1 : decode cX7_init 1 = .ok (.invokespecial 1, 3) := by decide +kernel
theorem dX7_init_4 : decode cX7_init 4 = .ok (.aload_n 0, 1) := by decide +kernel
theorem dX7_init_5 : decode cX7_init 5 = .ok (.iconst 5, 1) := by decide +kernel
theorem dX7_init_6 : decode cX7_init 6 = .ok (.newarray .int, 2) := by decide +kernel
theorem dX7_init_8 : decode cX7_init 8 = .ok (.putfield 9, 3) := by decide +kernel
theorem dX7_init_11 : decode cX7_init 11 = .ok (.aload_n 0, 1) := by decide +kernel
theorem dX7_init_12 : decode cX7_init 12 = .ok (.iconst 0, 1) := by decide +kernel
theorem dX7_init_13 : decode cX7_init 13 = .ok (.putfield 13, 3) := by decide +kernel
theorem dX7_init_16 : decode cX7_init 16 = .ok (.aload_n 0, 1) := by decide +kernel
theorem dX7_init_17 : decode cX7_init 17 = .ok (.new 17, 3) := by decide +kernel
theorem dX7_init_20 : decode cX7_init 20 = .ok (.dup, 1) := by decide +kernel
theorem dX7_init_21 : decode cX7_init 21 = .ok (.invokespecial 19, 3) := by decide +kernel
theorem dX7_init_24 : decode cX7_init 24 = .ok (.putfield 20, 3) := by decide +kernel
theorem dX7_init_27 : decode cX7_init 27 = .ok (.aload_n 0, 1) := by decide +kernel
theorem dX7_init_28 : decode cX7_init 28 = .ok (.new 24, 3) := by decide +kernel
theorem dX7_init_31 : decode cX7_init 31 = .ok (.dup, 1) := by decide +kernel
theorem dX7_init_32 : decode cX7_init 32 = .ok (.invokespecial 26, 3) := by decide +kernel
theorem dX7_init_35 : decode cX7_init 35 = .ok (.putfield 27, 3) := by decide +kernel
theorem dX7_init_38 : decode cX7_init 38 = .ok (.aload_n 0, 1) := by decide +kernel
theorem dX7_init_39 : decode cX7_init 39 = .ok (.new 31, 3) := by decide +kernel
theorem dX7_init_42 : decode cX7_init 42 = .ok (.dup, 1) := by decide +kernel
theorem dX7_init_43 : decode cX7_init 43 = .ok (.invokespecial 33, 3) := by decide +kernel
theorem dX7_init_46 : decode cX7_init 46 = .ok (.putfield 34, 3) := by decide +kernel
theorem dX7_init_49 : decode cX7_init 49 = .ok (.aload_n 0, 1) := by decide +kernel
theorem dX7_init_50 : decode cX7_init 50 = .ok (.new 38, 3) := by decide +kernel
theorem dX7_init_53 : decode cX7_init 53 = .ok (.dup, 1) := by decide +kernel
theorem dX7_init_54 : decode cX7_init 54 = .ok (.aload_n 0, 1) := by decide +kernel
theorem dX7_init_55 : decode cX7_init 55 = .ok (.getfield 20, 3) := by decide +kernel
theorem dX7_init_58 : decode cX7_init 58 = .ok (.aload_n 0, 1) := by decide +kernel
theorem dX7_init_59 : decode cX7_init 59 = .ok (.getfield 27, 3) := by decide +kernel
theorem dX7_init_62 : decode cX7_init 62 = .ok (.aload_n 0, 1) := by decide +kernel
theorem dX7_init_63 : decode cX7_init 63 = .ok (.getfield 34, 3) := by decide +kernel
theorem dX7_init_66 : decode cX7_init 66 = .ok (.iconst 0, 1) := by decide +kernel
theorem dX7_init_67 : decode cX7_init 67 = .ok (.invokespecial 40, 3) := by decide +kernel
theorem dX7_init_70 : decode cX7_init 70 = .ok (.putfield 43, 3) := by decide +kernel
theorem dX7_init_73 : decode cX7_init 73 = .ok (.aload_n 0, 1) := by decide +kernel
theorem dX7_init_74 : decode cX7_init 74 = .ok (.new 38, 3) := by decide +kernel
theorem dX7_init_77 : decode cX7_init 77 = .ok (.dup, 1) := by decide +kernel
theorem dX7_init_78 : decode cX7_init 78 = .ok (.aload_n 0, 1) := by decide +kernel
theorem dX7_init_79 : decode cX7_init 79 = .ok (.getfield 20, 3) := by decide +kernel
theorem dX7_init_82 : decode cX7_init 82 = .ok (.aload_n 0, 1) := by decide +kernel
theorem dX7_init_83 : decode cX7_init 83 = .ok (.getfield 27, 3) := by decide +kernel
theorem dX7_init_86 : decode cX7_init 86 = .ok (.aload_n 0, 1) := by decide +kernel
theorem dX7_init_87 : decode cX7_init 87 = .ok (.getfield 34, 3) := by decide +kernel
theorem dX7_init_90 : decode cX7_init 90 = .ok (.iconst 1, 1) := by decide +kernel
theorem dX7_init_91 : decode cX7_init 91 = .ok (.invokespecial 40, 3) := by decide +kernel
theorem dX7_init_94 : decode cX7_init 94 = .ok (.putfield 47, 3) := by decide +kernel
theorem dX7_init_97 : decode cX7_init 97 = .ok (.aload_n 0, 1) := by decide +kernel
theorem dX7_init_98 : decode cX7_init 98 = .ok (.new 50, 3) := by decide +kernel
theorem dX7_init_101 : decode cX7_init 101 = .ok (.dup, 1) := by decide +kernel
theorem dX7_init_102 : decode cX7_init 102 = .ok (.invokespecial 52, 3) := by decide +kernel
theorem dX7_init_105 : decode cX7_init 105 = .ok (.putfield 53, 3) := by decide +kernel
theorem dX7_init_108 : decode cX7_init 108 = .ok (.aload_n 0, 1) := by decide +kernel
theorem dX7_init_109 : decode cX7_init 109 = .ok (.new 57, 3) := by decide +kernel
theorem dX7_init_112 : decode cX7_init 112 = .ok (.dup, 1) := by decide +kernel
theorem dX7_init_113 : decode cX7_init 113 = .ok (.invokespecial 59, 3) := by decide +kernel
theorem dX7_init_116 : decode cX7_init 116 = .ok (.putfield 60, 3) := by decide +kernel
theorem dX7_init_119 : decode cX7_init 119 = .ok (.return_, 1) := by decide +kernel
theorem nfl_RX7_9 : FL RX7 9 7 0 (tyX7 0) := ⟨RX7, TX7, 9, tyX7, rfl, by decide, lyX7, tyX7_ok, nmX7, rfl, Or.inl (tb3 (mem_i 28 rfl))⟩
theorem nfo_RX7_9 : FO RX7 9 7 0 (tyX7 0) := ⟨RX7, TX7, 9, tyX7, rfl, by decide, lyX7, tyX7_ok, nmX7, rfl, tb3 (mem_i 28 rfl)⟩
theorem nff_RX7_9 : FF RX7 7 0 := fun C T N h => by cases h; exact ⟨rfl, rfl⟩
theorem nfl_RX7_13 : FL RX7 13 7 1 .int := ⟨RX7, TX7, 9, tyX7, rfl, by decide, lyX7, tyX7_ok, nmX7, rfl, Or.inl (tb3 (mem_i 29 rfl))⟩
theorem nfp_RX7_13 : FP 7 1 := fun C T N h => by cases h; rfl
theorem nw_RX7_17 : NWc RX7 17 5 4 [.int 0, .int 0, .null, .null] := ⟨RX5, TX5, tyX5, rfl, lyX5, tyX5_ok, exin (mem_i 16 (by decide +kernel)), exin (mem_i 17 (by decide +kernel)), tb0 (mem_i 2 rfl), fun j hj => by
  match j, hj with
  | 0, _ => rfl
  | 1, _ => rfl
  | 2, _ => rfl
  | 3, _ => rfl
  | j + 4, h => exact absurd h (by omega)⟩
theorem nfl_RX5_9 : FL RX5 9 5 0 .int := ⟨RX5, TX5, 4, tyX5, rfl, by decide, lyX5, tyX5_ok, nmX5, rfl, Or.inl (tb1 (mem_i 1 rfl))⟩
theorem nfp_RX5_9 : FP 5 0 := fun C T N h => by cases h; rfl
theorem nfl_RX5_15 : FL RX5 15 5 1 .int := ⟨RX5, TX5, 4, tyX5, rfl, by decide, lyX5, tyX5_ok, nmX5, rfl, Or.inl (tb1 (mem_i 2 rfl))⟩
theorem nfp_RX5_15 : FP 5 1 := fun C T N h => by cases h; rfl
theorem nfl_RX5_18 : FL RX5 18 5 2 (tyX5 2) := ⟨RX5, TX5, 4, tyX5, rfl, by decide, lyX5, tyX5_ok, nmX5, rfl, Or.inl (tb1 (mem_i 3 rfl))⟩
theorem nfo_RX5_18 : FO RX5 18 5 2 (tyX5 2) := ⟨RX5, TX5, 4, tyX5, rfl, by decide, lyX5, tyX5_ok, nmX5, rfl, tb1 (mem_i 3 rfl)⟩
theorem nff_RX5_18 : FF RX5 5 2 := fun C T N h => by cases h; exact ⟨rfl, rfl⟩
theorem nfl_RX5_22 : FL RX5 22 5 3 (tyX5 3) := ⟨RX5, TX5, 4, tyX5, rfl, by decide, lyX5, tyX5_ok, nmX5, rfl, Or.inl (tb1 (mem_i 4 rfl))⟩
theorem nfo_RX5_22 : FO RX5 22 5 3 (tyX5 3) := ⟨RX5, TX5, 4, tyX5, rfl, by decide, lyX5, tyX5_ok, nmX5, rfl, tb1 (mem_i 4 rfl)⟩
theorem nff_RX5_22 : FF RX5 5 3 := fun C T N h => by cases h; exact ⟨rfl, rfl⟩
theorem ni_RX7_19 : NIc RX7 19 yX5_init 0 := ⟨⟨by decide +kernel, by decide +kernel, by decide +kernel⟩, rfl, tb0 (mem_i 28 rfl), tb0 (mem_i 2 rfl), Or.inr ⟨_, nf0 (mem_i 0 rfl)⟩⟩
theorem nfl_RX7_20 : FL RX7 20 7 2 (tyX7 2) := ⟨RX7, TX7, 9, tyX7, rfl, by decide, lyX7, tyX7_ok, nmX7, rfl, Or.inl (tb4 (mem_i 0 rfl))⟩
theorem nfo_RX7_20 : FO RX7 20 7 2 (tyX7 2) := ⟨RX7, TX7, 9, tyX7, rfl, by decide, lyX7, tyX7_ok, nmX7, rfl, tb4 (mem_i 0 rfl)⟩
theorem nff_RX7_20 : FF RX7 7 2 := fun C T N h => by cases h; exact ⟨rfl, rfl⟩
theorem nw_RX7_24 : NWc RX7 24 4 4 [.int 0, .null, .null, .null] := ⟨RX4, TX4, tyX4, rfl, lyX4, tyX4_ok, exin (mem_i 20 (by decide +kernel)), exin (mem_i 21 (by decide +kernel)), tb0 (mem_i 3 rfl), fun j hj => by
  match j, hj with
  | 0, _ => rfl
  | 1, _ => rfl
  | 2, _ => rfl
  | 3, _ => rfl
  | j + 4, h => exact absurd h (by omega)⟩
theorem nfl_RX4_9 : FL RX4 9 4 0 .int := ⟨RX4, TX4, 4, tyX4, rfl, by decide, lyX4, tyX4_ok, nmX4, rfl, Or.inl (tb1 (mem_i 13 rfl))⟩
theorem nfp_RX4_9 : FP 4 0 := fun C T N h => by cases h; rfl
theorem nfl_RX4_15 : FL RX4 15 4 1 (tyX4 1) := ⟨RX4, TX4, 4, tyX4, rfl, by decide, lyX4, tyX4_ok, nmX4, rfl, Or.inl (tb1 (mem_i 14 rfl))⟩
theorem nfo_RX4_15 : FO RX4 15 4 1 (tyX4 1) := ⟨RX4, TX4, 4, tyX4, rfl, by decide, lyX4, tyX4_ok, nmX4, rfl, tb1 (mem_i 14 rfl)⟩
theorem nff_RX4_15 : FF RX4 4 1 := fun C T N h => by cases h; exact ⟨rfl, rfl⟩
theorem nfl_RX4_19 : FL RX4 19 4 2 (tyX4 2) := ⟨RX4, TX4, 4, tyX4, rfl, by decide, lyX4, tyX4_ok, nmX4, rfl, Or.inl (tb1 (mem_i 15 rfl))⟩
theorem nfo_RX4_19 : FO RX4 19 4 2 (tyX4 2) := ⟨RX4, TX4, 4, tyX4, rfl, by decide, lyX4, tyX4_ok, nmX4, rfl, tb1 (mem_i 15 rfl)⟩
theorem nff_RX4_19 : FF RX4 4 2 := fun C T N h => by cases h; exact ⟨rfl, rfl⟩
theorem nfl_RX4_22 : FL RX4 22 4 3 (tyX4 3) := ⟨RX4, TX4, 4, tyX4, rfl, by decide, lyX4, tyX4_ok, nmX4, rfl, Or.inl (tb1 (mem_i 16 rfl))⟩
theorem nfo_RX4_22 : FO RX4 22 4 3 (tyX4 3) := ⟨RX4, TX4, 4, tyX4, rfl, by decide, lyX4, tyX4_ok, nmX4, rfl, tb1 (mem_i 16 rfl)⟩
theorem nff_RX4_22 : FF RX4 4 3 := fun C T N h => by cases h; exact ⟨rfl, rfl⟩
theorem ni_RX7_26 : NIc RX7 26 yX4_init 0 := ⟨⟨by decide +kernel, by decide +kernel, by decide +kernel⟩, rfl, tb1 (mem_i 10 rfl), tb0 (mem_i 3 rfl), Or.inr ⟨_, nf0 (mem_i 2 rfl)⟩⟩
theorem nfl_RX7_27 : FL RX7 27 7 3 (tyX7 3) := ⟨RX7, TX7, 9, tyX7, rfl, by decide, lyX7, tyX7_ok, nmX7, rfl, Or.inl (tb4 (mem_i 1 rfl))⟩
theorem nfo_RX7_27 : FO RX7 27 7 3 (tyX7 3) := ⟨RX7, TX7, 9, tyX7, rfl, by decide, lyX7, tyX7_ok, nmX7, rfl, tb4 (mem_i 1 rfl)⟩
theorem nff_RX7_27 : FF RX7 7 3 := fun C T N h => by cases h; exact ⟨rfl, rfl⟩
theorem nw_RX7_31 : NWc RX7 31 6 7 [.int 0, .null, .null, .null, .null, .null, .null] := ⟨RX6, TX6, tyX6, rfl, lyX6, tyX6_ok, exin (mem_i 24 (by decide +kernel)), exin (mem_i 25 (by decide +kernel)), tb0 (mem_i 4 rfl), fun j hj => by
  match j, hj with
  | 0, _ => rfl
  | 1, _ => rfl
  | 2, _ => rfl
  | 3, _ => rfl
  | 4, _ => rfl
  | 5, _ => rfl
  | 6, _ => rfl
  | j + 7, h => exact absurd h (by omega)⟩
theorem nfl_RX6_9 : FL RX6 9 6 0 .int := ⟨RX6, TX6, 7, tyX6, rfl, by decide, lyX6, tyX6_ok, nmX6, rfl, Or.inl (tb1 (mem_i 24 rfl))⟩
theorem nfp_RX6_9 : FP 6 0 := fun C T N h => by cases h; rfl
theorem nfl_RX6_15 : FL RX6 15 6 1 (tyX6 1) := ⟨RX6, TX6, 7, tyX6, rfl, by decide, lyX6, tyX6_ok, nmX6, rfl, Or.inl (tb1 (mem_i 25 rfl))⟩
theorem nfo_RX6_15 : FO RX6 15 6 1 (tyX6 1) := ⟨RX6, TX6, 7, tyX6, rfl, by decide, lyX6, tyX6_ok, nmX6, rfl, tb1 (mem_i 25 rfl)⟩
theorem nff_RX6_15 : FF RX6 6 1 := fun C T N h => by cases h; exact ⟨rfl, rfl⟩
theorem nfl_RX6_19 : FL RX6 19 6 2 (tyX6 2) := ⟨RX6, TX6, 7, tyX6, rfl, by decide, lyX6, tyX6_ok, nmX6, rfl, Or.inl (tb1 (mem_i 26 rfl))⟩
theorem nfo_RX6_19 : FO RX6 19 6 2 (tyX6 2) := ⟨RX6, TX6, 7, tyX6, rfl, by decide, lyX6, tyX6_ok, nmX6, rfl, tb1 (mem_i 26 rfl)⟩
theorem nff_RX6_19 : FF RX6 6 2 := fun C T N h => by cases h; exact ⟨rfl, rfl⟩
theorem nfl_RX6_22 : FL RX6 22 6 3 (tyX6 3) := ⟨RX6, TX6, 7, tyX6, rfl, by decide, lyX6, tyX6_ok, nmX6, rfl, Or.inl (tb1 (mem_i 27 rfl))⟩
theorem nfo_RX6_22 : FO RX6 22 6 3 (tyX6 3) := ⟨RX6, TX6, 7, tyX6, rfl, by decide, lyX6, tyX6_ok, nmX6, rfl, tb1 (mem_i 27 rfl)⟩
theorem nff_RX6_22 : FF RX6 6 3 := fun C T N h => by cases h; exact ⟨rfl, rfl⟩
theorem nfl_RX6_25 : FL RX6 25 6 4 (tyX6 4) := ⟨RX6, TX6, 7, tyX6, rfl, by decide, lyX6, tyX6_ok, nmX6, rfl, Or.inl (tb1 (mem_i 28 rfl))⟩
theorem nfo_RX6_25 : FO RX6 25 6 4 (tyX6 4) := ⟨RX6, TX6, 7, tyX6, rfl, by decide, lyX6, tyX6_ok, nmX6, rfl, tb1 (mem_i 28 rfl)⟩
theorem nff_RX6_25 : FF RX6 6 4 := fun C T N h => by cases h; exact ⟨rfl, rfl⟩
theorem nfl_RX6_28 : FL RX6 28 6 5 (tyX6 5) := ⟨RX6, TX6, 7, tyX6, rfl, by decide, lyX6, tyX6_ok, nmX6, rfl, Or.inl (tb1 (mem_i 29 rfl))⟩
theorem nfo_RX6_28 : FO RX6 28 6 5 (tyX6 5) := ⟨RX6, TX6, 7, tyX6, rfl, by decide, lyX6, tyX6_ok, nmX6, rfl, tb1 (mem_i 29 rfl)⟩
theorem nff_RX6_28 : FF RX6 6 5 := fun C T N h => by cases h; exact ⟨rfl, rfl⟩
theorem nfl_RX6_31 : FL RX6 31 6 6 (tyX6 6) := ⟨RX6, TX6, 7, tyX6, rfl, by decide, lyX6, tyX6_ok, nmX6, rfl, Or.inl (tb2 (mem_i 0 rfl))⟩
theorem nfo_RX6_31 : FO RX6 31 6 6 (tyX6 6) := ⟨RX6, TX6, 7, tyX6, rfl, by decide, lyX6, tyX6_ok, nmX6, rfl, tb2 (mem_i 0 rfl)⟩
theorem nff_RX6_31 : FF RX6 6 6 := fun C T N h => by cases h; exact ⟨rfl, rfl⟩
theorem ni_RX7_33 : NIc RX7 33 yX6_init 0 := ⟨⟨by decide +kernel, by decide +kernel, by decide +kernel⟩, rfl, tb1 (mem_i 21 rfl), tb0 (mem_i 4 rfl), Or.inr ⟨_, nf0 (mem_i 10 rfl)⟩⟩
theorem nfl_RX7_34 : FL RX7 34 7 4 (tyX7 4) := ⟨RX7, TX7, 9, tyX7, rfl, by decide, lyX7, tyX7_ok, nmX7, rfl, Or.inl (tb4 (mem_i 2 rfl))⟩
theorem nfo_RX7_34 : FO RX7 34 7 4 (tyX7 4) := ⟨RX7, TX7, 9, tyX7, rfl, by decide, lyX7, tyX7_ok, nmX7, rfl, tb4 (mem_i 2 rfl)⟩
theorem nff_RX7_34 : FF RX7 7 4 := fun C T N h => by cases h; exact ⟨rfl, rfl⟩
theorem nw_RX7_38 : NWc RX7 38 3 4 [.null, .null, .null, .long 0] := ⟨RX3, TX3, tyX3, rfl, lyX3, tyX3_ok, exin (mem_i 28 (by decide +kernel)), exin (mem_i 29 (by decide +kernel)), tb0 (mem_i 5 rfl), fun j hj => by
  match j, hj with
  | 0, _ => rfl
  | 1, _ => rfl
  | 2, _ => rfl
  | 3, _ => rfl
  | j + 4, h => exact absurd h (by omega)⟩
theorem nfl_RX3_9 : FL RX3 9 3 3 .long := ⟨RX3, TX3, 4, tyX3, rfl, by decide, lyX3, tyX3_ok, nmX3, rfl, Or.inl (tb3 (mem_i 1 rfl))⟩
theorem nfp_RX3_9 : FP 3 3 := fun C T N h => by cases h; rfl
theorem nfl_RX3_15 : FL RX3 15 3 0 (tyX3 0) := ⟨RX3, TX3, 4, tyX3, rfl, by decide, lyX3, tyX3_ok, nmX3, rfl, Or.inl (tb2 (mem_i 28 rfl))⟩
theorem nfo_RX3_15 : FO RX3 15 3 0 (tyX3 0) := ⟨RX3, TX3, 4, tyX3, rfl, by decide, lyX3, tyX3_ok, nmX3, rfl, tb2 (mem_i 28 rfl)⟩
theorem nff_RX3_15 : FF RX3 3 0 := fun C T N h => by cases h; exact ⟨rfl, rfl⟩
theorem nw_RX3_19 : NWc RX3 19 0 7 [.null, .null, .int 0, .null, .null, .int 0, .int 0] := ⟨RX0, TX0, tyX0, rfl, lyX0, tyX0_ok, exin (mem_i 31 (by decide +kernel)), exin (mem_i 32 (by decide +kernel)), tb0 (mem_i 6 rfl), fun j hj => by
  match j, hj with
  | 0, _ => rfl
  | 1, _ => rfl
  | 2, _ => rfl
  | 3, _ => rfl
  | 4, _ => rfl
  | 5, _ => rfl
  | 6, _ => rfl
  | j + 7, h => exact absurd h (by omega)⟩
theorem nfl_RX0_9 : FL RX0 9 0 3 (tyX0 3) := ⟨RX0, TX0, 7, tyX0, rfl, by decide, lyX0, tyX0_ok, nmX0, rfl, Or.inl (tb2 (mem_i 17 rfl))⟩
theorem nfo_RX0_9 : FO RX0 9 0 3 (tyX0 3) := ⟨RX0, TX0, 7, tyX0, rfl, by decide, lyX0, tyX0_ok, nmX0, rfl, tb2 (mem_i 17 rfl)⟩
theorem nff_RX0_9 : FF RX0 0 3 := fun C T N h => by cases h; exact ⟨rfl, rfl⟩
theorem nfl_RX0_15 : FL RX0 15 0 4 (tyX0 4) := ⟨RX0, TX0, 7, tyX0, rfl, by decide, lyX0, tyX0_ok, nmX0, rfl, Or.inl (tb2 (mem_i 18 rfl))⟩
theorem nfo_RX0_15 : FO RX0 15 0 4 (tyX0 4) := ⟨RX0, TX0, 7, tyX0, rfl, by decide, lyX0, tyX0_ok, nmX0, rfl, tb2 (mem_i 18 rfl)⟩
theorem nff_RX0_15 : FF RX0 0 4 := fun C T N h => by cases h; exact ⟨rfl, rfl⟩
theorem nfl_RX0_18 : FL RX0 18 0 5 .int := ⟨RX0, TX0, 7, tyX0, rfl, by decide, lyX0, tyX0_ok, nmX0, rfl, Or.inl (tb2 (mem_i 19 rfl))⟩
theorem nfp_RX0_18 : FP 0 5 := fun C T N h => by cases h; rfl
theorem nfl_RX0_22 : FL RX0 22 0 6 .int := ⟨RX0, TX0, 7, tyX0, rfl, by decide, lyX0, tyX0_ok, nmX0, rfl, Or.inl (tb2 (mem_i 20 rfl))⟩
theorem nfp_RX0_22 : FP 0 6 := fun C T N h => by cases h; rfl
theorem nfl_RX0_25 : FL RX0 25 0 0 (tyX0 0) := ⟨RX0, TX0, 7, tyX0, rfl, by decide, lyX0, tyX0_ok, nmX0, rfl, Or.inl (tb2 (mem_i 14 rfl))⟩
theorem nfo_RX0_25 : FO RX0 25 0 0 (tyX0 0) := ⟨RX0, TX0, 7, tyX0, rfl, by decide, lyX0, tyX0_ok, nmX0, rfl, tb2 (mem_i 14 rfl)⟩
theorem nff_RX0_25 : FF RX0 0 0 := fun C T N h => by cases h; exact ⟨rfl, rfl⟩
theorem nfl_RX0_29 : FL RX0 29 0 1 (tyX0 1) := ⟨RX0, TX0, 7, tyX0, rfl, by decide, lyX0, tyX0_ok, nmX0, rfl, Or.inl (tb2 (mem_i 15 rfl))⟩
theorem nfo_RX0_29 : FO RX0 29 0 1 (tyX0 1) := ⟨RX0, TX0, 7, tyX0, rfl, by decide, lyX0, tyX0_ok, nmX0, rfl, tb2 (mem_i 15 rfl)⟩
theorem nff_RX0_29 : FF RX0 0 1 := fun C T N h => by cases h; exact ⟨rfl, rfl⟩
theorem nfl_RX0_33 : FL RX0 33 0 2 .boolean := ⟨RX0, TX0, 7, tyX0, rfl, by decide, lyX0, tyX0_ok, nmX0, rfl, Or.inl (tb2 (mem_i 16 rfl))⟩
theorem nfo_RX0_33 : FO RX0 33 0 2 .boolean := ⟨RX0, TX0, 7, tyX0, rfl, by decide, lyX0, tyX0_ok, nmX0, rfl, tb2 (mem_i 16 rfl)⟩
theorem nff_RX0_33 : FF RX0 0 2 := fun C T N h => by cases h; exact ⟨rfl, rfl⟩
theorem ni_RX3_21 : NIc RX3 21 yX0_init 3 := ⟨⟨by decide +kernel, by decide +kernel, by decide +kernel⟩, rfl, tb2 (mem_i 11 rfl), tb0 (mem_i 6 rfl), Or.inr ⟨_, nf0 (mem_i 13 rfl)⟩⟩
theorem nfl_RX3_24 : FL RX3 24 3 1 (tyX3 1) := ⟨RX3, TX3, 4, tyX3, rfl, by decide, lyX3, tyX3_ok, nmX3, rfl, Or.inl (tb2 (mem_i 29 rfl))⟩
theorem nfp_RX3_24 : FP 3 1 := fun C T N h => by cases h; rfl
theorem nfl_RX3_28 : FL RX3 28 3 2 (tyX3 2) := ⟨RX3, TX3, 4, tyX3, rfl, by decide, lyX3, tyX3_ok, nmX3, rfl, Or.inl (tb3 (mem_i 0 rfl))⟩
theorem nfp_RX3_28 : FP 3 2 := fun C T N h => by cases h; rfl
theorem ni_RX7_40 : NIc RX7 40 yX3_init 4 := ⟨⟨by decide +kernel, by decide +kernel, by decide +kernel⟩, rfl, tb2 (mem_i 8 rfl), tb0 (mem_i 5 rfl), Or.inr ⟨_, nf0 (mem_i 12 rfl)⟩⟩
theorem nfl_RX7_43 : FL RX7 43 7 5 (tyX7 5) := ⟨RX7, TX7, 9, tyX7, rfl, by decide, lyX7, tyX7_ok, nmX7, rfl, Or.inl (tb4 (mem_i 3 rfl))⟩
theorem nfo_RX7_43 : FO RX7 43 7 5 (tyX7 5) := ⟨RX7, TX7, 9, tyX7, rfl, by decide, lyX7, tyX7_ok, nmX7, rfl, tb4 (mem_i 3 rfl)⟩
theorem nff_RX7_43 : FF RX7 7 5 := fun C T N h => by cases h; exact ⟨rfl, rfl⟩
theorem nfl_RX7_47 : FL RX7 47 7 6 (tyX7 6) := ⟨RX7, TX7, 9, tyX7, rfl, by decide, lyX7, tyX7_ok, nmX7, rfl, Or.inl (tb4 (mem_i 4 rfl))⟩
theorem nfo_RX7_47 : FO RX7 47 7 6 (tyX7 6) := ⟨RX7, TX7, 9, tyX7, rfl, by decide, lyX7, tyX7_ok, nmX7, rfl, tb4 (mem_i 4 rfl)⟩
theorem nff_RX7_47 : FF RX7 7 6 := fun C T N h => by cases h; exact ⟨rfl, rfl⟩
theorem nw_RX7_50 : NWc RX7 50 2 5 [.int 0, .int 0, .null, .null, .null] := ⟨RX2, TX2, tyX2, rfl, lyX2, tyX2_ok, exin (mem_i 36 (by decide +kernel)), exin (mem_i 37 (by decide +kernel)), tb0 (mem_i 7 rfl), fun j hj => by
  match j, hj with
  | 0, _ => rfl
  | 1, _ => rfl
  | 2, _ => rfl
  | 3, _ => rfl
  | 4, _ => rfl
  | j + 5, h => exact absurd h (by omega)⟩
theorem nfl_RX2_9 : FL RX2 9 2 0 .int := ⟨RX2, TX2, 5, tyX2, rfl, by decide, lyX2, tyX2_ok, nmX2, rfl, Or.inl (tb3 (mem_i 9 rfl))⟩
theorem nfp_RX2_9 : FP 2 0 := fun C T N h => by cases h; rfl
theorem nfl_RX2_15 : FL RX2 15 2 1 .int := ⟨RX2, TX2, 5, tyX2, rfl, by decide, lyX2, tyX2_ok, nmX2, rfl, Or.inl (tb3 (mem_i 10 rfl))⟩
theorem nfp_RX2_15 : FP 2 1 := fun C T N h => by cases h; rfl
theorem nfl_RX2_18 : FL RX2 18 2 2 (tyX2 2) := ⟨RX2, TX2, 5, tyX2, rfl, by decide, lyX2, tyX2_ok, nmX2, rfl, Or.inl (tb3 (mem_i 11 rfl))⟩
theorem nfo_RX2_18 : FO RX2 18 2 2 (tyX2 2) := ⟨RX2, TX2, 5, tyX2, rfl, by decide, lyX2, tyX2_ok, nmX2, rfl, tb3 (mem_i 11 rfl)⟩
theorem nff_RX2_18 : FF RX2 2 2 := fun C T N h => by cases h; exact ⟨rfl, rfl⟩
theorem nfl_RX2_22 : FL RX2 22 2 3 (tyX2 3) := ⟨RX2, TX2, 5, tyX2, rfl, by decide, lyX2, tyX2_ok, nmX2, rfl, Or.inl (tb3 (mem_i 12 rfl))⟩
theorem nfo_RX2_22 : FO RX2 22 2 3 (tyX2 3) := ⟨RX2, TX2, 5, tyX2, rfl, by decide, lyX2, tyX2_ok, nmX2, rfl, tb3 (mem_i 12 rfl)⟩
theorem nff_RX2_22 : FF RX2 2 3 := fun C T N h => by cases h; exact ⟨rfl, rfl⟩
theorem nfl_RX2_26 : FL RX2 26 2 4 (tyX2 4) := ⟨RX2, TX2, 5, tyX2, rfl, by decide, lyX2, tyX2_ok, nmX2, rfl, Or.inl (tb3 (mem_i 13 rfl))⟩
theorem nfo_RX2_26 : FO RX2 26 2 4 (tyX2 4) := ⟨RX2, TX2, 5, tyX2, rfl, by decide, lyX2, tyX2_ok, nmX2, rfl, tb3 (mem_i 13 rfl)⟩
theorem nff_RX2_26 : FF RX2 2 4 := fun C T N h => by cases h; exact ⟨rfl, rfl⟩
theorem ni_RX7_52 : NIc RX7 52 yX2_init 0 := ⟨⟨by decide +kernel, by decide +kernel, by decide +kernel⟩, rfl, tb3 (mem_i 6 rfl), tb0 (mem_i 7 rfl), Or.inr ⟨_, nf0 (mem_i 21 rfl)⟩⟩
theorem nfl_RX7_53 : FL RX7 53 7 7 (tyX7 7) := ⟨RX7, TX7, 9, tyX7, rfl, by decide, lyX7, tyX7_ok, nmX7, rfl, Or.inl (tb4 (mem_i 5 rfl))⟩
theorem nfo_RX7_53 : FO RX7 53 7 7 (tyX7 7) := ⟨RX7, TX7, 9, tyX7, rfl, by decide, lyX7, tyX7_ok, nmX7, rfl, tb4 (mem_i 5 rfl)⟩
theorem nff_RX7_53 : FF RX7 7 7 := fun C T N h => by cases h; exact ⟨rfl, rfl⟩
theorem nw_RX7_57 : NWc RX7 57 1 2 [.null, .int 0] := ⟨RX1, TX1, tyX1, rfl, lyX1, tyX1_ok, exin (mem_i 40 (by decide +kernel)), exin (mem_i 41 (by decide +kernel)), tb0 (mem_i 8 rfl), fun j hj => by
  match j, hj with
  | 0, _ => rfl
  | 1, _ => rfl
  | j + 2, h => exact absurd h (by omega)⟩
theorem nfl_RX1_9 : FL RX1 9 1 0 (tyX1 0) := ⟨RX1, TX1, 2, tyX1, rfl, by decide, lyX1, tyX1_ok, nmX1, rfl, Or.inl (tb3 (mem_i 24 rfl))⟩
theorem nfo_RX1_9 : FO RX1 9 1 0 (tyX1 0) := ⟨RX1, TX1, 2, tyX1, rfl, by decide, lyX1, tyX1_ok, nmX1, rfl, tb3 (mem_i 24 rfl)⟩
theorem nff_RX1_9 : FF RX1 1 0 := fun C T N h => by cases h; exact ⟨rfl, rfl⟩
theorem nfl_RX1_15 : FL RX1 15 1 1 .int := ⟨RX1, TX1, 2, tyX1, rfl, by decide, lyX1, tyX1_ok, nmX1, rfl, Or.inl (tb3 (mem_i 25 rfl))⟩
theorem nfp_RX1_15 : FP 1 1 := fun C T N h => by cases h; rfl
theorem ni_RX7_59 : NIc RX7 59 yX1_init 0 := ⟨⟨by decide +kernel, by decide +kernel, by decide +kernel⟩, rfl, tb3 (mem_i 21 rfl), tb0 (mem_i 8 rfl), Or.inr ⟨_, nf0 (mem_i 24 rfl)⟩⟩
theorem nfl_RX7_60 : FL RX7 60 7 8 (tyX7 8) := ⟨RX7, TX7, 9, tyX7, rfl, by decide, lyX7, tyX7_ok, nmX7, rfl, Or.inl (tb4 (mem_i 6 rfl))⟩
theorem nfo_RX7_60 : FO RX7 60 7 8 (tyX7 8) := ⟨RX7, TX7, 9, tyX7, rfl, by decide, lyX7, tyX7_ok, nmX7, rfl, tb4 (mem_i 6 rfl)⟩
theorem nff_RX7_60 : FF RX7 7 8 := fun C T N h => by cases h; exact ⟨rfl, rfl⟩
def rm_X5_init : Room := { frames := 1, cells := 2, slots := 60, locals := 20 }
def BW_X5_init (cA : Nat → ClassId) (h0 : Nat) (w : va_W) : Prop := ∃ q1 q2 : Nat, w = [(h0, .inr (5, [.int (0 : Int32), .int (0 : Int32), .ref q1, .ref q2])), (q1, .inl (cA 0, (10, .inl (fun _ => 0)))), (q2, .inl (cA 0, (50, .inl (fun _ => 0))))]
set_option maxRecDepth 100000 in
set_option maxHeartbeats 4000000 in
theorem c_X5_init (l : Launch) (D : va_G) (cA : Nat → ClassId) (h0 : Nat) : CtN l yX5_init cX5_init 1 rm_X5_init [.ref h0] D cA [(h0, .inr (5, [.int 0, .int 0, .null, .null]))] (BW_X5_init cA h0) := by
  refine CtN.intro (own := RX5) (lv := [(0, .ref h0)]) (by decide +kernel) rfl rfl rfl (Nat.le_of_ble_eq_true rfl) ?_
  intro sz G hG hR
  refine n_ref hG 0 dX5_init_0 rfl ?_
  refine n_obj hG dX5_init_1 (tb1 (mem_i 0 rfl)) ⟨by decide, by decide⟩ (Nat.le_of_ble_eq_true rfl) ?_
  refine n_ref hG 0 dX5_init_4 rfl ?_
  refine n_iconst hG (v := (0 : Int32)) dX5_init_5 (by decide) ?_
  refine n_put hG (ws' := [(h0, .inr (5, [.int (0 : Int32), .int 0, .null, .null]))]) 0 dX5_init_6 nfl_RX5_9 nfp_RX5_9 rfl ⟨rfl, rfl⟩ (Nat.le_of_ble_eq_true rfl) rfl ?_
  refine n_ref hG 0 dX5_init_9 rfl ?_
  refine n_iconst hG (v := (0 : Int32)) dX5_init_10 (by decide) ?_
  refine n_put hG (ws' := [(h0, .inr (5, [.int (0 : Int32), .int (0 : Int32), .null, .null]))]) 0 dX5_init_11 nfl_RX5_15 nfp_RX5_15 rfl ⟨rfl, rfl⟩ (Nat.le_of_ble_eq_true rfl) rfl ?_
  refine n_ref hG 0 dX5_init_14 rfl ?_
  refine n_bipush hG (v := (10 : Int32)) dX5_init_15 (by decide) ?_
  refine n_arr hG (t := 0) (N := 10) (x := .inl (fun _ => 0)) (ty := .int) (k' := 1) (n' := 10) dX5_init_17 (tb1 (mem_i 9 rfl)) rfl rfl (by simp) (fun _ => rfl) (by decide) rfl (Nat.le_of_ble_eq_true rfl) ⟨Nat.le_of_ble_eq_true rfl, Nat.le_of_ble_eq_true rfl⟩ rfl rfl (fun q1 => ?_)
  refine n_eq (ws' := [(h0, .inr (5, [.int (0 : Int32), .int (0 : Int32), .null, .null])), (q1, .inl (cA 0, (10, .inl (fun _ => 0))))]) rfl ?_
  refine n_putF hG (ws' := [(h0, .inr (5, [.int (0 : Int32), .int (0 : Int32), .ref q1, .null])), (q1, .inl (cA 0, (10, .inl (fun _ => 0))))]) 0 dX5_init_19 nfo_RX5_18 nff_RX5_18 rfl ⟨rfl, rfl⟩ (Nat.le_of_ble_eq_true rfl) rfl ?_
  refine n_ref hG 0 dX5_init_22 rfl ?_
  refine n_bipush hG (v := (50 : Int32)) dX5_init_23 (by decide) ?_
  refine n_arr hG (t := 0) (N := 50) (x := .inl (fun _ => 0)) (ty := .int) (k' := 2) (n' := 60) dX5_init_25 (tb1 (mem_i 9 rfl)) rfl rfl (by simp) (fun _ => rfl) (by decide) rfl (Nat.le_of_ble_eq_true rfl) ⟨Nat.le_of_ble_eq_true rfl, Nat.le_of_ble_eq_true rfl⟩ rfl rfl (fun q2 => ?_)
  refine n_eq (ws' := [(h0, .inr (5, [.int (0 : Int32), .int (0 : Int32), .ref q1, .null])), (q1, .inl (cA 0, (10, .inl (fun _ => 0)))), (q2, .inl (cA 0, (50, .inl (fun _ => 0))))]) rfl ?_
  refine n_putF hG (ws' := [(h0, .inr (5, [.int (0 : Int32), .int (0 : Int32), .ref q1, .ref q2])), (q1, .inl (cA 0, (10, .inl (fun _ => 0)))), (q2, .inl (cA 0, (50, .inl (fun _ => 0))))]) 0 dX5_init_27 nfo_RX5_22 nff_RX5_22 rfl ⟨rfl, rfl⟩ (Nat.le_of_ble_eq_true rfl) rfl ?_
  exact hR _ _ _ ⟨q1, q2, rfl⟩ dX5_init_30
def rm_X4_init : Room := { frames := 1, cells := 3, slots := 36, locals := 20 }
def BW_X4_init (cA : Nat → ClassId) (h0 : Nat) (w : va_W) : Prop := ∃ q1 q2 q3 : Nat, w = [(h0, .inr (4, [.int (0 : Int32), .ref q1, .ref q2, .ref q3])), (q1, .inl (cA 0, (12, .inl (fun _ => 0)))), (q2, .inl (cA 0, (12, .inl (fun _ => 0)))), (q3, .inl (cA 0, (12, .inl (fun _ => 0))))]
set_option maxRecDepth 100000 in
set_option maxHeartbeats 4000000 in
theorem c_X4_init (l : Launch) (D : va_G) (cA : Nat → ClassId) (h0 : Nat) : CtN l yX4_init cX4_init 1 rm_X4_init [.ref h0] D cA [(h0, .inr (4, [.int 0, .null, .null, .null]))] (BW_X4_init cA h0) := by
  refine CtN.intro (own := RX4) (lv := [(0, .ref h0)]) (by decide +kernel) rfl rfl rfl (Nat.le_of_ble_eq_true rfl) ?_
  intro sz G hG hR
  refine n_ref hG 0 dX4_init_0 rfl ?_
  refine n_obj hG dX4_init_1 (tb1 (mem_i 12 rfl)) ⟨by decide, by decide⟩ (Nat.le_of_ble_eq_true rfl) ?_
  refine n_ref hG 0 dX4_init_4 rfl ?_
  refine n_iconst hG (v := (0 : Int32)) dX4_init_5 (by decide) ?_
  refine n_put hG (ws' := [(h0, .inr (4, [.int (0 : Int32), .null, .null, .null]))]) 0 dX4_init_6 nfl_RX4_9 nfp_RX4_9 rfl ⟨rfl, rfl⟩ (Nat.le_of_ble_eq_true rfl) rfl ?_
  refine n_ref hG 0 dX4_init_9 rfl ?_
  refine n_bipush hG (v := (12 : Int32)) dX4_init_10 (by decide) ?_
  refine n_arr hG (t := 0) (N := 12) (x := .inl (fun _ => 0)) (ty := .int) (k' := 1) (n' := 12) dX4_init_12 (tb1 (mem_i 9 rfl)) rfl rfl (by simp) (fun _ => rfl) (by decide) rfl (Nat.le_of_ble_eq_true rfl) ⟨Nat.le_of_ble_eq_true rfl, Nat.le_of_ble_eq_true rfl⟩ rfl rfl (fun q1 => ?_)
  refine n_eq (ws' := [(h0, .inr (4, [.int (0 : Int32), .null, .null, .null])), (q1, .inl (cA 0, (12, .inl (fun _ => 0))))]) rfl ?_
  refine n_putF hG (ws' := [(h0, .inr (4, [.int (0 : Int32), .ref q1, .null, .null])), (q1, .inl (cA 0, (12, .inl (fun _ => 0))))]) 0 dX4_init_14 nfo_RX4_15 nff_RX4_15 rfl ⟨rfl, rfl⟩ (Nat.le_of_ble_eq_true rfl) rfl ?_
  refine n_ref hG 0 dX4_init_17 rfl ?_
  refine n_bipush hG (v := (12 : Int32)) dX4_init_18 (by decide) ?_
  refine n_arr hG (t := 0) (N := 12) (x := .inl (fun _ => 0)) (ty := .int) (k' := 2) (n' := 24) dX4_init_20 (tb1 (mem_i 9 rfl)) rfl rfl (by simp) (fun _ => rfl) (by decide) rfl (Nat.le_of_ble_eq_true rfl) ⟨Nat.le_of_ble_eq_true rfl, Nat.le_of_ble_eq_true rfl⟩ rfl rfl (fun q2 => ?_)
  refine n_eq (ws' := [(h0, .inr (4, [.int (0 : Int32), .ref q1, .null, .null])), (q1, .inl (cA 0, (12, .inl (fun _ => 0)))), (q2, .inl (cA 0, (12, .inl (fun _ => 0))))]) rfl ?_
  refine n_putF hG (ws' := [(h0, .inr (4, [.int (0 : Int32), .ref q1, .ref q2, .null])), (q1, .inl (cA 0, (12, .inl (fun _ => 0)))), (q2, .inl (cA 0, (12, .inl (fun _ => 0))))]) 0 dX4_init_22 nfo_RX4_19 nff_RX4_19 rfl ⟨rfl, rfl⟩ (Nat.le_of_ble_eq_true rfl) rfl ?_
  refine n_ref hG 0 dX4_init_25 rfl ?_
  refine n_bipush hG (v := (12 : Int32)) dX4_init_26 (by decide) ?_
  refine n_arr hG (t := 0) (N := 12) (x := .inl (fun _ => 0)) (ty := .int) (k' := 3) (n' := 36) dX4_init_28 (tb1 (mem_i 9 rfl)) rfl rfl (by simp) (fun _ => rfl) (by decide) rfl (Nat.le_of_ble_eq_true rfl) ⟨Nat.le_of_ble_eq_true rfl, Nat.le_of_ble_eq_true rfl⟩ rfl rfl (fun q3 => ?_)
  refine n_eq (ws' := [(h0, .inr (4, [.int (0 : Int32), .ref q1, .ref q2, .null])), (q1, .inl (cA 0, (12, .inl (fun _ => 0)))), (q2, .inl (cA 0, (12, .inl (fun _ => 0)))), (q3, .inl (cA 0, (12, .inl (fun _ => 0))))]) rfl ?_
  refine n_putF hG (ws' := [(h0, .inr (4, [.int (0 : Int32), .ref q1, .ref q2, .ref q3])), (q1, .inl (cA 0, (12, .inl (fun _ => 0)))), (q2, .inl (cA 0, (12, .inl (fun _ => 0)))), (q3, .inl (cA 0, (12, .inl (fun _ => 0))))]) 0 dX4_init_30 nfo_RX4_22 nff_RX4_22 rfl ⟨rfl, rfl⟩ (Nat.le_of_ble_eq_true rfl) rfl ?_
  exact hR _ _ _ ⟨q1, q2, q3, rfl⟩ dX4_init_33
def rm_X6_init : Room := { frames := 1, cells := 6, slots := 484, locals := 20 }
def BW_X6_init (cA : Nat → ClassId) (h0 : Nat) (w : va_W) : Prop := ∃ q1 q2 q3 q4 q5 q6 : Nat, w = [(h0, .inr (6, [.int (0 : Int32), .ref q1, .ref q2, .ref q3, .ref q4, .ref q5, .ref q6])), (q1, .inl (cA 0, (60, .inl (fun _ => 0)))), (q2, .inl (cA 0, (60, .inl (fun _ => 0)))), (q3, .inl (cA 0, (240, .inl (fun _ => 0)))), (q4, .inl (cA 0, (60, .inl (fun _ => 0)))), (q5, .inl (cA 0, (60, .inl (fun _ => 0)))), (q6, .inl (cA 0, (4, .inl (upd (upd (upd (upd (fun _ => 0) (0 : Int32).toNatClampNeg (-1 : Int32)) (1 : Int32).toNatClampNeg (-1 : Int32)) (2 : Int32).toNatClampNeg (-1 : Int32)) (3 : Int32).toNatClampNeg (-1 : Int32)))))]
set_option maxRecDepth 100000 in
set_option maxHeartbeats 4000000 in
theorem c_X6_init (l : Launch) (D : va_G) (cA : Nat → ClassId) (h0 : Nat) : CtN l yX6_init cX6_init 2 rm_X6_init [.ref h0] D cA [(h0, .inr (6, [.int 0, .null, .null, .null, .null, .null, .null]))] (BW_X6_init cA h0) := by
  refine CtN.intro (own := RX6) (lv := [(0, .ref h0)]) (by decide +kernel) rfl rfl rfl (Nat.le_of_ble_eq_true rfl) ?_
  intro sz G hG hR
  refine n_ref hG 0 dX6_init_0 rfl ?_
  refine n_obj hG dX6_init_1 (tb1 (mem_i 23 rfl)) ⟨by decide, by decide⟩ (Nat.le_of_ble_eq_true rfl) ?_
  refine n_ref hG 0 dX6_init_4 rfl ?_
  refine n_iconst hG (v := (0 : Int32)) dX6_init_5 (by decide) ?_
  refine n_put hG (ws' := [(h0, .inr (6, [.int (0 : Int32), .null, .null, .null, .null, .null, .null]))]) 0 dX6_init_6 nfl_RX6_9 nfp_RX6_9 rfl ⟨rfl, rfl⟩ (Nat.le_of_ble_eq_true rfl) rfl ?_
  refine n_ref hG 0 dX6_init_9 rfl ?_
  refine n_bipush hG (v := (60 : Int32)) dX6_init_10 (by decide) ?_
  refine n_arr hG (t := 0) (N := 60) (x := .inl (fun _ => 0)) (ty := .int) (k' := 1) (n' := 60) dX6_init_12 (tb1 (mem_i 9 rfl)) rfl rfl (by simp) (fun _ => rfl) (by decide) rfl (Nat.le_of_ble_eq_true rfl) ⟨Nat.le_of_ble_eq_true rfl, Nat.le_of_ble_eq_true rfl⟩ rfl rfl (fun q1 => ?_)
  refine n_eq (ws' := [(h0, .inr (6, [.int (0 : Int32), .null, .null, .null, .null, .null, .null])), (q1, .inl (cA 0, (60, .inl (fun _ => 0))))]) rfl ?_
  refine n_putF hG (ws' := [(h0, .inr (6, [.int (0 : Int32), .ref q1, .null, .null, .null, .null, .null])), (q1, .inl (cA 0, (60, .inl (fun _ => 0))))]) 0 dX6_init_14 nfo_RX6_15 nff_RX6_15 rfl ⟨rfl, rfl⟩ (Nat.le_of_ble_eq_true rfl) rfl ?_
  refine n_ref hG 0 dX6_init_17 rfl ?_
  refine n_bipush hG (v := (60 : Int32)) dX6_init_18 (by decide) ?_
  refine n_arr hG (t := 0) (N := 60) (x := .inl (fun _ => 0)) (ty := .int) (k' := 2) (n' := 120) dX6_init_20 (tb1 (mem_i 9 rfl)) rfl rfl (by simp) (fun _ => rfl) (by decide) rfl (Nat.le_of_ble_eq_true rfl) ⟨Nat.le_of_ble_eq_true rfl, Nat.le_of_ble_eq_true rfl⟩ rfl rfl (fun q2 => ?_)
  refine n_eq (ws' := [(h0, .inr (6, [.int (0 : Int32), .ref q1, .null, .null, .null, .null, .null])), (q1, .inl (cA 0, (60, .inl (fun _ => 0)))), (q2, .inl (cA 0, (60, .inl (fun _ => 0))))]) rfl ?_
  refine n_putF hG (ws' := [(h0, .inr (6, [.int (0 : Int32), .ref q1, .ref q2, .null, .null, .null, .null])), (q1, .inl (cA 0, (60, .inl (fun _ => 0)))), (q2, .inl (cA 0, (60, .inl (fun _ => 0))))]) 0 dX6_init_22 nfo_RX6_19 nff_RX6_19 rfl ⟨rfl, rfl⟩ (Nat.le_of_ble_eq_true rfl) rfl ?_
  refine n_ref hG 0 dX6_init_25 rfl ?_
  refine n_sipush hG (v := (240 : Int32)) dX6_init_26 (by decide) ?_
  refine n_arr hG (t := 0) (N := 240) (x := .inl (fun _ => 0)) (ty := .int) (k' := 3) (n' := 360) dX6_init_29 (tb1 (mem_i 9 rfl)) rfl rfl (by simp) (fun _ => rfl) (by decide) rfl (Nat.le_of_ble_eq_true rfl) ⟨Nat.le_of_ble_eq_true rfl, Nat.le_of_ble_eq_true rfl⟩ rfl rfl (fun q3 => ?_)
  refine n_eq (ws' := [(h0, .inr (6, [.int (0 : Int32), .ref q1, .ref q2, .null, .null, .null, .null])), (q1, .inl (cA 0, (60, .inl (fun _ => 0)))), (q2, .inl (cA 0, (60, .inl (fun _ => 0)))), (q3, .inl (cA 0, (240, .inl (fun _ => 0))))]) rfl ?_
  refine n_putF hG (ws' := [(h0, .inr (6, [.int (0 : Int32), .ref q1, .ref q2, .ref q3, .null, .null, .null])), (q1, .inl (cA 0, (60, .inl (fun _ => 0)))), (q2, .inl (cA 0, (60, .inl (fun _ => 0)))), (q3, .inl (cA 0, (240, .inl (fun _ => 0))))]) 0 dX6_init_31 nfo_RX6_22 nff_RX6_22 rfl ⟨rfl, rfl⟩ (Nat.le_of_ble_eq_true rfl) rfl ?_
  refine n_ref hG 0 dX6_init_34 rfl ?_
  refine n_bipush hG (v := (60 : Int32)) dX6_init_35 (by decide) ?_
  refine n_arr hG (t := 0) (N := 60) (x := .inl (fun _ => 0)) (ty := .int) (k' := 4) (n' := 420) dX6_init_37 (tb1 (mem_i 9 rfl)) rfl rfl (by simp) (fun _ => rfl) (by decide) rfl (Nat.le_of_ble_eq_true rfl) ⟨Nat.le_of_ble_eq_true rfl, Nat.le_of_ble_eq_true rfl⟩ rfl rfl (fun q4 => ?_)
  refine n_eq (ws' := [(h0, .inr (6, [.int (0 : Int32), .ref q1, .ref q2, .ref q3, .null, .null, .null])), (q1, .inl (cA 0, (60, .inl (fun _ => 0)))), (q2, .inl (cA 0, (60, .inl (fun _ => 0)))), (q3, .inl (cA 0, (240, .inl (fun _ => 0)))), (q4, .inl (cA 0, (60, .inl (fun _ => 0))))]) rfl ?_
  refine n_putF hG (ws' := [(h0, .inr (6, [.int (0 : Int32), .ref q1, .ref q2, .ref q3, .ref q4, .null, .null])), (q1, .inl (cA 0, (60, .inl (fun _ => 0)))), (q2, .inl (cA 0, (60, .inl (fun _ => 0)))), (q3, .inl (cA 0, (240, .inl (fun _ => 0)))), (q4, .inl (cA 0, (60, .inl (fun _ => 0))))]) 0 dX6_init_39 nfo_RX6_25 nff_RX6_25 rfl ⟨rfl, rfl⟩ (Nat.le_of_ble_eq_true rfl) rfl ?_
  refine n_ref hG 0 dX6_init_42 rfl ?_
  refine n_bipush hG (v := (60 : Int32)) dX6_init_43 (by decide) ?_
  refine n_arr hG (t := 0) (N := 60) (x := .inl (fun _ => 0)) (ty := .int) (k' := 5) (n' := 480) dX6_init_45 (tb1 (mem_i 9 rfl)) rfl rfl (by simp) (fun _ => rfl) (by decide) rfl (Nat.le_of_ble_eq_true rfl) ⟨Nat.le_of_ble_eq_true rfl, Nat.le_of_ble_eq_true rfl⟩ rfl rfl (fun q5 => ?_)
  refine n_eq (ws' := [(h0, .inr (6, [.int (0 : Int32), .ref q1, .ref q2, .ref q3, .ref q4, .null, .null])), (q1, .inl (cA 0, (60, .inl (fun _ => 0)))), (q2, .inl (cA 0, (60, .inl (fun _ => 0)))), (q3, .inl (cA 0, (240, .inl (fun _ => 0)))), (q4, .inl (cA 0, (60, .inl (fun _ => 0)))), (q5, .inl (cA 0, (60, .inl (fun _ => 0))))]) rfl ?_
  refine n_putF hG (ws' := [(h0, .inr (6, [.int (0 : Int32), .ref q1, .ref q2, .ref q3, .ref q4, .ref q5, .null])), (q1, .inl (cA 0, (60, .inl (fun _ => 0)))), (q2, .inl (cA 0, (60, .inl (fun _ => 0)))), (q3, .inl (cA 0, (240, .inl (fun _ => 0)))), (q4, .inl (cA 0, (60, .inl (fun _ => 0)))), (q5, .inl (cA 0, (60, .inl (fun _ => 0))))]) 0 dX6_init_47 nfo_RX6_28 nff_RX6_28 rfl ⟨rfl, rfl⟩ (Nat.le_of_ble_eq_true rfl) rfl ?_
  refine n_ref hG 0 dX6_init_50 rfl ?_
  refine n_iconst hG (v := (4 : Int32)) dX6_init_51 (by decide) ?_
  refine n_arr hG (t := 0) (N := 4) (x := .inl (fun _ => 0)) (ty := .int) (k' := 6) (n' := 484) dX6_init_52 (tb1 (mem_i 9 rfl)) rfl rfl (by simp) (fun _ => rfl) (by decide) rfl (Nat.le_of_ble_eq_true rfl) ⟨Nat.le_of_ble_eq_true rfl, Nat.le_of_ble_eq_true rfl⟩ rfl rfl (fun q6 => ?_)
  refine n_eq (ws' := [(h0, .inr (6, [.int (0 : Int32), .ref q1, .ref q2, .ref q3, .ref q4, .ref q5, .null])), (q1, .inl (cA 0, (60, .inl (fun _ => 0)))), (q2, .inl (cA 0, (60, .inl (fun _ => 0)))), (q3, .inl (cA 0, (240, .inl (fun _ => 0)))), (q4, .inl (cA 0, (60, .inl (fun _ => 0)))), (q5, .inl (cA 0, (60, .inl (fun _ => 0)))), (q6, .inl (cA 0, (4, .inl (fun _ => 0))))]) rfl ?_
  refine n_putF hG (ws' := [(h0, .inr (6, [.int (0 : Int32), .ref q1, .ref q2, .ref q3, .ref q4, .ref q5, .ref q6])), (q1, .inl (cA 0, (60, .inl (fun _ => 0)))), (q2, .inl (cA 0, (60, .inl (fun _ => 0)))), (q3, .inl (cA 0, (240, .inl (fun _ => 0)))), (q4, .inl (cA 0, (60, .inl (fun _ => 0)))), (q5, .inl (cA 0, (60, .inl (fun _ => 0)))), (q6, .inl (cA 0, (4, .inl (fun _ => 0))))]) 0 dX6_init_54 nfo_RX6_31 nff_RX6_31 rfl ⟨rfl, rfl⟩ (Nat.le_of_ble_eq_true rfl) rfl ?_
  refine n_iconst hG (v := (0 : Int32)) dX6_init_57 (by decide) ?_
  refine n_istore_n hG (lv' := [(1, .int (0 : Int32)), (0, .ref h0)]) dX6_init_58 (by decide) rfl ?_
  refine n_iload_n hG 0 dX6_init_59 rfl ?_
  refine n_ref hG 1 dX6_init_60 rfl ?_
  refine n_get hG (v := .ref q6) 0 dX6_init_61 nfl_RX6_31 rfl rfl ?_
  refine n_alen hG (t := 0) (v := (4 : Int32)) 6 dX6_init_64 rfl rfl rfl ?_
  refine n_geF hG (tgt := 81) dX6_init_65 (by decide) (by decide) ?_
  refine n_ref hG 1 dX6_init_68 rfl ?_
  refine n_get hG (v := .ref q6) 0 dX6_init_69 nfl_RX6_31 rfl rfl ?_
  refine n_iload_n hG 0 dX6_init_72 rfl ?_
  refine n_iconst hG (v := (-1 : Int32)) dX6_init_73 (by decide) ?_
  refine n_iast hG (ws' := [(h0, .inr (6, [.int (0 : Int32), .ref q1, .ref q2, .ref q3, .ref q4, .ref q5, .ref q6])), (q1, .inl (cA 0, (60, .inl (fun _ => 0)))), (q2, .inl (cA 0, (60, .inl (fun _ => 0)))), (q3, .inl (cA 0, (240, .inl (fun _ => 0)))), (q4, .inl (cA 0, (60, .inl (fun _ => 0)))), (q5, .inl (cA 0, (60, .inl (fun _ => 0)))), (q6, .inl (cA 0, (4, .inl (upd (fun _ => 0) (0 : Int32).toNatClampNeg (-1 : Int32)))))]) 6 dX6_init_74 rfl (by decide) rfl ?_
  refine n_iinc hG (v := (1 : Int32)) (lv' := [(1, .int (1 : Int32)), (0, .ref h0)]) 0 dX6_init_75 rfl (by decide) (by decide) rfl ?_
  refine n_goto hG (tgt := 59) dX6_init_78 (by decide) ?_
  refine n_iload_n hG 0 dX6_init_59 rfl ?_
  refine n_ref hG 1 dX6_init_60 rfl ?_
  refine n_get hG (v := .ref q6) 0 dX6_init_61 nfl_RX6_31 rfl rfl ?_
  refine n_alen hG (t := 0) (v := (4 : Int32)) 6 dX6_init_64 rfl rfl rfl ?_
  refine n_geF hG (tgt := 81) dX6_init_65 (by decide) (by decide) ?_
  refine n_ref hG 1 dX6_init_68 rfl ?_
  refine n_get hG (v := .ref q6) 0 dX6_init_69 nfl_RX6_31 rfl rfl ?_
  refine n_iload_n hG 0 dX6_init_72 rfl ?_
  refine n_iconst hG (v := (-1 : Int32)) dX6_init_73 (by decide) ?_
  refine n_iast hG (ws' := [(h0, .inr (6, [.int (0 : Int32), .ref q1, .ref q2, .ref q3, .ref q4, .ref q5, .ref q6])), (q1, .inl (cA 0, (60, .inl (fun _ => 0)))), (q2, .inl (cA 0, (60, .inl (fun _ => 0)))), (q3, .inl (cA 0, (240, .inl (fun _ => 0)))), (q4, .inl (cA 0, (60, .inl (fun _ => 0)))), (q5, .inl (cA 0, (60, .inl (fun _ => 0)))), (q6, .inl (cA 0, (4, .inl (upd (upd (fun _ => 0) (0 : Int32).toNatClampNeg (-1 : Int32)) (1 : Int32).toNatClampNeg (-1 : Int32)))))]) 6 dX6_init_74 rfl (by decide) rfl ?_
  refine n_iinc hG (v := (2 : Int32)) (lv' := [(1, .int (2 : Int32)), (0, .ref h0)]) 0 dX6_init_75 rfl (by decide) (by decide) rfl ?_
  refine n_goto hG (tgt := 59) dX6_init_78 (by decide) ?_
  refine n_iload_n hG 0 dX6_init_59 rfl ?_
  refine n_ref hG 1 dX6_init_60 rfl ?_
  refine n_get hG (v := .ref q6) 0 dX6_init_61 nfl_RX6_31 rfl rfl ?_
  refine n_alen hG (t := 0) (v := (4 : Int32)) 6 dX6_init_64 rfl rfl rfl ?_
  refine n_geF hG (tgt := 81) dX6_init_65 (by decide) (by decide) ?_
  refine n_ref hG 1 dX6_init_68 rfl ?_
  refine n_get hG (v := .ref q6) 0 dX6_init_69 nfl_RX6_31 rfl rfl ?_
  refine n_iload_n hG 0 dX6_init_72 rfl ?_
  refine n_iconst hG (v := (-1 : Int32)) dX6_init_73 (by decide) ?_
  refine n_iast hG (ws' := [(h0, .inr (6, [.int (0 : Int32), .ref q1, .ref q2, .ref q3, .ref q4, .ref q5, .ref q6])), (q1, .inl (cA 0, (60, .inl (fun _ => 0)))), (q2, .inl (cA 0, (60, .inl (fun _ => 0)))), (q3, .inl (cA 0, (240, .inl (fun _ => 0)))), (q4, .inl (cA 0, (60, .inl (fun _ => 0)))), (q5, .inl (cA 0, (60, .inl (fun _ => 0)))), (q6, .inl (cA 0, (4, .inl (upd (upd (upd (fun _ => 0) (0 : Int32).toNatClampNeg (-1 : Int32)) (1 : Int32).toNatClampNeg (-1 : Int32)) (2 : Int32).toNatClampNeg (-1 : Int32)))))]) 6 dX6_init_74 rfl (by decide) rfl ?_
  refine n_iinc hG (v := (3 : Int32)) (lv' := [(1, .int (3 : Int32)), (0, .ref h0)]) 0 dX6_init_75 rfl (by decide) (by decide) rfl ?_
  refine n_goto hG (tgt := 59) dX6_init_78 (by decide) ?_
  refine n_iload_n hG 0 dX6_init_59 rfl ?_
  refine n_ref hG 1 dX6_init_60 rfl ?_
  refine n_get hG (v := .ref q6) 0 dX6_init_61 nfl_RX6_31 rfl rfl ?_
  refine n_alen hG (t := 0) (v := (4 : Int32)) 6 dX6_init_64 rfl rfl rfl ?_
  refine n_geF hG (tgt := 81) dX6_init_65 (by decide) (by decide) ?_
  refine n_ref hG 1 dX6_init_68 rfl ?_
  refine n_get hG (v := .ref q6) 0 dX6_init_69 nfl_RX6_31 rfl rfl ?_
  refine n_iload_n hG 0 dX6_init_72 rfl ?_
  refine n_iconst hG (v := (-1 : Int32)) dX6_init_73 (by decide) ?_
  refine n_iast hG (ws' := [(h0, .inr (6, [.int (0 : Int32), .ref q1, .ref q2, .ref q3, .ref q4, .ref q5, .ref q6])), (q1, .inl (cA 0, (60, .inl (fun _ => 0)))), (q2, .inl (cA 0, (60, .inl (fun _ => 0)))), (q3, .inl (cA 0, (240, .inl (fun _ => 0)))), (q4, .inl (cA 0, (60, .inl (fun _ => 0)))), (q5, .inl (cA 0, (60, .inl (fun _ => 0)))), (q6, .inl (cA 0, (4, .inl (upd (upd (upd (upd (fun _ => 0) (0 : Int32).toNatClampNeg (-1 : Int32)) (1 : Int32).toNatClampNeg (-1 : Int32)) (2 : Int32).toNatClampNeg (-1 : Int32)) (3 : Int32).toNatClampNeg (-1 : Int32)))))]) 6 dX6_init_74 rfl (by decide) rfl ?_
  refine n_iinc hG (v := (4 : Int32)) (lv' := [(1, .int (4 : Int32)), (0, .ref h0)]) 0 dX6_init_75 rfl (by decide) (by decide) rfl ?_
  refine n_goto hG (tgt := 59) dX6_init_78 (by decide) ?_
  refine n_iload_n hG 0 dX6_init_59 rfl ?_
  refine n_ref hG 1 dX6_init_60 rfl ?_
  refine n_get hG (v := .ref q6) 0 dX6_init_61 nfl_RX6_31 rfl rfl ?_
  refine n_alen hG (t := 0) (v := (4 : Int32)) 6 dX6_init_64 rfl rfl rfl ?_
  refine n_geT hG (tgt := 81) dX6_init_65 (by decide) (by decide) ?_
  exact hR _ _ _ ⟨q1, q2, q3, q4, q5, q6, rfl⟩ dX6_init_81
def rm_X0_init : Room := { frames := 1, cells := 2, slots := 64, locals := 20 }
def BW_X0_init (cA : Nat → ClassId) (h0 : Nat) (r1 : Nat) (r2 : Nat) (z3 : Int32) (w : va_W) : Prop := ∃ q1 q2 : Nat, w = [(h0, .inr (0, [.ref r1, .ref r2, .int z3, .ref q1, .ref q2, .int (0 : Int32), .int (0 : Int32)])), (q1, .inl (cA 0, (40, .inl (fun _ => 0)))), (q2, .inl (cA 0, (24, .inl (fun _ => 0))))]
set_option maxRecDepth 100000 in
set_option maxHeartbeats 4000000 in
theorem c_X0_init (l : Launch) (D : va_G) (cA : Nat → ClassId) (h0 : Nat) (r1 : Nat) (r2 : Nat) (z3 : Int32) (hz : nz z3 = true) : CtN l yX0_init cX0_init 4 rm_X0_init [.ref h0, .ref r1, .ref r2, .int z3] D cA [(h0, .inr (0, [.null, .null, .int 0, .null, .null, .int 0, .int 0]))] (BW_X0_init cA h0 r1 r2 z3) := by
  refine CtN.intro (own := RX0) (lv := [(0, .ref h0), (1, .ref r1), (2, .ref r2), (3, .int z3)]) (by decide +kernel) rfl rfl rfl (Nat.le_of_ble_eq_true rfl) ?_
  intro sz G hG hR
  refine n_ref hG 0 dX0_init_0 rfl ?_
  refine n_obj hG dX0_init_1 (tb2 (mem_i 13 rfl)) ⟨by decide, by decide⟩ (Nat.le_of_ble_eq_true rfl) ?_
  refine n_ref hG 0 dX0_init_4 rfl ?_
  refine n_bipush hG (v := (40 : Int32)) dX0_init_5 (by decide) ?_
  refine n_arr hG (t := 0) (N := 40) (x := .inl (fun _ => 0)) (ty := .int) (k' := 1) (n' := 40) dX0_init_7 (tb1 (mem_i 9 rfl)) rfl rfl (by simp) (fun _ => rfl) (by decide) rfl (Nat.le_of_ble_eq_true rfl) ⟨Nat.le_of_ble_eq_true rfl, Nat.le_of_ble_eq_true rfl⟩ rfl rfl (fun q1 => ?_)
  refine n_eq (ws' := [(h0, .inr (0, [.null, .null, .int 0, .null, .null, .int 0, .int 0])), (q1, .inl (cA 0, (40, .inl (fun _ => 0))))]) rfl ?_
  refine n_putF hG (ws' := [(h0, .inr (0, [.null, .null, .int 0, .ref q1, .null, .int 0, .int 0])), (q1, .inl (cA 0, (40, .inl (fun _ => 0))))]) 0 dX0_init_9 nfo_RX0_9 nff_RX0_9 rfl ⟨rfl, rfl⟩ (Nat.le_of_ble_eq_true rfl) rfl ?_
  refine n_ref hG 0 dX0_init_12 rfl ?_
  refine n_bipush hG (v := (24 : Int32)) dX0_init_13 (by decide) ?_
  refine n_arr hG (t := 0) (N := 24) (x := .inl (fun _ => 0)) (ty := .int) (k' := 2) (n' := 64) dX0_init_15 (tb1 (mem_i 9 rfl)) rfl rfl (by simp) (fun _ => rfl) (by decide) rfl (Nat.le_of_ble_eq_true rfl) ⟨Nat.le_of_ble_eq_true rfl, Nat.le_of_ble_eq_true rfl⟩ rfl rfl (fun q2 => ?_)
  refine n_eq (ws' := [(h0, .inr (0, [.null, .null, .int 0, .ref q1, .null, .int 0, .int 0])), (q1, .inl (cA 0, (40, .inl (fun _ => 0)))), (q2, .inl (cA 0, (24, .inl (fun _ => 0))))]) rfl ?_
  refine n_putF hG (ws' := [(h0, .inr (0, [.null, .null, .int 0, .ref q1, .ref q2, .int 0, .int 0])), (q1, .inl (cA 0, (40, .inl (fun _ => 0)))), (q2, .inl (cA 0, (24, .inl (fun _ => 0))))]) 0 dX0_init_17 nfo_RX0_15 nff_RX0_15 rfl ⟨rfl, rfl⟩ (Nat.le_of_ble_eq_true rfl) rfl ?_
  refine n_ref hG 0 dX0_init_20 rfl ?_
  refine n_iconst hG (v := (0 : Int32)) dX0_init_21 (by decide) ?_
  refine n_put hG (ws' := [(h0, .inr (0, [.null, .null, .int 0, .ref q1, .ref q2, .int (0 : Int32), .int 0])), (q1, .inl (cA 0, (40, .inl (fun _ => 0)))), (q2, .inl (cA 0, (24, .inl (fun _ => 0))))]) 0 dX0_init_22 nfl_RX0_18 nfp_RX0_18 rfl ⟨rfl, rfl⟩ (Nat.le_of_ble_eq_true rfl) rfl ?_
  refine n_ref hG 0 dX0_init_25 rfl ?_
  refine n_iconst hG (v := (0 : Int32)) dX0_init_26 (by decide) ?_
  refine n_put hG (ws' := [(h0, .inr (0, [.null, .null, .int 0, .ref q1, .ref q2, .int (0 : Int32), .int (0 : Int32)])), (q1, .inl (cA 0, (40, .inl (fun _ => 0)))), (q2, .inl (cA 0, (24, .inl (fun _ => 0))))]) 0 dX0_init_27 nfl_RX0_22 nfp_RX0_22 rfl ⟨rfl, rfl⟩ (Nat.le_of_ble_eq_true rfl) rfl ?_
  refine n_ref hG 0 dX0_init_30 rfl ?_
  refine n_ref hG 1 dX0_init_31 rfl ?_
  refine n_putF hG (ws' := [(h0, .inr (0, [.ref r1, .null, .int 0, .ref q1, .ref q2, .int (0 : Int32), .int (0 : Int32)])), (q1, .inl (cA 0, (40, .inl (fun _ => 0)))), (q2, .inl (cA 0, (24, .inl (fun _ => 0))))]) 0 dX0_init_32 nfo_RX0_25 nff_RX0_25 rfl ⟨rfl, rfl⟩ (Nat.le_of_ble_eq_true rfl) rfl ?_
  refine n_ref hG 0 dX0_init_35 rfl ?_
  refine n_ref hG 2 dX0_init_36 rfl ?_
  refine n_putF hG (ws' := [(h0, .inr (0, [.ref r1, .ref r2, .int 0, .ref q1, .ref q2, .int (0 : Int32), .int (0 : Int32)])), (q1, .inl (cA 0, (40, .inl (fun _ => 0)))), (q2, .inl (cA 0, (24, .inl (fun _ => 0))))]) 0 dX0_init_37 nfo_RX0_29 nff_RX0_29 rfl ⟨rfl, rfl⟩ (Nat.le_of_ble_eq_true rfl) rfl ?_
  refine n_ref hG 0 dX0_init_40 rfl ?_
  refine n_iload_n hG 3 dX0_init_41 rfl ?_
  refine n_putF hG (ws' := [(h0, .inr (0, [.ref r1, .ref r2, .int z3, .ref q1, .ref q2, .int (0 : Int32), .int (0 : Int32)])), (q1, .inl (cA 0, (40, .inl (fun _ => 0)))), (q2, .inl (cA 0, (24, .inl (fun _ => 0))))]) 0 dX0_init_42 nfo_RX0_33 nff_RX0_33 rfl (nz_ok hz) (Nat.le_of_ble_eq_true rfl) rfl ?_
  exact hR _ _ _ ⟨q1, q2, rfl⟩ dX0_init_45
def rm_X3_init : Room := { frames := 2, cells := 6, slots := 142, locals := 43 }
def BW_X3_init (cA : Nat → ClassId) (h0 : Nat) (r1 : Nat) (r2 : Nat) (r3 : Nat) (z4 : Int32) (w : va_W) : Prop := ∃ q1 q2 q3 q4 q5 q6 : Nat, w = [(h0, .inr (3, [.ref r3, .ref q1, .ref q4, .long 0])), (q1, .inr (0, [.ref r1, .ref r2, .int z4, .ref q2, .ref q3, .int (0 : Int32), .int (0 : Int32)])), (q2, .inl (cA 0, (40, .inl (fun _ => 0)))), (q3, .inl (cA 0, (24, .inl (fun _ => 0)))), (q4, .inr (0, [.ref r1, .ref r2, .int z4, .ref q5, .ref q6, .int (0 : Int32), .int (0 : Int32)])), (q5, .inl (cA 0, (40, .inl (fun _ => 0)))), (q6, .inl (cA 0, (24, .inl (fun _ => 0))))]
set_option maxRecDepth 100000 in
set_option maxHeartbeats 4000000 in
theorem c_X3_init (l : Launch) (D : va_G) (cA : Nat → ClassId) (h0 : Nat) (r1 : Nat) (r2 : Nat) (r3 : Nat) (z4 : Int32) (hz : nz z4 = true) : CtN l yX3_init cX3_init 5 rm_X3_init [.ref h0, .ref r1, .ref r2, .ref r3, .int z4] D cA [(h0, .inr (3, [.null, .null, .null, .long 0]))] (BW_X3_init cA h0 r1 r2 r3 z4) := by
  refine CtN.intro (own := RX3) (lv := [(0, .ref h0), (1, .ref r1), (2, .ref r2), (3, .ref r3), (4, .int z4)]) (by decide +kernel) rfl rfl rfl (Nat.le_of_ble_eq_true rfl) ?_
  intro sz G hG hR
  refine n_ref hG 0 dX3_init_0 rfl ?_
  refine n_obj hG dX3_init_1 (tb2 (mem_i 10 rfl)) ⟨by decide, by decide⟩ (Nat.le_of_ble_eq_true rfl) ?_
  refine n_ref hG 0 dX3_init_4 rfl ?_
  refine n_lconst hG (v := 0) dX3_init_5 (by decide) ?_
  refine n_put hG (ws' := [(h0, .inr (3, [.null, .null, .null, .long 0]))]) 0 dX3_init_6 nfl_RX3_9 nfp_RX3_9 rfl ⟨rfl, rfl⟩ (Nat.le_of_ble_eq_true rfl) rfl ?_
  refine n_ref hG 0 dX3_init_9 rfl ?_
  refine n_ref hG 3 dX3_init_10 rfl ?_
  refine n_putF hG (ws' := [(h0, .inr (3, [.ref r3, .null, .null, .long 0]))]) 0 dX3_init_11 nfo_RX3_15 nff_RX3_15 rfl ⟨rfl, rfl⟩ (Nat.le_of_ble_eq_true rfl) rfl ?_
  refine n_ref hG 0 dX3_init_14 rfl ?_
  refine n_new hG (k' := 1) (n' := 7) dX3_init_15 nw_RX3_19 ⟨by decide, by decide⟩ rfl rfl (fun q1 => ?_)
  refine n_eq (ws' := [(h0, .inr (3, [.ref r3, .null, .null, .long 0])), (q1, .inr (0, [.null, .null, .int 0, .null, .null, .int 0, .int 0]))]) rfl ?_
  refine n_dup hG dX3_init_18 rfl ?_
  refine n_ref hG 1 dX3_init_19 rfl ?_
  refine n_ref hG 2 dX3_init_20 rfl ?_
  refine n_iload hG 4 dX3_init_21 rfl ?_
  refine n_init hG (as := [.ref r1, .ref r2, .int z4]) (st := [.ref q1, .ref h0]) (wr := [(h0, .inr (3, [.ref r3, .null, .null, .long 0]))]) (e0 := .inr (0, [.null, .null, .int 0, .null, .null, .int 0, .int 0])) (rm := rm_X0_init) (k' := 3) (n' := 71) dX3_init_23 ni_RX3_21 (tb2 (mem_i 12 rfl)) rfl ⟨by decide, by decide⟩ (Nat.le_of_ble_eq_true rfl) ⟨by decide, by decide⟩ rfl rfl rfl rfl (c_X0_init l D cA q1 (r1) (r2) (z4) hz) (fun w1 hw1 => ?_)
  obtain ⟨q2, q3, rfl⟩ := hw1
  refine n_eq (ws' := [(h0, .inr (3, [.ref r3, .null, .null, .long 0])), (q1, .inr (0, [.ref r1, .ref r2, .int z4, .ref q2, .ref q3, .int (0 : Int32), .int (0 : Int32)])), (q2, .inl (cA 0, (40, .inl (fun _ => 0)))), (q3, .inl (cA 0, (24, .inl (fun _ => 0))))]) rfl ?_
  refine n_put hG (ws' := [(h0, .inr (3, [.ref r3, .ref q1, .null, .long 0])), (q1, .inr (0, [.ref r1, .ref r2, .int z4, .ref q2, .ref q3, .int (0 : Int32), .int (0 : Int32)])), (q2, .inl (cA 0, (40, .inl (fun _ => 0)))), (q3, .inl (cA 0, (24, .inl (fun _ => 0))))]) 0 dX3_init_26 nfl_RX3_24 nfp_RX3_24 rfl ⟨rfl, rfl⟩ (Nat.le_of_ble_eq_true rfl) rfl ?_
  refine n_ref hG 0 dX3_init_29 rfl ?_
  refine n_new hG (k' := 4) (n' := 78) dX3_init_30 nw_RX3_19 ⟨by decide, by decide⟩ rfl rfl (fun q4 => ?_)
  refine n_eq (ws' := [(h0, .inr (3, [.ref r3, .ref q1, .null, .long 0])), (q1, .inr (0, [.ref r1, .ref r2, .int z4, .ref q2, .ref q3, .int (0 : Int32), .int (0 : Int32)])), (q2, .inl (cA 0, (40, .inl (fun _ => 0)))), (q3, .inl (cA 0, (24, .inl (fun _ => 0)))), (q4, .inr (0, [.null, .null, .int 0, .null, .null, .int 0, .int 0]))]) rfl ?_
  refine n_dup hG dX3_init_33 rfl ?_
  refine n_ref hG 1 dX3_init_34 rfl ?_
  refine n_ref hG 2 dX3_init_35 rfl ?_
  refine n_iload hG 4 dX3_init_36 rfl ?_
  refine n_init hG (as := [.ref r1, .ref r2, .int z4]) (st := [.ref q4, .ref h0]) (wr := [(h0, .inr (3, [.ref r3, .ref q1, .null, .long 0])), (q1, .inr (0, [.ref r1, .ref r2, .int z4, .ref q2, .ref q3, .int (0 : Int32), .int (0 : Int32)])), (q2, .inl (cA 0, (40, .inl (fun _ => 0)))), (q3, .inl (cA 0, (24, .inl (fun _ => 0))))]) (e0 := .inr (0, [.null, .null, .int 0, .null, .null, .int 0, .int 0])) (rm := rm_X0_init) (k' := 6) (n' := 142) dX3_init_38 ni_RX3_21 (tb2 (mem_i 12 rfl)) rfl ⟨by decide, by decide⟩ (Nat.le_of_ble_eq_true rfl) ⟨by decide, by decide⟩ rfl rfl rfl rfl (c_X0_init l D cA q4 (r1) (r2) (z4) hz) (fun w1 hw1 => ?_)
  obtain ⟨q5, q6, rfl⟩ := hw1
  refine n_eq (ws' := [(h0, .inr (3, [.ref r3, .ref q1, .null, .long 0])), (q1, .inr (0, [.ref r1, .ref r2, .int z4, .ref q2, .ref q3, .int (0 : Int32), .int (0 : Int32)])), (q2, .inl (cA 0, (40, .inl (fun _ => 0)))), (q3, .inl (cA 0, (24, .inl (fun _ => 0)))), (q4, .inr (0, [.ref r1, .ref r2, .int z4, .ref q5, .ref q6, .int (0 : Int32), .int (0 : Int32)])), (q5, .inl (cA 0, (40, .inl (fun _ => 0)))), (q6, .inl (cA 0, (24, .inl (fun _ => 0))))]) rfl ?_
  refine n_put hG (ws' := [(h0, .inr (3, [.ref r3, .ref q1, .ref q4, .long 0])), (q1, .inr (0, [.ref r1, .ref r2, .int z4, .ref q2, .ref q3, .int (0 : Int32), .int (0 : Int32)])), (q2, .inl (cA 0, (40, .inl (fun _ => 0)))), (q3, .inl (cA 0, (24, .inl (fun _ => 0)))), (q4, .inr (0, [.ref r1, .ref r2, .int z4, .ref q5, .ref q6, .int (0 : Int32), .int (0 : Int32)])), (q5, .inl (cA 0, (40, .inl (fun _ => 0)))), (q6, .inl (cA 0, (24, .inl (fun _ => 0))))]) 0 dX3_init_41 nfl_RX3_28 nfp_RX3_28 rfl ⟨rfl, rfl⟩ (Nat.le_of_ble_eq_true rfl) rfl ?_
  exact hR _ _ _ ⟨q1, q2, q3, q4, q5, q6, rfl⟩ dX3_init_44
def rm_X2_init : Room := { frames := 1, cells := 3, slots := 3300, locals := 20 }
def BW_X2_init (cA : Nat → ClassId) (h0 : Nat) (w : va_W) : Prop := ∃ q1 q2 q3 : Nat, w = [(h0, .inr (2, [.int (0 : Int32), .int (0 : Int32), .ref q1, .ref q2, .ref q3])), (q1, .inl (cA 1, (10, .inr (.inl (fun _ => 0))))), (q2, .inl (cA 0, (10, .inl (fun _ => 0)))), (q3, .inl (cA 2, (3280, .inl (fun _ => 0))))]
set_option maxRecDepth 100000 in
set_option maxHeartbeats 4000000 in
theorem c_X2_init (l : Launch) (D : va_G) (cA : Nat → ClassId) (h0 : Nat) : CtN l yX2_init cX2_init 1 rm_X2_init [.ref h0] D cA [(h0, .inr (2, [.int 0, .int 0, .null, .null, .null]))] (BW_X2_init cA h0) := by
  refine CtN.intro (own := RX2) (lv := [(0, .ref h0)]) (by decide +kernel) rfl rfl rfl (Nat.le_of_ble_eq_true rfl) ?_
  intro sz G hG hR
  refine n_ref hG 0 dX2_init_0 rfl ?_
  refine n_obj hG dX2_init_1 (tb3 (mem_i 8 rfl)) ⟨by decide, by decide⟩ (Nat.le_of_ble_eq_true rfl) ?_
  refine n_ref hG 0 dX2_init_4 rfl ?_
  refine n_iconst hG (v := (0 : Int32)) dX2_init_5 (by decide) ?_
  refine n_put hG (ws' := [(h0, .inr (2, [.int (0 : Int32), .int 0, .null, .null, .null]))]) 0 dX2_init_6 nfl_RX2_9 nfp_RX2_9 rfl ⟨rfl, rfl⟩ (Nat.le_of_ble_eq_true rfl) rfl ?_
  refine n_ref hG 0 dX2_init_9 rfl ?_
  refine n_iconst hG (v := (0 : Int32)) dX2_init_10 (by decide) ?_
  refine n_put hG (ws' := [(h0, .inr (2, [.int (0 : Int32), .int (0 : Int32), .null, .null, .null]))]) 0 dX2_init_11 nfl_RX2_15 nfp_RX2_15 rfl ⟨rfl, rfl⟩ (Nat.le_of_ble_eq_true rfl) rfl ?_
  refine n_ref hG 0 dX2_init_14 rfl ?_
  refine n_bipush hG (v := (10 : Int32)) dX2_init_15 (by decide) ?_
  refine n_arr hG (t := 1) (N := 10) (x := .inr (.inl (fun _ => 0))) (ty := .long) (k' := 1) (n' := 10) dX2_init_17 (tb3 (mem_i 19 rfl)) rfl rfl (by simp) (fun _ => rfl) (by decide) rfl (Nat.le_of_ble_eq_true rfl) ⟨Nat.le_of_ble_eq_true rfl, Nat.le_of_ble_eq_true rfl⟩ rfl rfl (fun q1 => ?_)
  refine n_eq (ws' := [(h0, .inr (2, [.int (0 : Int32), .int (0 : Int32), .null, .null, .null])), (q1, .inl (cA 1, (10, .inr (.inl (fun _ => 0)))))]) rfl ?_
  refine n_putF hG (ws' := [(h0, .inr (2, [.int (0 : Int32), .int (0 : Int32), .ref q1, .null, .null])), (q1, .inl (cA 1, (10, .inr (.inl (fun _ => 0)))))]) 0 dX2_init_19 nfo_RX2_18 nff_RX2_18 rfl ⟨rfl, rfl⟩ (Nat.le_of_ble_eq_true rfl) rfl ?_
  refine n_ref hG 0 dX2_init_22 rfl ?_
  refine n_bipush hG (v := (10 : Int32)) dX2_init_23 (by decide) ?_
  refine n_arr hG (t := 0) (N := 10) (x := .inl (fun _ => 0)) (ty := .int) (k' := 2) (n' := 20) dX2_init_25 (tb1 (mem_i 9 rfl)) rfl rfl (by simp) (fun _ => rfl) (by decide) rfl (Nat.le_of_ble_eq_true rfl) ⟨Nat.le_of_ble_eq_true rfl, Nat.le_of_ble_eq_true rfl⟩ rfl rfl (fun q2 => ?_)
  refine n_eq (ws' := [(h0, .inr (2, [.int (0 : Int32), .int (0 : Int32), .ref q1, .null, .null])), (q1, .inl (cA 1, (10, .inr (.inl (fun _ => 0))))), (q2, .inl (cA 0, (10, .inl (fun _ => 0))))]) rfl ?_
  refine n_putF hG (ws' := [(h0, .inr (2, [.int (0 : Int32), .int (0 : Int32), .ref q1, .ref q2, .null])), (q1, .inl (cA 1, (10, .inr (.inl (fun _ => 0))))), (q2, .inl (cA 0, (10, .inl (fun _ => 0))))]) 0 dX2_init_27 nfo_RX2_22 nff_RX2_22 rfl ⟨rfl, rfl⟩ (Nat.le_of_ble_eq_true rfl) rfl ?_
  refine n_ref hG 0 dX2_init_30 rfl ?_
  refine n_sipush hG (v := (3280 : Int32)) dX2_init_31 (by decide) ?_
  refine n_arr hG (t := 2) (N := 3280) (x := .inl (fun _ => 0)) (ty := .char) (k' := 3) (n' := 3300) dX2_init_34 (tb3 (mem_i 20 rfl)) rfl rfl (by simp) (fun _ => rfl) (by decide) rfl (Nat.le_of_ble_eq_true rfl) ⟨Nat.le_of_ble_eq_true rfl, Nat.le_of_ble_eq_true rfl⟩ rfl rfl (fun q3 => ?_)
  refine n_eq (ws' := [(h0, .inr (2, [.int (0 : Int32), .int (0 : Int32), .ref q1, .ref q2, .null])), (q1, .inl (cA 1, (10, .inr (.inl (fun _ => 0))))), (q2, .inl (cA 0, (10, .inl (fun _ => 0)))), (q3, .inl (cA 2, (3280, .inl (fun _ => 0))))]) rfl ?_
  refine n_putF hG (ws' := [(h0, .inr (2, [.int (0 : Int32), .int (0 : Int32), .ref q1, .ref q2, .ref q3])), (q1, .inl (cA 1, (10, .inr (.inl (fun _ => 0))))), (q2, .inl (cA 0, (10, .inl (fun _ => 0)))), (q3, .inl (cA 2, (3280, .inl (fun _ => 0))))]) 0 dX2_init_36 nfo_RX2_26 nff_RX2_26 rfl ⟨rfl, rfl⟩ (Nat.le_of_ble_eq_true rfl) rfl ?_
  exact hR _ _ _ ⟨q1, q2, q3, rfl⟩ dX2_init_39
def rm_X1_init : Room := { frames := 1, cells := 1, slots := 328, locals := 20 }
def BW_X1_init (cA : Nat → ClassId) (h0 : Nat) (w : va_W) : Prop := ∃ q1 : Nat, w = [(h0, .inr (1, [.ref q1, .int (0 : Int32)])), (q1, .inl (cA 2, (328, .inl (fun _ => 0))))]
set_option maxRecDepth 100000 in
set_option maxHeartbeats 4000000 in
theorem c_X1_init (l : Launch) (D : va_G) (cA : Nat → ClassId) (h0 : Nat) : CtN l yX1_init cX1_init 1 rm_X1_init [.ref h0] D cA [(h0, .inr (1, [.null, .int 0]))] (BW_X1_init cA h0) := by
  refine CtN.intro (own := RX1) (lv := [(0, .ref h0)]) (by decide +kernel) rfl rfl rfl (Nat.le_of_ble_eq_true rfl) ?_
  intro sz G hG hR
  refine n_ref hG 0 dX1_init_0 rfl ?_
  refine n_obj hG dX1_init_1 (tb3 (mem_i 23 rfl)) ⟨by decide, by decide⟩ (Nat.le_of_ble_eq_true rfl) ?_
  refine n_ref hG 0 dX1_init_4 rfl ?_
  refine n_sipush hG (v := (328 : Int32)) dX1_init_5 (by decide) ?_
  refine n_arr hG (t := 2) (N := 328) (x := .inl (fun _ => 0)) (ty := .char) (k' := 1) (n' := 328) dX1_init_8 (tb3 (mem_i 20 rfl)) rfl rfl (by simp) (fun _ => rfl) (by decide) rfl (Nat.le_of_ble_eq_true rfl) ⟨Nat.le_of_ble_eq_true rfl, Nat.le_of_ble_eq_true rfl⟩ rfl rfl (fun q1 => ?_)
  refine n_eq (ws' := [(h0, .inr (1, [.null, .int 0])), (q1, .inl (cA 2, (328, .inl (fun _ => 0))))]) rfl ?_
  refine n_putF hG (ws' := [(h0, .inr (1, [.ref q1, .int 0])), (q1, .inl (cA 2, (328, .inl (fun _ => 0))))]) 0 dX1_init_10 nfo_RX1_9 nff_RX1_9 rfl ⟨rfl, rfl⟩ (Nat.le_of_ble_eq_true rfl) rfl ?_
  refine n_ref hG 0 dX1_init_13 rfl ?_
  refine n_iconst hG (v := (0 : Int32)) dX1_init_14 (by decide) ?_
  refine n_put hG (ws' := [(h0, .inr (1, [.ref q1, .int (0 : Int32)])), (q1, .inl (cA 2, (328, .inl (fun _ => 0))))]) 0 dX1_init_15 nfl_RX1_15 nfp_RX1_15 rfl ⟨rfl, rfl⟩ (Nat.le_of_ble_eq_true rfl) rfl ?_
  exact hR _ _ _ ⟨q1, rfl⟩ dX1_init_18
def rm_X7_init : Room := { frames := 3, cells := 35, slots := 4527, locals := 67 }
def BW_X7_init (cA : Nat → ClassId) (h0 : Nat) (w : va_W) : Prop := ∃ q1 q2 q3 q4 q5 q6 q7 q8 q9 q10 q11 q12 q13 q14 q15 q16 q17 q18 q19 q20 q21 q22 q23 q24 q25 q26 q27 q28 q29 q30 q31 q32 q33 q34 q35 : Nat, w = [(h0, .inr (7, [.ref q1, .int (0 : Int32), .ref q2, .ref q5, .ref q9, .ref q16, .ref q23, .ref q30, .ref q34])), (q1, .inl (cA 0, (5, .inl (fun _ => 0)))), (q2, .inr (5, [.int (0 : Int32), .int (0 : Int32), .ref q3, .ref q4])), (q3, .inl (cA 0, (10, .inl (fun _ => 0)))), (q4, .inl (cA 0, (50, .inl (fun _ => 0)))), (q5, .inr (4, [.int (0 : Int32), .ref q6, .ref q7, .ref q8])), (q6, .inl (cA 0, (12, .inl (fun _ => 0)))), (q7, .inl (cA 0, (12, .inl (fun _ => 0)))), (q8, .inl (cA 0, (12, .inl (fun _ => 0)))), (q9, .inr (6, [.int (0 : Int32), .ref q10, .ref q11, .ref q12, .ref q13, .ref q14, .ref q15])), (q10, .inl (cA 0, (60, .inl (fun _ => 0)))), (q11, .inl (cA 0, (60, .inl (fun _ => 0)))), (q12, .inl (cA 0, (240, .inl (fun _ => 0)))), (q13, .inl (cA 0, (60, .inl (fun _ => 0)))), (q14, .inl (cA 0, (60, .inl (fun _ => 0)))), (q15, .inl (cA 0, (4, .inl (upd (upd (upd (upd (fun _ => 0) (0 : Int32).toNatClampNeg (-1 : Int32)) (1 : Int32).toNatClampNeg (-1 : Int32)) (2 : Int32).toNatClampNeg (-1 : Int32)) (3 : Int32).toNatClampNeg (-1 : Int32))))), (q16, .inr (3, [.ref q9, .ref q17, .ref q20, .long 0])), (q17, .inr (0, [.ref q2, .ref q5, .int (0 : Int32), .ref q18, .ref q19, .int (0 : Int32), .int (0 : Int32)])), (q18, .inl (cA 0, (40, .inl (fun _ => 0)))), (q19, .inl (cA 0, (24, .inl (fun _ => 0)))), (q20, .inr (0, [.ref q2, .ref q5, .int (0 : Int32), .ref q21, .ref q22, .int (0 : Int32), .int (0 : Int32)])), (q21, .inl (cA 0, (40, .inl (fun _ => 0)))), (q22, .inl (cA 0, (24, .inl (fun _ => 0)))), (q23, .inr (3, [.ref q9, .ref q24, .ref q27, .long 0])), (q24, .inr (0, [.ref q2, .ref q5, .int (1 : Int32), .ref q25, .ref q26, .int (0 : Int32), .int (0 : Int32)])), (q25, .inl (cA 0, (40, .inl (fun _ => 0)))), (q26, .inl (cA 0, (24, .inl (fun _ => 0)))), (q27, .inr (0, [.ref q2, .ref q5, .int (1 : Int32), .ref q28, .ref q29, .int (0 : Int32), .int (0 : Int32)])), (q28, .inl (cA 0, (40, .inl (fun _ => 0)))), (q29, .inl (cA 0, (24, .inl (fun _ => 0)))), (q30, .inr (2, [.int (0 : Int32), .int (0 : Int32), .ref q31, .ref q32, .ref q33])), (q31, .inl (cA 1, (10, .inr (.inl (fun _ => 0))))), (q32, .inl (cA 0, (10, .inl (fun _ => 0)))), (q33, .inl (cA 2, (3280, .inl (fun _ => 0)))), (q34, .inr (1, [.ref q35, .int (0 : Int32)])), (q35, .inl (cA 2, (328, .inl (fun _ => 0))))]
set_option maxRecDepth 100000 in
set_option maxHeartbeats 4000000 in
theorem c_X7_init (l : Launch) (D : va_G) (cA : Nat → ClassId) (h0 : Nat) : CtN l yX7_init cX7_init 1 rm_X7_init [.ref h0] D cA [(h0, .inr (7, [.null, .int 0, .null, .null, .null, .null, .null, .null, .null]))] (BW_X7_init cA h0) := by
  refine CtN.intro (own := RX7) (lv := [(0, .ref h0)]) (by decide +kernel) rfl rfl rfl (Nat.le_of_ble_eq_true rfl) ?_
  intro sz G hG hR
  refine n_ref hG 0 dX7_init_0 rfl ?_
  refine n_obj hG dX7_init_1 (tb0 (mem_i 26 rfl)) ⟨by decide, by decide⟩ (Nat.le_of_ble_eq_true rfl) ?_
  refine n_ref hG 0 dX7_init_4 rfl ?_
  refine n_iconst hG (v := (5 : Int32)) dX7_init_5 (by decide) ?_
  refine n_arr hG (t := 0) (N := 5) (x := .inl (fun _ => 0)) (ty := .int) (k' := 1) (n' := 5) dX7_init_6 (tb1 (mem_i 9 rfl)) rfl rfl (by simp) (fun _ => rfl) (by decide) rfl (Nat.le_of_ble_eq_true rfl) ⟨Nat.le_of_ble_eq_true rfl, Nat.le_of_ble_eq_true rfl⟩ rfl rfl (fun q1 => ?_)
  refine n_eq (ws' := [(h0, .inr (7, [.null, .int 0, .null, .null, .null, .null, .null, .null, .null])), (q1, .inl (cA 0, (5, .inl (fun _ => 0))))]) rfl ?_
  refine n_putF hG (ws' := [(h0, .inr (7, [.ref q1, .int 0, .null, .null, .null, .null, .null, .null, .null])), (q1, .inl (cA 0, (5, .inl (fun _ => 0))))]) 0 dX7_init_8 nfo_RX7_9 nff_RX7_9 rfl ⟨rfl, rfl⟩ (Nat.le_of_ble_eq_true rfl) rfl ?_
  refine n_ref hG 0 dX7_init_11 rfl ?_
  refine n_iconst hG (v := (0 : Int32)) dX7_init_12 (by decide) ?_
  refine n_put hG (ws' := [(h0, .inr (7, [.ref q1, .int (0 : Int32), .null, .null, .null, .null, .null, .null, .null])), (q1, .inl (cA 0, (5, .inl (fun _ => 0))))]) 0 dX7_init_13 nfl_RX7_13 nfp_RX7_13 rfl ⟨rfl, rfl⟩ (Nat.le_of_ble_eq_true rfl) rfl ?_
  refine n_ref hG 0 dX7_init_16 rfl ?_
  refine n_new hG (k' := 2) (n' := 9) dX7_init_17 nw_RX7_17 ⟨by decide, by decide⟩ rfl rfl (fun q2 => ?_)
  refine n_eq (ws' := [(h0, .inr (7, [.ref q1, .int (0 : Int32), .null, .null, .null, .null, .null, .null, .null])), (q1, .inl (cA 0, (5, .inl (fun _ => 0)))), (q2, .inr (5, [.int 0, .int 0, .null, .null]))]) rfl ?_
  refine n_dup hG dX7_init_20 rfl ?_
  refine n_init hG (as := []) (st := [.ref q2, .ref h0]) (wr := [(h0, .inr (7, [.ref q1, .int (0 : Int32), .null, .null, .null, .null, .null, .null, .null])), (q1, .inl (cA 0, (5, .inl (fun _ => 0))))]) (e0 := .inr (5, [.int 0, .int 0, .null, .null])) (rm := rm_X5_init) (k' := 4) (n' := 69) dX7_init_21 ni_RX7_19 (tb0 (mem_i 29 rfl)) rfl ⟨by decide, by decide⟩ (Nat.le_of_ble_eq_true rfl) ⟨by decide, by decide⟩ rfl rfl rfl rfl (c_X5_init l D cA q2) (fun w1 hw1 => ?_)
  obtain ⟨q3, q4, rfl⟩ := hw1
  refine n_eq (ws' := [(h0, .inr (7, [.ref q1, .int (0 : Int32), .null, .null, .null, .null, .null, .null, .null])), (q1, .inl (cA 0, (5, .inl (fun _ => 0)))), (q2, .inr (5, [.int (0 : Int32), .int (0 : Int32), .ref q3, .ref q4])), (q3, .inl (cA 0, (10, .inl (fun _ => 0)))), (q4, .inl (cA 0, (50, .inl (fun _ => 0))))]) rfl ?_
  refine n_putF hG (ws' := [(h0, .inr (7, [.ref q1, .int (0 : Int32), .ref q2, .null, .null, .null, .null, .null, .null])), (q1, .inl (cA 0, (5, .inl (fun _ => 0)))), (q2, .inr (5, [.int (0 : Int32), .int (0 : Int32), .ref q3, .ref q4])), (q3, .inl (cA 0, (10, .inl (fun _ => 0)))), (q4, .inl (cA 0, (50, .inl (fun _ => 0))))]) 0 dX7_init_24 nfo_RX7_20 nff_RX7_20 rfl ⟨rfl, rfl⟩ (Nat.le_of_ble_eq_true rfl) rfl ?_
  refine n_ref hG 0 dX7_init_27 rfl ?_
  refine n_new hG (k' := 5) (n' := 73) dX7_init_28 nw_RX7_24 ⟨by decide, by decide⟩ rfl rfl (fun q5 => ?_)
  refine n_eq (ws' := [(h0, .inr (7, [.ref q1, .int (0 : Int32), .ref q2, .null, .null, .null, .null, .null, .null])), (q1, .inl (cA 0, (5, .inl (fun _ => 0)))), (q2, .inr (5, [.int (0 : Int32), .int (0 : Int32), .ref q3, .ref q4])), (q3, .inl (cA 0, (10, .inl (fun _ => 0)))), (q4, .inl (cA 0, (50, .inl (fun _ => 0)))), (q5, .inr (4, [.int 0, .null, .null, .null]))]) rfl ?_
  refine n_dup hG dX7_init_31 rfl ?_
  refine n_init hG (as := []) (st := [.ref q5, .ref h0]) (wr := [(h0, .inr (7, [.ref q1, .int (0 : Int32), .ref q2, .null, .null, .null, .null, .null, .null])), (q1, .inl (cA 0, (5, .inl (fun _ => 0)))), (q2, .inr (5, [.int (0 : Int32), .int (0 : Int32), .ref q3, .ref q4])), (q3, .inl (cA 0, (10, .inl (fun _ => 0)))), (q4, .inl (cA 0, (50, .inl (fun _ => 0))))]) (e0 := .inr (4, [.int 0, .null, .null, .null])) (rm := rm_X4_init) (k' := 8) (n' := 109) dX7_init_32 ni_RX7_26 (tb1 (mem_i 11 rfl)) rfl ⟨by decide, by decide⟩ (Nat.le_of_ble_eq_true rfl) ⟨by decide, by decide⟩ rfl rfl rfl rfl (c_X4_init l D cA q5) (fun w1 hw1 => ?_)
  obtain ⟨q6, q7, q8, rfl⟩ := hw1
  refine n_eq (ws' := [(h0, .inr (7, [.ref q1, .int (0 : Int32), .ref q2, .null, .null, .null, .null, .null, .null])), (q1, .inl (cA 0, (5, .inl (fun _ => 0)))), (q2, .inr (5, [.int (0 : Int32), .int (0 : Int32), .ref q3, .ref q4])), (q3, .inl (cA 0, (10, .inl (fun _ => 0)))), (q4, .inl (cA 0, (50, .inl (fun _ => 0)))), (q5, .inr (4, [.int (0 : Int32), .ref q6, .ref q7, .ref q8])), (q6, .inl (cA 0, (12, .inl (fun _ => 0)))), (q7, .inl (cA 0, (12, .inl (fun _ => 0)))), (q8, .inl (cA 0, (12, .inl (fun _ => 0))))]) rfl ?_
  refine n_putF hG (ws' := [(h0, .inr (7, [.ref q1, .int (0 : Int32), .ref q2, .ref q5, .null, .null, .null, .null, .null])), (q1, .inl (cA 0, (5, .inl (fun _ => 0)))), (q2, .inr (5, [.int (0 : Int32), .int (0 : Int32), .ref q3, .ref q4])), (q3, .inl (cA 0, (10, .inl (fun _ => 0)))), (q4, .inl (cA 0, (50, .inl (fun _ => 0)))), (q5, .inr (4, [.int (0 : Int32), .ref q6, .ref q7, .ref q8])), (q6, .inl (cA 0, (12, .inl (fun _ => 0)))), (q7, .inl (cA 0, (12, .inl (fun _ => 0)))), (q8, .inl (cA 0, (12, .inl (fun _ => 0))))]) 0 dX7_init_35 nfo_RX7_27 nff_RX7_27 rfl ⟨rfl, rfl⟩ (Nat.le_of_ble_eq_true rfl) rfl ?_
  refine n_ref hG 0 dX7_init_38 rfl ?_
  refine n_new hG (k' := 9) (n' := 116) dX7_init_39 nw_RX7_31 ⟨by decide, by decide⟩ rfl rfl (fun q9 => ?_)
  refine n_eq (ws' := [(h0, .inr (7, [.ref q1, .int (0 : Int32), .ref q2, .ref q5, .null, .null, .null, .null, .null])), (q1, .inl (cA 0, (5, .inl (fun _ => 0)))), (q2, .inr (5, [.int (0 : Int32), .int (0 : Int32), .ref q3, .ref q4])), (q3, .inl (cA 0, (10, .inl (fun _ => 0)))), (q4, .inl (cA 0, (50, .inl (fun _ => 0)))), (q5, .inr (4, [.int (0 : Int32), .ref q6, .ref q7, .ref q8])), (q6, .inl (cA 0, (12, .inl (fun _ => 0)))), (q7, .inl (cA 0, (12, .inl (fun _ => 0)))), (q8, .inl (cA 0, (12, .inl (fun _ => 0)))), (q9, .inr (6, [.int 0, .null, .null, .null, .null, .null, .null]))]) rfl ?_
  refine n_dup hG dX7_init_42 rfl ?_
  refine n_init hG (as := []) (st := [.ref q9, .ref h0]) (wr := [(h0, .inr (7, [.ref q1, .int (0 : Int32), .ref q2, .ref q5, .null, .null, .null, .null, .null])), (q1, .inl (cA 0, (5, .inl (fun _ => 0)))), (q2, .inr (5, [.int (0 : Int32), .int (0 : Int32), .ref q3, .ref q4])), (q3, .inl (cA 0, (10, .inl (fun _ => 0)))), (q4, .inl (cA 0, (50, .inl (fun _ => 0)))), (q5, .inr (4, [.int (0 : Int32), .ref q6, .ref q7, .ref q8])), (q6, .inl (cA 0, (12, .inl (fun _ => 0)))), (q7, .inl (cA 0, (12, .inl (fun _ => 0)))), (q8, .inl (cA 0, (12, .inl (fun _ => 0))))]) (e0 := .inr (6, [.int 0, .null, .null, .null, .null, .null, .null])) (rm := rm_X6_init) (k' := 15) (n' := 600) dX7_init_43 ni_RX7_33 (tb1 (mem_i 22 rfl)) rfl ⟨by decide, by decide⟩ (Nat.le_of_ble_eq_true rfl) ⟨by decide, by decide⟩ rfl rfl rfl rfl (c_X6_init l D cA q9) (fun w1 hw1 => ?_)
  obtain ⟨q10, q11, q12, q13, q14, q15, rfl⟩ := hw1
  refine n_eq (ws' := [(h0, .inr (7, [.ref q1, .int (0 : Int32), .ref q2, .ref q5, .null, .null, .null, .null, .null])), (q1, .inl (cA 0, (5, .inl (fun _ => 0)))), (q2, .inr (5, [.int (0 : Int32), .int (0 : Int32), .ref q3, .ref q4])), (q3, .inl (cA 0, (10, .inl (fun _ => 0)))), (q4, .inl (cA 0, (50, .inl (fun _ => 0)))), (q5, .inr (4, [.int (0 : Int32), .ref q6, .ref q7, .ref q8])), (q6, .inl (cA 0, (12, .inl (fun _ => 0)))), (q7, .inl (cA 0, (12, .inl (fun _ => 0)))), (q8, .inl (cA 0, (12, .inl (fun _ => 0)))), (q9, .inr (6, [.int (0 : Int32), .ref q10, .ref q11, .ref q12, .ref q13, .ref q14, .ref q15])), (q10, .inl (cA 0, (60, .inl (fun _ => 0)))), (q11, .inl (cA 0, (60, .inl (fun _ => 0)))), (q12, .inl (cA 0, (240, .inl (fun _ => 0)))), (q13, .inl (cA 0, (60, .inl (fun _ => 0)))), (q14, .inl (cA 0, (60, .inl (fun _ => 0)))), (q15, .inl (cA 0, (4, .inl (upd (upd (upd (upd (fun _ => 0) (0 : Int32).toNatClampNeg (-1 : Int32)) (1 : Int32).toNatClampNeg (-1 : Int32)) (2 : Int32).toNatClampNeg (-1 : Int32)) (3 : Int32).toNatClampNeg (-1 : Int32)))))]) rfl ?_
  refine n_putF hG (ws' := [(h0, .inr (7, [.ref q1, .int (0 : Int32), .ref q2, .ref q5, .ref q9, .null, .null, .null, .null])), (q1, .inl (cA 0, (5, .inl (fun _ => 0)))), (q2, .inr (5, [.int (0 : Int32), .int (0 : Int32), .ref q3, .ref q4])), (q3, .inl (cA 0, (10, .inl (fun _ => 0)))), (q4, .inl (cA 0, (50, .inl (fun _ => 0)))), (q5, .inr (4, [.int (0 : Int32), .ref q6, .ref q7, .ref q8])), (q6, .inl (cA 0, (12, .inl (fun _ => 0)))), (q7, .inl (cA 0, (12, .inl (fun _ => 0)))), (q8, .inl (cA 0, (12, .inl (fun _ => 0)))), (q9, .inr (6, [.int (0 : Int32), .ref q10, .ref q11, .ref q12, .ref q13, .ref q14, .ref q15])), (q10, .inl (cA 0, (60, .inl (fun _ => 0)))), (q11, .inl (cA 0, (60, .inl (fun _ => 0)))), (q12, .inl (cA 0, (240, .inl (fun _ => 0)))), (q13, .inl (cA 0, (60, .inl (fun _ => 0)))), (q14, .inl (cA 0, (60, .inl (fun _ => 0)))), (q15, .inl (cA 0, (4, .inl (upd (upd (upd (upd (fun _ => 0) (0 : Int32).toNatClampNeg (-1 : Int32)) (1 : Int32).toNatClampNeg (-1 : Int32)) (2 : Int32).toNatClampNeg (-1 : Int32)) (3 : Int32).toNatClampNeg (-1 : Int32)))))]) 0 dX7_init_46 nfo_RX7_34 nff_RX7_34 rfl ⟨rfl, rfl⟩ (Nat.le_of_ble_eq_true rfl) rfl ?_
  refine n_ref hG 0 dX7_init_49 rfl ?_
  refine n_new hG (k' := 16) (n' := 604) dX7_init_50 nw_RX7_38 ⟨by decide, by decide⟩ rfl rfl (fun q16 => ?_)
  refine n_eq (ws' := [(h0, .inr (7, [.ref q1, .int (0 : Int32), .ref q2, .ref q5, .ref q9, .null, .null, .null, .null])), (q1, .inl (cA 0, (5, .inl (fun _ => 0)))), (q2, .inr (5, [.int (0 : Int32), .int (0 : Int32), .ref q3, .ref q4])), (q3, .inl (cA 0, (10, .inl (fun _ => 0)))), (q4, .inl (cA 0, (50, .inl (fun _ => 0)))), (q5, .inr (4, [.int (0 : Int32), .ref q6, .ref q7, .ref q8])), (q6, .inl (cA 0, (12, .inl (fun _ => 0)))), (q7, .inl (cA 0, (12, .inl (fun _ => 0)))), (q8, .inl (cA 0, (12, .inl (fun _ => 0)))), (q9, .inr (6, [.int (0 : Int32), .ref q10, .ref q11, .ref q12, .ref q13, .ref q14, .ref q15])), (q10, .inl (cA 0, (60, .inl (fun _ => 0)))), (q11, .inl (cA 0, (60, .inl (fun _ => 0)))), (q12, .inl (cA 0, (240, .inl (fun _ => 0)))), (q13, .inl (cA 0, (60, .inl (fun _ => 0)))), (q14, .inl (cA 0, (60, .inl (fun _ => 0)))), (q15, .inl (cA 0, (4, .inl (upd (upd (upd (upd (fun _ => 0) (0 : Int32).toNatClampNeg (-1 : Int32)) (1 : Int32).toNatClampNeg (-1 : Int32)) (2 : Int32).toNatClampNeg (-1 : Int32)) (3 : Int32).toNatClampNeg (-1 : Int32))))), (q16, .inr (3, [.null, .null, .null, .long 0]))]) rfl ?_
  refine n_dup hG dX7_init_53 rfl ?_
  refine n_ref hG 0 dX7_init_54 rfl ?_
  refine n_get hG (v := .ref q2) 0 dX7_init_55 nfl_RX7_20 rfl rfl ?_
  refine n_ref hG 0 dX7_init_58 rfl ?_
  refine n_get hG (v := .ref q5) 0 dX7_init_59 nfl_RX7_27 rfl rfl ?_
  refine n_ref hG 0 dX7_init_62 rfl ?_
  refine n_get hG (v := .ref q9) 0 dX7_init_63 nfl_RX7_34 rfl rfl ?_
  refine n_iconst hG (v := (0 : Int32)) dX7_init_66 (by decide) ?_
  refine n_init hG (as := [.ref q2, .ref q5, .ref q9, .int (0 : Int32)]) (st := [.ref q16, .ref h0]) (wr := [(h0, .inr (7, [.ref q1, .int (0 : Int32), .ref q2, .ref q5, .ref q9, .null, .null, .null, .null])), (q1, .inl (cA 0, (5, .inl (fun _ => 0)))), (q2, .inr (5, [.int (0 : Int32), .int (0 : Int32), .ref q3, .ref q4])), (q3, .inl (cA 0, (10, .inl (fun _ => 0)))), (q4, .inl (cA 0, (50, .inl (fun _ => 0)))), (q5, .inr (4, [.int (0 : Int32), .ref q6, .ref q7, .ref q8])), (q6, .inl (cA 0, (12, .inl (fun _ => 0)))), (q7, .inl (cA 0, (12, .inl (fun _ => 0)))), (q8, .inl (cA 0, (12, .inl (fun _ => 0)))), (q9, .inr (6, [.int (0 : Int32), .ref q10, .ref q11, .ref q12, .ref q13, .ref q14, .ref q15])), (q10, .inl (cA 0, (60, .inl (fun _ => 0)))), (q11, .inl (cA 0, (60, .inl (fun _ => 0)))), (q12, .inl (cA 0, (240, .inl (fun _ => 0)))), (q13, .inl (cA 0, (60, .inl (fun _ => 0)))), (q14, .inl (cA 0, (60, .inl (fun _ => 0)))), (q15, .inl (cA 0, (4, .inl (upd (upd (upd (upd (fun _ => 0) (0 : Int32).toNatClampNeg (-1 : Int32)) (1 : Int32).toNatClampNeg (-1 : Int32)) (2 : Int32).toNatClampNeg (-1 : Int32)) (3 : Int32).toNatClampNeg (-1 : Int32)))))]) (e0 := .inr (3, [.null, .null, .null, .long 0])) (rm := rm_X3_init) (k' := 22) (n' := 746) dX7_init_67 ni_RX7_40 (tb2 (mem_i 9 rfl)) rfl ⟨by decide, by decide⟩ (Nat.le_of_ble_eq_true rfl) ⟨by decide, by decide⟩ rfl rfl rfl rfl (c_X3_init l D cA q16 (q2) (q5) (q9) ((0 : Int32)) (by decide)) (fun w1 hw1 => ?_)
  obtain ⟨q17, q18, q19, q20, q21, q22, rfl⟩ := hw1
  refine n_eq (ws' := [(h0, .inr (7, [.ref q1, .int (0 : Int32), .ref q2, .ref q5, .ref q9, .null, .null, .null, .null])), (q1, .inl (cA 0, (5, .inl (fun _ => 0)))), (q2, .inr (5, [.int (0 : Int32), .int (0 : Int32), .ref q3, .ref q4])), (q3, .inl (cA 0, (10, .inl (fun _ => 0)))), (q4, .inl (cA 0, (50, .inl (fun _ => 0)))), (q5, .inr (4, [.int (0 : Int32), .ref q6, .ref q7, .ref q8])), (q6, .inl (cA 0, (12, .inl (fun _ => 0)))), (q7, .inl (cA 0, (12, .inl (fun _ => 0)))), (q8, .inl (cA 0, (12, .inl (fun _ => 0)))), (q9, .inr (6, [.int (0 : Int32), .ref q10, .ref q11, .ref q12, .ref q13, .ref q14, .ref q15])), (q10, .inl (cA 0, (60, .inl (fun _ => 0)))), (q11, .inl (cA 0, (60, .inl (fun _ => 0)))), (q12, .inl (cA 0, (240, .inl (fun _ => 0)))), (q13, .inl (cA 0, (60, .inl (fun _ => 0)))), (q14, .inl (cA 0, (60, .inl (fun _ => 0)))), (q15, .inl (cA 0, (4, .inl (upd (upd (upd (upd (fun _ => 0) (0 : Int32).toNatClampNeg (-1 : Int32)) (1 : Int32).toNatClampNeg (-1 : Int32)) (2 : Int32).toNatClampNeg (-1 : Int32)) (3 : Int32).toNatClampNeg (-1 : Int32))))), (q16, .inr (3, [.ref q9, .ref q17, .ref q20, .long 0])), (q17, .inr (0, [.ref q2, .ref q5, .int (0 : Int32), .ref q18, .ref q19, .int (0 : Int32), .int (0 : Int32)])), (q18, .inl (cA 0, (40, .inl (fun _ => 0)))), (q19, .inl (cA 0, (24, .inl (fun _ => 0)))), (q20, .inr (0, [.ref q2, .ref q5, .int (0 : Int32), .ref q21, .ref q22, .int (0 : Int32), .int (0 : Int32)])), (q21, .inl (cA 0, (40, .inl (fun _ => 0)))), (q22, .inl (cA 0, (24, .inl (fun _ => 0))))]) rfl ?_
  refine n_putF hG (ws' := [(h0, .inr (7, [.ref q1, .int (0 : Int32), .ref q2, .ref q5, .ref q9, .ref q16, .null, .null, .null])), (q1, .inl (cA 0, (5, .inl (fun _ => 0)))), (q2, .inr (5, [.int (0 : Int32), .int (0 : Int32), .ref q3, .ref q4])), (q3, .inl (cA 0, (10, .inl (fun _ => 0)))), (q4, .inl (cA 0, (50, .inl (fun _ => 0)))), (q5, .inr (4, [.int (0 : Int32), .ref q6, .ref q7, .ref q8])), (q6, .inl (cA 0, (12, .inl (fun _ => 0)))), (q7, .inl (cA 0, (12, .inl (fun _ => 0)))), (q8, .inl (cA 0, (12, .inl (fun _ => 0)))), (q9, .inr (6, [.int (0 : Int32), .ref q10, .ref q11, .ref q12, .ref q13, .ref q14, .ref q15])), (q10, .inl (cA 0, (60, .inl (fun _ => 0)))), (q11, .inl (cA 0, (60, .inl (fun _ => 0)))), (q12, .inl (cA 0, (240, .inl (fun _ => 0)))), (q13, .inl (cA 0, (60, .inl (fun _ => 0)))), (q14, .inl (cA 0, (60, .inl (fun _ => 0)))), (q15, .inl (cA 0, (4, .inl (upd (upd (upd (upd (fun _ => 0) (0 : Int32).toNatClampNeg (-1 : Int32)) (1 : Int32).toNatClampNeg (-1 : Int32)) (2 : Int32).toNatClampNeg (-1 : Int32)) (3 : Int32).toNatClampNeg (-1 : Int32))))), (q16, .inr (3, [.ref q9, .ref q17, .ref q20, .long 0])), (q17, .inr (0, [.ref q2, .ref q5, .int (0 : Int32), .ref q18, .ref q19, .int (0 : Int32), .int (0 : Int32)])), (q18, .inl (cA 0, (40, .inl (fun _ => 0)))), (q19, .inl (cA 0, (24, .inl (fun _ => 0)))), (q20, .inr (0, [.ref q2, .ref q5, .int (0 : Int32), .ref q21, .ref q22, .int (0 : Int32), .int (0 : Int32)])), (q21, .inl (cA 0, (40, .inl (fun _ => 0)))), (q22, .inl (cA 0, (24, .inl (fun _ => 0))))]) 0 dX7_init_70 nfo_RX7_43 nff_RX7_43 rfl ⟨rfl, rfl⟩ (Nat.le_of_ble_eq_true rfl) rfl ?_
  refine n_ref hG 0 dX7_init_73 rfl ?_
  refine n_new hG (k' := 23) (n' := 750) dX7_init_74 nw_RX7_38 ⟨by decide, by decide⟩ rfl rfl (fun q23 => ?_)
  refine n_eq (ws' := [(h0, .inr (7, [.ref q1, .int (0 : Int32), .ref q2, .ref q5, .ref q9, .ref q16, .null, .null, .null])), (q1, .inl (cA 0, (5, .inl (fun _ => 0)))), (q2, .inr (5, [.int (0 : Int32), .int (0 : Int32), .ref q3, .ref q4])), (q3, .inl (cA 0, (10, .inl (fun _ => 0)))), (q4, .inl (cA 0, (50, .inl (fun _ => 0)))), (q5, .inr (4, [.int (0 : Int32), .ref q6, .ref q7, .ref q8])), (q6, .inl (cA 0, (12, .inl (fun _ => 0)))), (q7, .inl (cA 0, (12, .inl (fun _ => 0)))), (q8, .inl (cA 0, (12, .inl (fun _ => 0)))), (q9, .inr (6, [.int (0 : Int32), .ref q10, .ref q11, .ref q12, .ref q13, .ref q14, .ref q15])), (q10, .inl (cA 0, (60, .inl (fun _ => 0)))), (q11, .inl (cA 0, (60, .inl (fun _ => 0)))), (q12, .inl (cA 0, (240, .inl (fun _ => 0)))), (q13, .inl (cA 0, (60, .inl (fun _ => 0)))), (q14, .inl (cA 0, (60, .inl (fun _ => 0)))), (q15, .inl (cA 0, (4, .inl (upd (upd (upd (upd (fun _ => 0) (0 : Int32).toNatClampNeg (-1 : Int32)) (1 : Int32).toNatClampNeg (-1 : Int32)) (2 : Int32).toNatClampNeg (-1 : Int32)) (3 : Int32).toNatClampNeg (-1 : Int32))))), (q16, .inr (3, [.ref q9, .ref q17, .ref q20, .long 0])), (q17, .inr (0, [.ref q2, .ref q5, .int (0 : Int32), .ref q18, .ref q19, .int (0 : Int32), .int (0 : Int32)])), (q18, .inl (cA 0, (40, .inl (fun _ => 0)))), (q19, .inl (cA 0, (24, .inl (fun _ => 0)))), (q20, .inr (0, [.ref q2, .ref q5, .int (0 : Int32), .ref q21, .ref q22, .int (0 : Int32), .int (0 : Int32)])), (q21, .inl (cA 0, (40, .inl (fun _ => 0)))), (q22, .inl (cA 0, (24, .inl (fun _ => 0)))), (q23, .inr (3, [.null, .null, .null, .long 0]))]) rfl ?_
  refine n_dup hG dX7_init_77 rfl ?_
  refine n_ref hG 0 dX7_init_78 rfl ?_
  refine n_get hG (v := .ref q2) 0 dX7_init_79 nfl_RX7_20 rfl rfl ?_
  refine n_ref hG 0 dX7_init_82 rfl ?_
  refine n_get hG (v := .ref q5) 0 dX7_init_83 nfl_RX7_27 rfl rfl ?_
  refine n_ref hG 0 dX7_init_86 rfl ?_
  refine n_get hG (v := .ref q9) 0 dX7_init_87 nfl_RX7_34 rfl rfl ?_
  refine n_iconst hG (v := (1 : Int32)) dX7_init_90 (by decide) ?_
  refine n_init hG (as := [.ref q2, .ref q5, .ref q9, .int (1 : Int32)]) (st := [.ref q23, .ref h0]) (wr := [(h0, .inr (7, [.ref q1, .int (0 : Int32), .ref q2, .ref q5, .ref q9, .ref q16, .null, .null, .null])), (q1, .inl (cA 0, (5, .inl (fun _ => 0)))), (q2, .inr (5, [.int (0 : Int32), .int (0 : Int32), .ref q3, .ref q4])), (q3, .inl (cA 0, (10, .inl (fun _ => 0)))), (q4, .inl (cA 0, (50, .inl (fun _ => 0)))), (q5, .inr (4, [.int (0 : Int32), .ref q6, .ref q7, .ref q8])), (q6, .inl (cA 0, (12, .inl (fun _ => 0)))), (q7, .inl (cA 0, (12, .inl (fun _ => 0)))), (q8, .inl (cA 0, (12, .inl (fun _ => 0)))), (q9, .inr (6, [.int (0 : Int32), .ref q10, .ref q11, .ref q12, .ref q13, .ref q14, .ref q15])), (q10, .inl (cA 0, (60, .inl (fun _ => 0)))), (q11, .inl (cA 0, (60, .inl (fun _ => 0)))), (q12, .inl (cA 0, (240, .inl (fun _ => 0)))), (q13, .inl (cA 0, (60, .inl (fun _ => 0)))), (q14, .inl (cA 0, (60, .inl (fun _ => 0)))), (q15, .inl (cA 0, (4, .inl (upd (upd (upd (upd (fun _ => 0) (0 : Int32).toNatClampNeg (-1 : Int32)) (1 : Int32).toNatClampNeg (-1 : Int32)) (2 : Int32).toNatClampNeg (-1 : Int32)) (3 : Int32).toNatClampNeg (-1 : Int32))))), (q16, .inr (3, [.ref q9, .ref q17, .ref q20, .long 0])), (q17, .inr (0, [.ref q2, .ref q5, .int (0 : Int32), .ref q18, .ref q19, .int (0 : Int32), .int (0 : Int32)])), (q18, .inl (cA 0, (40, .inl (fun _ => 0)))), (q19, .inl (cA 0, (24, .inl (fun _ => 0)))), (q20, .inr (0, [.ref q2, .ref q5, .int (0 : Int32), .ref q21, .ref q22, .int (0 : Int32), .int (0 : Int32)])), (q21, .inl (cA 0, (40, .inl (fun _ => 0)))), (q22, .inl (cA 0, (24, .inl (fun _ => 0))))]) (e0 := .inr (3, [.null, .null, .null, .long 0])) (rm := rm_X3_init) (k' := 29) (n' := 892) dX7_init_91 ni_RX7_40 (tb2 (mem_i 9 rfl)) rfl ⟨by decide, by decide⟩ (Nat.le_of_ble_eq_true rfl) ⟨by decide, by decide⟩ rfl rfl rfl rfl (c_X3_init l D cA q23 (q2) (q5) (q9) ((1 : Int32)) (by decide)) (fun w1 hw1 => ?_)
  obtain ⟨q24, q25, q26, q27, q28, q29, rfl⟩ := hw1
  refine n_eq (ws' := [(h0, .inr (7, [.ref q1, .int (0 : Int32), .ref q2, .ref q5, .ref q9, .ref q16, .null, .null, .null])), (q1, .inl (cA 0, (5, .inl (fun _ => 0)))), (q2, .inr (5, [.int (0 : Int32), .int (0 : Int32), .ref q3, .ref q4])), (q3, .inl (cA 0, (10, .inl (fun _ => 0)))), (q4, .inl (cA 0, (50, .inl (fun _ => 0)))), (q5, .inr (4, [.int (0 : Int32), .ref q6, .ref q7, .ref q8])), (q6, .inl (cA 0, (12, .inl (fun _ => 0)))), (q7, .inl (cA 0, (12, .inl (fun _ => 0)))), (q8, .inl (cA 0, (12, .inl (fun _ => 0)))), (q9, .inr (6, [.int (0 : Int32), .ref q10, .ref q11, .ref q12, .ref q13, .ref q14, .ref q15])), (q10, .inl (cA 0, (60, .inl (fun _ => 0)))), (q11, .inl (cA 0, (60, .inl (fun _ => 0)))), (q12, .inl (cA 0, (240, .inl (fun _ => 0)))), (q13, .inl (cA 0, (60, .inl (fun _ => 0)))), (q14, .inl (cA 0, (60, .inl (fun _ => 0)))), (q15, .inl (cA 0, (4, .inl (upd (upd (upd (upd (fun _ => 0) (0 : Int32).toNatClampNeg (-1 : Int32)) (1 : Int32).toNatClampNeg (-1 : Int32)) (2 : Int32).toNatClampNeg (-1 : Int32)) (3 : Int32).toNatClampNeg (-1 : Int32))))), (q16, .inr (3, [.ref q9, .ref q17, .ref q20, .long 0])), (q17, .inr (0, [.ref q2, .ref q5, .int (0 : Int32), .ref q18, .ref q19, .int (0 : Int32), .int (0 : Int32)])), (q18, .inl (cA 0, (40, .inl (fun _ => 0)))), (q19, .inl (cA 0, (24, .inl (fun _ => 0)))), (q20, .inr (0, [.ref q2, .ref q5, .int (0 : Int32), .ref q21, .ref q22, .int (0 : Int32), .int (0 : Int32)])), (q21, .inl (cA 0, (40, .inl (fun _ => 0)))), (q22, .inl (cA 0, (24, .inl (fun _ => 0)))), (q23, .inr (3, [.ref q9, .ref q24, .ref q27, .long 0])), (q24, .inr (0, [.ref q2, .ref q5, .int (1 : Int32), .ref q25, .ref q26, .int (0 : Int32), .int (0 : Int32)])), (q25, .inl (cA 0, (40, .inl (fun _ => 0)))), (q26, .inl (cA 0, (24, .inl (fun _ => 0)))), (q27, .inr (0, [.ref q2, .ref q5, .int (1 : Int32), .ref q28, .ref q29, .int (0 : Int32), .int (0 : Int32)])), (q28, .inl (cA 0, (40, .inl (fun _ => 0)))), (q29, .inl (cA 0, (24, .inl (fun _ => 0))))]) rfl ?_
  refine n_putF hG (ws' := [(h0, .inr (7, [.ref q1, .int (0 : Int32), .ref q2, .ref q5, .ref q9, .ref q16, .ref q23, .null, .null])), (q1, .inl (cA 0, (5, .inl (fun _ => 0)))), (q2, .inr (5, [.int (0 : Int32), .int (0 : Int32), .ref q3, .ref q4])), (q3, .inl (cA 0, (10, .inl (fun _ => 0)))), (q4, .inl (cA 0, (50, .inl (fun _ => 0)))), (q5, .inr (4, [.int (0 : Int32), .ref q6, .ref q7, .ref q8])), (q6, .inl (cA 0, (12, .inl (fun _ => 0)))), (q7, .inl (cA 0, (12, .inl (fun _ => 0)))), (q8, .inl (cA 0, (12, .inl (fun _ => 0)))), (q9, .inr (6, [.int (0 : Int32), .ref q10, .ref q11, .ref q12, .ref q13, .ref q14, .ref q15])), (q10, .inl (cA 0, (60, .inl (fun _ => 0)))), (q11, .inl (cA 0, (60, .inl (fun _ => 0)))), (q12, .inl (cA 0, (240, .inl (fun _ => 0)))), (q13, .inl (cA 0, (60, .inl (fun _ => 0)))), (q14, .inl (cA 0, (60, .inl (fun _ => 0)))), (q15, .inl (cA 0, (4, .inl (upd (upd (upd (upd (fun _ => 0) (0 : Int32).toNatClampNeg (-1 : Int32)) (1 : Int32).toNatClampNeg (-1 : Int32)) (2 : Int32).toNatClampNeg (-1 : Int32)) (3 : Int32).toNatClampNeg (-1 : Int32))))), (q16, .inr (3, [.ref q9, .ref q17, .ref q20, .long 0])), (q17, .inr (0, [.ref q2, .ref q5, .int (0 : Int32), .ref q18, .ref q19, .int (0 : Int32), .int (0 : Int32)])), (q18, .inl (cA 0, (40, .inl (fun _ => 0)))), (q19, .inl (cA 0, (24, .inl (fun _ => 0)))), (q20, .inr (0, [.ref q2, .ref q5, .int (0 : Int32), .ref q21, .ref q22, .int (0 : Int32), .int (0 : Int32)])), (q21, .inl (cA 0, (40, .inl (fun _ => 0)))), (q22, .inl (cA 0, (24, .inl (fun _ => 0)))), (q23, .inr (3, [.ref q9, .ref q24, .ref q27, .long 0])), (q24, .inr (0, [.ref q2, .ref q5, .int (1 : Int32), .ref q25, .ref q26, .int (0 : Int32), .int (0 : Int32)])), (q25, .inl (cA 0, (40, .inl (fun _ => 0)))), (q26, .inl (cA 0, (24, .inl (fun _ => 0)))), (q27, .inr (0, [.ref q2, .ref q5, .int (1 : Int32), .ref q28, .ref q29, .int (0 : Int32), .int (0 : Int32)])), (q28, .inl (cA 0, (40, .inl (fun _ => 0)))), (q29, .inl (cA 0, (24, .inl (fun _ => 0))))]) 0 dX7_init_94 nfo_RX7_47 nff_RX7_47 rfl ⟨rfl, rfl⟩ (Nat.le_of_ble_eq_true rfl) rfl ?_
  refine n_ref hG 0 dX7_init_97 rfl ?_
  refine n_new hG (k' := 30) (n' := 897) dX7_init_98 nw_RX7_50 ⟨by decide, by decide⟩ rfl rfl (fun q30 => ?_)
  refine n_eq (ws' := [(h0, .inr (7, [.ref q1, .int (0 : Int32), .ref q2, .ref q5, .ref q9, .ref q16, .ref q23, .null, .null])), (q1, .inl (cA 0, (5, .inl (fun _ => 0)))), (q2, .inr (5, [.int (0 : Int32), .int (0 : Int32), .ref q3, .ref q4])), (q3, .inl (cA 0, (10, .inl (fun _ => 0)))), (q4, .inl (cA 0, (50, .inl (fun _ => 0)))), (q5, .inr (4, [.int (0 : Int32), .ref q6, .ref q7, .ref q8])), (q6, .inl (cA 0, (12, .inl (fun _ => 0)))), (q7, .inl (cA 0, (12, .inl (fun _ => 0)))), (q8, .inl (cA 0, (12, .inl (fun _ => 0)))), (q9, .inr (6, [.int (0 : Int32), .ref q10, .ref q11, .ref q12, .ref q13, .ref q14, .ref q15])), (q10, .inl (cA 0, (60, .inl (fun _ => 0)))), (q11, .inl (cA 0, (60, .inl (fun _ => 0)))), (q12, .inl (cA 0, (240, .inl (fun _ => 0)))), (q13, .inl (cA 0, (60, .inl (fun _ => 0)))), (q14, .inl (cA 0, (60, .inl (fun _ => 0)))), (q15, .inl (cA 0, (4, .inl (upd (upd (upd (upd (fun _ => 0) (0 : Int32).toNatClampNeg (-1 : Int32)) (1 : Int32).toNatClampNeg (-1 : Int32)) (2 : Int32).toNatClampNeg (-1 : Int32)) (3 : Int32).toNatClampNeg (-1 : Int32))))), (q16, .inr (3, [.ref q9, .ref q17, .ref q20, .long 0])), (q17, .inr (0, [.ref q2, .ref q5, .int (0 : Int32), .ref q18, .ref q19, .int (0 : Int32), .int (0 : Int32)])), (q18, .inl (cA 0, (40, .inl (fun _ => 0)))), (q19, .inl (cA 0, (24, .inl (fun _ => 0)))), (q20, .inr (0, [.ref q2, .ref q5, .int (0 : Int32), .ref q21, .ref q22, .int (0 : Int32), .int (0 : Int32)])), (q21, .inl (cA 0, (40, .inl (fun _ => 0)))), (q22, .inl (cA 0, (24, .inl (fun _ => 0)))), (q23, .inr (3, [.ref q9, .ref q24, .ref q27, .long 0])), (q24, .inr (0, [.ref q2, .ref q5, .int (1 : Int32), .ref q25, .ref q26, .int (0 : Int32), .int (0 : Int32)])), (q25, .inl (cA 0, (40, .inl (fun _ => 0)))), (q26, .inl (cA 0, (24, .inl (fun _ => 0)))), (q27, .inr (0, [.ref q2, .ref q5, .int (1 : Int32), .ref q28, .ref q29, .int (0 : Int32), .int (0 : Int32)])), (q28, .inl (cA 0, (40, .inl (fun _ => 0)))), (q29, .inl (cA 0, (24, .inl (fun _ => 0)))), (q30, .inr (2, [.int 0, .int 0, .null, .null, .null]))]) rfl ?_
  refine n_dup hG dX7_init_101 rfl ?_
  refine n_init hG (as := []) (st := [.ref q30, .ref h0]) (wr := [(h0, .inr (7, [.ref q1, .int (0 : Int32), .ref q2, .ref q5, .ref q9, .ref q16, .ref q23, .null, .null])), (q1, .inl (cA 0, (5, .inl (fun _ => 0)))), (q2, .inr (5, [.int (0 : Int32), .int (0 : Int32), .ref q3, .ref q4])), (q3, .inl (cA 0, (10, .inl (fun _ => 0)))), (q4, .inl (cA 0, (50, .inl (fun _ => 0)))), (q5, .inr (4, [.int (0 : Int32), .ref q6, .ref q7, .ref q8])), (q6, .inl (cA 0, (12, .inl (fun _ => 0)))), (q7, .inl (cA 0, (12, .inl (fun _ => 0)))), (q8, .inl (cA 0, (12, .inl (fun _ => 0)))), (q9, .inr (6, [.int (0 : Int32), .ref q10, .ref q11, .ref q12, .ref q13, .ref q14, .ref q15])), (q10, .inl (cA 0, (60, .inl (fun _ => 0)))), (q11, .inl (cA 0, (60, .inl (fun _ => 0)))), (q12, .inl (cA 0, (240, .inl (fun _ => 0)))), (q13, .inl (cA 0, (60, .inl (fun _ => 0)))), (q14, .inl (cA 0, (60, .inl (fun _ => 0)))), (q15, .inl (cA 0, (4, .inl (upd (upd (upd (upd (fun _ => 0) (0 : Int32).toNatClampNeg (-1 : Int32)) (1 : Int32).toNatClampNeg (-1 : Int32)) (2 : Int32).toNatClampNeg (-1 : Int32)) (3 : Int32).toNatClampNeg (-1 : Int32))))), (q16, .inr (3, [.ref q9, .ref q17, .ref q20, .long 0])), (q17, .inr (0, [.ref q2, .ref q5, .int (0 : Int32), .ref q18, .ref q19, .int (0 : Int32), .int (0 : Int32)])), (q18, .inl (cA 0, (40, .inl (fun _ => 0)))), (q19, .inl (cA 0, (24, .inl (fun _ => 0)))), (q20, .inr (0, [.ref q2, .ref q5, .int (0 : Int32), .ref q21, .ref q22, .int (0 : Int32), .int (0 : Int32)])), (q21, .inl (cA 0, (40, .inl (fun _ => 0)))), (q22, .inl (cA 0, (24, .inl (fun _ => 0)))), (q23, .inr (3, [.ref q9, .ref q24, .ref q27, .long 0])), (q24, .inr (0, [.ref q2, .ref q5, .int (1 : Int32), .ref q25, .ref q26, .int (0 : Int32), .int (0 : Int32)])), (q25, .inl (cA 0, (40, .inl (fun _ => 0)))), (q26, .inl (cA 0, (24, .inl (fun _ => 0)))), (q27, .inr (0, [.ref q2, .ref q5, .int (1 : Int32), .ref q28, .ref q29, .int (0 : Int32), .int (0 : Int32)])), (q28, .inl (cA 0, (40, .inl (fun _ => 0)))), (q29, .inl (cA 0, (24, .inl (fun _ => 0))))]) (e0 := .inr (2, [.int 0, .int 0, .null, .null, .null])) (rm := rm_X2_init) (k' := 33) (n' := 4197) dX7_init_102 ni_RX7_52 (tb3 (mem_i 7 rfl)) rfl ⟨by decide, by decide⟩ (Nat.le_of_ble_eq_true rfl) ⟨by decide, by decide⟩ rfl rfl rfl rfl (c_X2_init l D cA q30) (fun w1 hw1 => ?_)
  obtain ⟨q31, q32, q33, rfl⟩ := hw1
  refine n_eq (ws' := [(h0, .inr (7, [.ref q1, .int (0 : Int32), .ref q2, .ref q5, .ref q9, .ref q16, .ref q23, .null, .null])), (q1, .inl (cA 0, (5, .inl (fun _ => 0)))), (q2, .inr (5, [.int (0 : Int32), .int (0 : Int32), .ref q3, .ref q4])), (q3, .inl (cA 0, (10, .inl (fun _ => 0)))), (q4, .inl (cA 0, (50, .inl (fun _ => 0)))), (q5, .inr (4, [.int (0 : Int32), .ref q6, .ref q7, .ref q8])), (q6, .inl (cA 0, (12, .inl (fun _ => 0)))), (q7, .inl (cA 0, (12, .inl (fun _ => 0)))), (q8, .inl (cA 0, (12, .inl (fun _ => 0)))), (q9, .inr (6, [.int (0 : Int32), .ref q10, .ref q11, .ref q12, .ref q13, .ref q14, .ref q15])), (q10, .inl (cA 0, (60, .inl (fun _ => 0)))), (q11, .inl (cA 0, (60, .inl (fun _ => 0)))), (q12, .inl (cA 0, (240, .inl (fun _ => 0)))), (q13, .inl (cA 0, (60, .inl (fun _ => 0)))), (q14, .inl (cA 0, (60, .inl (fun _ => 0)))), (q15, .inl (cA 0, (4, .inl (upd (upd (upd (upd (fun _ => 0) (0 : Int32).toNatClampNeg (-1 : Int32)) (1 : Int32).toNatClampNeg (-1 : Int32)) (2 : Int32).toNatClampNeg (-1 : Int32)) (3 : Int32).toNatClampNeg (-1 : Int32))))), (q16, .inr (3, [.ref q9, .ref q17, .ref q20, .long 0])), (q17, .inr (0, [.ref q2, .ref q5, .int (0 : Int32), .ref q18, .ref q19, .int (0 : Int32), .int (0 : Int32)])), (q18, .inl (cA 0, (40, .inl (fun _ => 0)))), (q19, .inl (cA 0, (24, .inl (fun _ => 0)))), (q20, .inr (0, [.ref q2, .ref q5, .int (0 : Int32), .ref q21, .ref q22, .int (0 : Int32), .int (0 : Int32)])), (q21, .inl (cA 0, (40, .inl (fun _ => 0)))), (q22, .inl (cA 0, (24, .inl (fun _ => 0)))), (q23, .inr (3, [.ref q9, .ref q24, .ref q27, .long 0])), (q24, .inr (0, [.ref q2, .ref q5, .int (1 : Int32), .ref q25, .ref q26, .int (0 : Int32), .int (0 : Int32)])), (q25, .inl (cA 0, (40, .inl (fun _ => 0)))), (q26, .inl (cA 0, (24, .inl (fun _ => 0)))), (q27, .inr (0, [.ref q2, .ref q5, .int (1 : Int32), .ref q28, .ref q29, .int (0 : Int32), .int (0 : Int32)])), (q28, .inl (cA 0, (40, .inl (fun _ => 0)))), (q29, .inl (cA 0, (24, .inl (fun _ => 0)))), (q30, .inr (2, [.int (0 : Int32), .int (0 : Int32), .ref q31, .ref q32, .ref q33])), (q31, .inl (cA 1, (10, .inr (.inl (fun _ => 0))))), (q32, .inl (cA 0, (10, .inl (fun _ => 0)))), (q33, .inl (cA 2, (3280, .inl (fun _ => 0))))]) rfl ?_
  refine n_putF hG (ws' := [(h0, .inr (7, [.ref q1, .int (0 : Int32), .ref q2, .ref q5, .ref q9, .ref q16, .ref q23, .ref q30, .null])), (q1, .inl (cA 0, (5, .inl (fun _ => 0)))), (q2, .inr (5, [.int (0 : Int32), .int (0 : Int32), .ref q3, .ref q4])), (q3, .inl (cA 0, (10, .inl (fun _ => 0)))), (q4, .inl (cA 0, (50, .inl (fun _ => 0)))), (q5, .inr (4, [.int (0 : Int32), .ref q6, .ref q7, .ref q8])), (q6, .inl (cA 0, (12, .inl (fun _ => 0)))), (q7, .inl (cA 0, (12, .inl (fun _ => 0)))), (q8, .inl (cA 0, (12, .inl (fun _ => 0)))), (q9, .inr (6, [.int (0 : Int32), .ref q10, .ref q11, .ref q12, .ref q13, .ref q14, .ref q15])), (q10, .inl (cA 0, (60, .inl (fun _ => 0)))), (q11, .inl (cA 0, (60, .inl (fun _ => 0)))), (q12, .inl (cA 0, (240, .inl (fun _ => 0)))), (q13, .inl (cA 0, (60, .inl (fun _ => 0)))), (q14, .inl (cA 0, (60, .inl (fun _ => 0)))), (q15, .inl (cA 0, (4, .inl (upd (upd (upd (upd (fun _ => 0) (0 : Int32).toNatClampNeg (-1 : Int32)) (1 : Int32).toNatClampNeg (-1 : Int32)) (2 : Int32).toNatClampNeg (-1 : Int32)) (3 : Int32).toNatClampNeg (-1 : Int32))))), (q16, .inr (3, [.ref q9, .ref q17, .ref q20, .long 0])), (q17, .inr (0, [.ref q2, .ref q5, .int (0 : Int32), .ref q18, .ref q19, .int (0 : Int32), .int (0 : Int32)])), (q18, .inl (cA 0, (40, .inl (fun _ => 0)))), (q19, .inl (cA 0, (24, .inl (fun _ => 0)))), (q20, .inr (0, [.ref q2, .ref q5, .int (0 : Int32), .ref q21, .ref q22, .int (0 : Int32), .int (0 : Int32)])), (q21, .inl (cA 0, (40, .inl (fun _ => 0)))), (q22, .inl (cA 0, (24, .inl (fun _ => 0)))), (q23, .inr (3, [.ref q9, .ref q24, .ref q27, .long 0])), (q24, .inr (0, [.ref q2, .ref q5, .int (1 : Int32), .ref q25, .ref q26, .int (0 : Int32), .int (0 : Int32)])), (q25, .inl (cA 0, (40, .inl (fun _ => 0)))), (q26, .inl (cA 0, (24, .inl (fun _ => 0)))), (q27, .inr (0, [.ref q2, .ref q5, .int (1 : Int32), .ref q28, .ref q29, .int (0 : Int32), .int (0 : Int32)])), (q28, .inl (cA 0, (40, .inl (fun _ => 0)))), (q29, .inl (cA 0, (24, .inl (fun _ => 0)))), (q30, .inr (2, [.int (0 : Int32), .int (0 : Int32), .ref q31, .ref q32, .ref q33])), (q31, .inl (cA 1, (10, .inr (.inl (fun _ => 0))))), (q32, .inl (cA 0, (10, .inl (fun _ => 0)))), (q33, .inl (cA 2, (3280, .inl (fun _ => 0))))]) 0 dX7_init_105 nfo_RX7_53 nff_RX7_53 rfl ⟨rfl, rfl⟩ (Nat.le_of_ble_eq_true rfl) rfl ?_
  refine n_ref hG 0 dX7_init_108 rfl ?_
  refine n_new hG (k' := 34) (n' := 4199) dX7_init_109 nw_RX7_57 ⟨by decide, by decide⟩ rfl rfl (fun q34 => ?_)
  refine n_eq (ws' := [(h0, .inr (7, [.ref q1, .int (0 : Int32), .ref q2, .ref q5, .ref q9, .ref q16, .ref q23, .ref q30, .null])), (q1, .inl (cA 0, (5, .inl (fun _ => 0)))), (q2, .inr (5, [.int (0 : Int32), .int (0 : Int32), .ref q3, .ref q4])), (q3, .inl (cA 0, (10, .inl (fun _ => 0)))), (q4, .inl (cA 0, (50, .inl (fun _ => 0)))), (q5, .inr (4, [.int (0 : Int32), .ref q6, .ref q7, .ref q8])), (q6, .inl (cA 0, (12, .inl (fun _ => 0)))), (q7, .inl (cA 0, (12, .inl (fun _ => 0)))), (q8, .inl (cA 0, (12, .inl (fun _ => 0)))), (q9, .inr (6, [.int (0 : Int32), .ref q10, .ref q11, .ref q12, .ref q13, .ref q14, .ref q15])), (q10, .inl (cA 0, (60, .inl (fun _ => 0)))), (q11, .inl (cA 0, (60, .inl (fun _ => 0)))), (q12, .inl (cA 0, (240, .inl (fun _ => 0)))), (q13, .inl (cA 0, (60, .inl (fun _ => 0)))), (q14, .inl (cA 0, (60, .inl (fun _ => 0)))), (q15, .inl (cA 0, (4, .inl (upd (upd (upd (upd (fun _ => 0) (0 : Int32).toNatClampNeg (-1 : Int32)) (1 : Int32).toNatClampNeg (-1 : Int32)) (2 : Int32).toNatClampNeg (-1 : Int32)) (3 : Int32).toNatClampNeg (-1 : Int32))))), (q16, .inr (3, [.ref q9, .ref q17, .ref q20, .long 0])), (q17, .inr (0, [.ref q2, .ref q5, .int (0 : Int32), .ref q18, .ref q19, .int (0 : Int32), .int (0 : Int32)])), (q18, .inl (cA 0, (40, .inl (fun _ => 0)))), (q19, .inl (cA 0, (24, .inl (fun _ => 0)))), (q20, .inr (0, [.ref q2, .ref q5, .int (0 : Int32), .ref q21, .ref q22, .int (0 : Int32), .int (0 : Int32)])), (q21, .inl (cA 0, (40, .inl (fun _ => 0)))), (q22, .inl (cA 0, (24, .inl (fun _ => 0)))), (q23, .inr (3, [.ref q9, .ref q24, .ref q27, .long 0])), (q24, .inr (0, [.ref q2, .ref q5, .int (1 : Int32), .ref q25, .ref q26, .int (0 : Int32), .int (0 : Int32)])), (q25, .inl (cA 0, (40, .inl (fun _ => 0)))), (q26, .inl (cA 0, (24, .inl (fun _ => 0)))), (q27, .inr (0, [.ref q2, .ref q5, .int (1 : Int32), .ref q28, .ref q29, .int (0 : Int32), .int (0 : Int32)])), (q28, .inl (cA 0, (40, .inl (fun _ => 0)))), (q29, .inl (cA 0, (24, .inl (fun _ => 0)))), (q30, .inr (2, [.int (0 : Int32), .int (0 : Int32), .ref q31, .ref q32, .ref q33])), (q31, .inl (cA 1, (10, .inr (.inl (fun _ => 0))))), (q32, .inl (cA 0, (10, .inl (fun _ => 0)))), (q33, .inl (cA 2, (3280, .inl (fun _ => 0)))), (q34, .inr (1, [.null, .int 0]))]) rfl ?_
  refine n_dup hG dX7_init_112 rfl ?_
  refine n_init hG (as := []) (st := [.ref q34, .ref h0]) (wr := [(h0, .inr (7, [.ref q1, .int (0 : Int32), .ref q2, .ref q5, .ref q9, .ref q16, .ref q23, .ref q30, .null])), (q1, .inl (cA 0, (5, .inl (fun _ => 0)))), (q2, .inr (5, [.int (0 : Int32), .int (0 : Int32), .ref q3, .ref q4])), (q3, .inl (cA 0, (10, .inl (fun _ => 0)))), (q4, .inl (cA 0, (50, .inl (fun _ => 0)))), (q5, .inr (4, [.int (0 : Int32), .ref q6, .ref q7, .ref q8])), (q6, .inl (cA 0, (12, .inl (fun _ => 0)))), (q7, .inl (cA 0, (12, .inl (fun _ => 0)))), (q8, .inl (cA 0, (12, .inl (fun _ => 0)))), (q9, .inr (6, [.int (0 : Int32), .ref q10, .ref q11, .ref q12, .ref q13, .ref q14, .ref q15])), (q10, .inl (cA 0, (60, .inl (fun _ => 0)))), (q11, .inl (cA 0, (60, .inl (fun _ => 0)))), (q12, .inl (cA 0, (240, .inl (fun _ => 0)))), (q13, .inl (cA 0, (60, .inl (fun _ => 0)))), (q14, .inl (cA 0, (60, .inl (fun _ => 0)))), (q15, .inl (cA 0, (4, .inl (upd (upd (upd (upd (fun _ => 0) (0 : Int32).toNatClampNeg (-1 : Int32)) (1 : Int32).toNatClampNeg (-1 : Int32)) (2 : Int32).toNatClampNeg (-1 : Int32)) (3 : Int32).toNatClampNeg (-1 : Int32))))), (q16, .inr (3, [.ref q9, .ref q17, .ref q20, .long 0])), (q17, .inr (0, [.ref q2, .ref q5, .int (0 : Int32), .ref q18, .ref q19, .int (0 : Int32), .int (0 : Int32)])), (q18, .inl (cA 0, (40, .inl (fun _ => 0)))), (q19, .inl (cA 0, (24, .inl (fun _ => 0)))), (q20, .inr (0, [.ref q2, .ref q5, .int (0 : Int32), .ref q21, .ref q22, .int (0 : Int32), .int (0 : Int32)])), (q21, .inl (cA 0, (40, .inl (fun _ => 0)))), (q22, .inl (cA 0, (24, .inl (fun _ => 0)))), (q23, .inr (3, [.ref q9, .ref q24, .ref q27, .long 0])), (q24, .inr (0, [.ref q2, .ref q5, .int (1 : Int32), .ref q25, .ref q26, .int (0 : Int32), .int (0 : Int32)])), (q25, .inl (cA 0, (40, .inl (fun _ => 0)))), (q26, .inl (cA 0, (24, .inl (fun _ => 0)))), (q27, .inr (0, [.ref q2, .ref q5, .int (1 : Int32), .ref q28, .ref q29, .int (0 : Int32), .int (0 : Int32)])), (q28, .inl (cA 0, (40, .inl (fun _ => 0)))), (q29, .inl (cA 0, (24, .inl (fun _ => 0)))), (q30, .inr (2, [.int (0 : Int32), .int (0 : Int32), .ref q31, .ref q32, .ref q33])), (q31, .inl (cA 1, (10, .inr (.inl (fun _ => 0))))), (q32, .inl (cA 0, (10, .inl (fun _ => 0)))), (q33, .inl (cA 2, (3280, .inl (fun _ => 0))))]) (e0 := .inr (1, [.null, .int 0])) (rm := rm_X1_init) (k' := 35) (n' := 4527) dX7_init_113 ni_RX7_59 (tb3 (mem_i 22 rfl)) rfl ⟨by decide, by decide⟩ (Nat.le_of_ble_eq_true rfl) ⟨by decide, by decide⟩ rfl rfl rfl rfl (c_X1_init l D cA q34) (fun w1 hw1 => ?_)
  obtain ⟨q35, rfl⟩ := hw1
  refine n_eq (ws' := [(h0, .inr (7, [.ref q1, .int (0 : Int32), .ref q2, .ref q5, .ref q9, .ref q16, .ref q23, .ref q30, .null])), (q1, .inl (cA 0, (5, .inl (fun _ => 0)))), (q2, .inr (5, [.int (0 : Int32), .int (0 : Int32), .ref q3, .ref q4])), (q3, .inl (cA 0, (10, .inl (fun _ => 0)))), (q4, .inl (cA 0, (50, .inl (fun _ => 0)))), (q5, .inr (4, [.int (0 : Int32), .ref q6, .ref q7, .ref q8])), (q6, .inl (cA 0, (12, .inl (fun _ => 0)))), (q7, .inl (cA 0, (12, .inl (fun _ => 0)))), (q8, .inl (cA 0, (12, .inl (fun _ => 0)))), (q9, .inr (6, [.int (0 : Int32), .ref q10, .ref q11, .ref q12, .ref q13, .ref q14, .ref q15])), (q10, .inl (cA 0, (60, .inl (fun _ => 0)))), (q11, .inl (cA 0, (60, .inl (fun _ => 0)))), (q12, .inl (cA 0, (240, .inl (fun _ => 0)))), (q13, .inl (cA 0, (60, .inl (fun _ => 0)))), (q14, .inl (cA 0, (60, .inl (fun _ => 0)))), (q15, .inl (cA 0, (4, .inl (upd (upd (upd (upd (fun _ => 0) (0 : Int32).toNatClampNeg (-1 : Int32)) (1 : Int32).toNatClampNeg (-1 : Int32)) (2 : Int32).toNatClampNeg (-1 : Int32)) (3 : Int32).toNatClampNeg (-1 : Int32))))), (q16, .inr (3, [.ref q9, .ref q17, .ref q20, .long 0])), (q17, .inr (0, [.ref q2, .ref q5, .int (0 : Int32), .ref q18, .ref q19, .int (0 : Int32), .int (0 : Int32)])), (q18, .inl (cA 0, (40, .inl (fun _ => 0)))), (q19, .inl (cA 0, (24, .inl (fun _ => 0)))), (q20, .inr (0, [.ref q2, .ref q5, .int (0 : Int32), .ref q21, .ref q22, .int (0 : Int32), .int (0 : Int32)])), (q21, .inl (cA 0, (40, .inl (fun _ => 0)))), (q22, .inl (cA 0, (24, .inl (fun _ => 0)))), (q23, .inr (3, [.ref q9, .ref q24, .ref q27, .long 0])), (q24, .inr (0, [.ref q2, .ref q5, .int (1 : Int32), .ref q25, .ref q26, .int (0 : Int32), .int (0 : Int32)])), (q25, .inl (cA 0, (40, .inl (fun _ => 0)))), (q26, .inl (cA 0, (24, .inl (fun _ => 0)))), (q27, .inr (0, [.ref q2, .ref q5, .int (1 : Int32), .ref q28, .ref q29, .int (0 : Int32), .int (0 : Int32)])), (q28, .inl (cA 0, (40, .inl (fun _ => 0)))), (q29, .inl (cA 0, (24, .inl (fun _ => 0)))), (q30, .inr (2, [.int (0 : Int32), .int (0 : Int32), .ref q31, .ref q32, .ref q33])), (q31, .inl (cA 1, (10, .inr (.inl (fun _ => 0))))), (q32, .inl (cA 0, (10, .inl (fun _ => 0)))), (q33, .inl (cA 2, (3280, .inl (fun _ => 0)))), (q34, .inr (1, [.ref q35, .int (0 : Int32)])), (q35, .inl (cA 2, (328, .inl (fun _ => 0))))]) rfl ?_
  refine n_putF hG (ws' := [(h0, .inr (7, [.ref q1, .int (0 : Int32), .ref q2, .ref q5, .ref q9, .ref q16, .ref q23, .ref q30, .ref q34])), (q1, .inl (cA 0, (5, .inl (fun _ => 0)))), (q2, .inr (5, [.int (0 : Int32), .int (0 : Int32), .ref q3, .ref q4])), (q3, .inl (cA 0, (10, .inl (fun _ => 0)))), (q4, .inl (cA 0, (50, .inl (fun _ => 0)))), (q5, .inr (4, [.int (0 : Int32), .ref q6, .ref q7, .ref q8])), (q6, .inl (cA 0, (12, .inl (fun _ => 0)))), (q7, .inl (cA 0, (12, .inl (fun _ => 0)))), (q8, .inl (cA 0, (12, .inl (fun _ => 0)))), (q9, .inr (6, [.int (0 : Int32), .ref q10, .ref q11, .ref q12, .ref q13, .ref q14, .ref q15])), (q10, .inl (cA 0, (60, .inl (fun _ => 0)))), (q11, .inl (cA 0, (60, .inl (fun _ => 0)))), (q12, .inl (cA 0, (240, .inl (fun _ => 0)))), (q13, .inl (cA 0, (60, .inl (fun _ => 0)))), (q14, .inl (cA 0, (60, .inl (fun _ => 0)))), (q15, .inl (cA 0, (4, .inl (upd (upd (upd (upd (fun _ => 0) (0 : Int32).toNatClampNeg (-1 : Int32)) (1 : Int32).toNatClampNeg (-1 : Int32)) (2 : Int32).toNatClampNeg (-1 : Int32)) (3 : Int32).toNatClampNeg (-1 : Int32))))), (q16, .inr (3, [.ref q9, .ref q17, .ref q20, .long 0])), (q17, .inr (0, [.ref q2, .ref q5, .int (0 : Int32), .ref q18, .ref q19, .int (0 : Int32), .int (0 : Int32)])), (q18, .inl (cA 0, (40, .inl (fun _ => 0)))), (q19, .inl (cA 0, (24, .inl (fun _ => 0)))), (q20, .inr (0, [.ref q2, .ref q5, .int (0 : Int32), .ref q21, .ref q22, .int (0 : Int32), .int (0 : Int32)])), (q21, .inl (cA 0, (40, .inl (fun _ => 0)))), (q22, .inl (cA 0, (24, .inl (fun _ => 0)))), (q23, .inr (3, [.ref q9, .ref q24, .ref q27, .long 0])), (q24, .inr (0, [.ref q2, .ref q5, .int (1 : Int32), .ref q25, .ref q26, .int (0 : Int32), .int (0 : Int32)])), (q25, .inl (cA 0, (40, .inl (fun _ => 0)))), (q26, .inl (cA 0, (24, .inl (fun _ => 0)))), (q27, .inr (0, [.ref q2, .ref q5, .int (1 : Int32), .ref q28, .ref q29, .int (0 : Int32), .int (0 : Int32)])), (q28, .inl (cA 0, (40, .inl (fun _ => 0)))), (q29, .inl (cA 0, (24, .inl (fun _ => 0)))), (q30, .inr (2, [.int (0 : Int32), .int (0 : Int32), .ref q31, .ref q32, .ref q33])), (q31, .inl (cA 1, (10, .inr (.inl (fun _ => 0))))), (q32, .inl (cA 0, (10, .inl (fun _ => 0)))), (q33, .inl (cA 2, (3280, .inl (fun _ => 0)))), (q34, .inr (1, [.ref q35, .int (0 : Int32)])), (q35, .inl (cA 2, (328, .inl (fun _ => 0))))]) 0 dX7_init_116 nfo_RX7_60 nff_RX7_60 rfl ⟨rfl, rfl⟩ (Nat.le_of_ble_eq_true rfl) rfl ?_
  exact hR _ _ _ ⟨q1, q2, q3, q4, q5, q6, q7, q8, q9, q10, q11, q12, q13, q14, q15, q16, q17, q18, q19, q20, q21, q22, q23, q24, q25, q26, q27, q28, q29, q30, q31, q32, q33, q34, q35, rfl⟩ dX7_init_119
