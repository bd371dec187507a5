/-! 08.jdk: by program (wip/p31/gen.py) -/
theorem dJ13_bitCount_95d88_0 : decode cJ13_bitCount_95d88 0 = .ok (.lload_n 0, 1) := by decide +kernel
theorem dJ13_bitCount_95d88_1 : decode cJ13_bitCount_95d88 1 = .ok (.lload_n 0, 1) := by decide +kernel
theorem dJ13_bitCount_95d88_2 : decode cJ13_bitCount_95d88 2 = .ok (.iconst 1, 1) := by decide +kernel
theorem dJ13_bitCount_95d88_3 : decode cJ13_bitCount_95d88 3 = .ok (.lushr, 1) := by decide +kernel
theorem dJ13_bitCount_95d88_4 : decode cJ13_bitCount_95d88 4 = .ok (.ldc2_w 314, 3) := by decide +kernel
theorem dJ13_bitCount_95d88_7 : decode cJ13_bitCount_95d88 7 = .ok (.land, 1) := by decide +kernel
theorem dJ13_bitCount_95d88_8 : decode cJ13_bitCount_95d88 8 = .ok (.lsub, 1) := by decide +kernel
theorem dJ13_bitCount_95d88_9 : decode cJ13_bitCount_95d88 9 = .ok (.lstore_n 0, 1) := by decide +kernel
theorem dJ13_bitCount_95d88_10 : decode cJ13_bitCount_95d88 10 = .ok (.lload_n 0, 1) := by decide +kernel
theorem dJ13_bitCount_95d88_11 : decode cJ13_bitCount_95d88 11 = .ok (.ldc2_w 316, 3) := by decide +kernel
theorem dJ13_bitCount_95d88_14 : decode cJ13_bitCount_95d88 14 = .ok (.land, 1) := by decide +kernel
theorem dJ13_bitCount_95d88_15 : decode cJ13_bitCount_95d88 15 = .ok (.lload_n 0, 1) := by decide +kernel
theorem dJ13_bitCount_95d88_16 : decode cJ13_bitCount_95d88 16 = .ok (.iconst 2, 1) := by decide +kernel
theorem dJ13_bitCount_95d88_17 : decode cJ13_bitCount_95d88 17 = .ok (.lushr, 1) := by decide +kernel
theorem dJ13_bitCount_95d88_18 : decode cJ13_bitCount_95d88 18 = .ok (.ldc2_w 316, 3) := by decide +kernel
theorem dJ13_bitCount_95d88_21 : decode cJ13_bitCount_95d88 21 = .ok (.land, 1) := by decide +kernel
theorem dJ13_bitCount_95d88_22 : decode cJ13_bitCount_95d88 22 = .ok (.ladd, 1) := by decide +kernel
theorem dJ13_bitCount_95d88_23 : decode cJ13_bitCount_95d88 23 = .ok (.lstore_n 0, 1) := by decide +kernel
theorem dJ13_bitCount_95d88_24 : decode cJ13_bitCount_95d88 24 = .ok (.lload_n 0, 1) := by decide +kernel
theorem dJ13_bitCount_95d88_25 : decode cJ13_bitCount_95d88 25 = .ok (.lload_n 0, 1) := by decide +kernel
theorem dJ13_bitCount_95d88_26 : decode cJ13_bitCount_95d88 26 = .ok (.iconst 4, 1) := by decide +kernel
theorem dJ13_bitCount_95d88_27 : decode cJ13_bitCount_95d88 27 = .ok (.lushr, 1) := by decide +kernel
theorem dJ13_bitCount_95d88_28 : decode cJ13_bitCount_95d88 28 = .ok (.ladd, 1) := by decide +kernel
theorem dJ13_bitCount_95d88_29 : decode cJ13_bitCount_95d88 29 = .ok (.ldc2_w 318, 3) := by decide +kernel
theorem dJ13_bitCount_95d88_32 : decode cJ13_bitCount_95d88 32 = .ok (.land, 1) := by decide +kernel
theorem dJ13_bitCount_95d88_33 : decode cJ13_bitCount_95d88 33 = .ok (.lstore_n 0, 1) := by decide +kernel
theorem dJ13_bitCount_95d88_34 : decode cJ13_bitCount_95d88 34 = .ok (.lload_n 0, 1) := by decide +kernel
theorem dJ13_bitCount_95d88_35 : decode cJ13_bitCount_95d88 35 = .ok (.lload_n 0, 1) := by decide +kernel
theorem dJ13_bitCount_95d88_36 : decode cJ13_bitCount_95d88 36 = .ok (.bipush 8, 2) := by decide +kernel
theorem dJ13_bitCount_95d88_38 : decode cJ13_bitCount_95d88 38 = .ok (.lushr, 1) := by decide +kernel
theorem dJ13_bitCount_95d88_39 : decode cJ13_bitCount_95d88 39 = .ok (.ladd, 1) := by decide +kernel
theorem dJ13_bitCount_95d88_40 : decode cJ13_bitCount_95d88 40 = .ok (.lstore_n 0, 1) := by decide +kernel
theorem dJ13_bitCount_95d88_41 : decode cJ13_bitCount_95d88 41 = .ok (.lload_n 0, 1) := by decide +kernel
theorem dJ13_bitCount_95d88_42 : decode cJ13_bitCount_95d88 42 = .ok (.lload_n 0, 1) := by decide +kernel
theorem dJ13_bitCount_95d88_43 : decode cJ13_bitCount_95d88 43 = .ok (.bipush 16, 2) := by decide +kernel
theorem dJ13_bitCount_95d88_45 : decode cJ13_bitCount_95d88 45 = .ok (.lushr, 1) := by decide +kernel
theorem dJ13_bitCount_95d88_46 : decode cJ13_bitCount_95d88 46 = .ok (.ladd, 1) := by decide +kernel
theorem dJ13_bitCount_95d88_47 : decode cJ13_bitCount_95d88 47 = .ok (.lstore_n 0, 1) := by decide +kernel
theorem dJ13_bitCount_95d88_48 : decode cJ13_bitCount_95d88 48 = .ok (.lload_n 0, 1) := by decide +kernel
theorem dJ13_bitCount_95d88_49 : decode cJ13_bitCount_95d88 49 = .ok (.lload_n 0, 1) := by decide +kernel
theorem dJ13_bitCount_95d88_50 : decode cJ13_bitCount_95d88 50 = .ok (.bipush 32, 2) := by decide +kernel
theorem dJ13_bitCount_95d88_52 : decode cJ13_bitCount_95d88 52 = .ok (.lushr, 1) := by decide +kernel
theorem dJ13_bitCount_95d88_53 : decode cJ13_bitCount_95d88 53 = .ok (.ladd, 1) := by decide +kernel
theorem dJ13_bitCount_95d88_54 : decode cJ13_bitCount_95d88 54 = .ok (.lstore_n 0, 1) := by decide +kernel
theorem dJ13_bitCount_95d88_55 : decode cJ13_bitCount_95d88 55 = .ok (.lload_n 0, 1) := by decide +kernel
theorem dJ13_bitCount_95d88_56 : decode cJ13_bitCount_95d88 56 = .ok (.l2i, 1) := by decide +kernel
theorem dJ13_bitCount_95d88_57 : decode cJ13_bitCount_95d88 57 = .ok (.bipush 127, 2) := by decide +kernel
theorem dJ13_bitCount_95d88_59 : decode cJ13_bitCount_95d88 59 = .ok (.iand, 1) := by decide +kernel
theorem dJ13_bitCount_95d88_60 : decode cJ13_bitCount_95d88 60 = .ok (.ireturn, 1) := by decide +kernel
theorem dJ6_bitCount_0f7a4_0 : decode cJ6_bitCount_0f7a4 0 = .ok (.iload_n 0, 1) := by decide +kernel
theorem dJ6_bitCount_0f7a4_1 : decode cJ6_bitCount_0f7a4 1 = .ok (.iload_n 0, 1) := by decide +kernel
theorem dJ6_bitCount_0f7a4_2 : decode cJ6_bitCount_0f7a4 2 = .ok (.iconst 1, 1) := by decide +kernel
theorem dJ6_bitCount_0f7a4_3 : decode cJ6_bitCount_0f7a4 3 = .ok (.iushr, 1) := by decide +kernel
theorem dJ6_bitCount_0f7a4_4 : decode cJ6_bitCount_0f7a4 4 = .ok (.ldc_w 265, 3) := by decide +kernel
theorem dJ6_bitCount_0f7a4_7 : decode cJ6_bitCount_0f7a4 7 = .ok (.iand, 1) := by decide +kernel
theorem dJ6_bitCount_0f7a4_8 : decode cJ6_bitCount_0f7a4 8 = .ok (.isub, 1) := by decide +kernel
theorem dJ6_bitCount_0f7a4_9 : decode cJ6_bitCount_0f7a4 9 = .ok (.istore_n 0, 1) := by decide +kernel
theorem dJ6_bitCount_0f7a4_10 : decode cJ6_bitCount_0f7a4 10 = .ok (.iload_n 0, 1) := by decide +kernel
theorem dJ6_bitCount_0f7a4_11 : decode cJ6_bitCount_0f7a4 11 = .ok (.ldc_w 266, 3) := by decide +kernel
theorem dJ6_bitCount_0f7a4_14 : decode cJ6_bitCount_0f7a4 14 = .ok (.iand, 1) := by decide +kernel
theorem dJ6_bitCount_0f7a4_15 : decode cJ6_bitCount_0f7a4 15 = .ok (.iload_n 0, 1) := by decide +kernel
theorem dJ6_bitCount_0f7a4_16 : decode cJ6_bitCount_0f7a4 16 = .ok (.iconst 2, 1) := by decide +kernel
theorem dJ6_bitCount_0f7a4_17 : decode cJ6_bitCount_0f7a4 17 = .ok (.iushr, 1) := by decide +kernel
theorem dJ6_bitCount_0f7a4_18 : decode cJ6_bitCount_0f7a4 18 = .ok (.ldc_w 266, 3) := by decide +kernel
theorem dJ6_bitCount_0f7a4_21 : decode cJ6_bitCount_0f7a4 21 = .ok (.iand, 1) := by decide +kernel
theorem dJ6_bitCount_0f7a4_22 : decode cJ6_bitCount_0f7a4 22 = .ok (.iadd, 1) := by decide +kernel
theorem dJ6_bitCount_0f7a4_23 : decode cJ6_bitCount_0f7a4 23 = .ok (.istore_n 0, 1) := by decide +kernel
theorem dJ6_bitCount_0f7a4_24 : decode cJ6_bitCount_0f7a4 24 = .ok (.iload_n 0, 1) := by decide +kernel
theorem dJ6_bitCount_0f7a4_25 : decode cJ6_bitCount_0f7a4 25 = .ok (.iload_n 0, 1) := by decide +kernel
theorem dJ6_bitCount_0f7a4_26 : decode cJ6_bitCount_0f7a4 26 = .ok (.iconst 4, 1) := by decide +kernel
theorem dJ6_bitCount_0f7a4_27 : decode cJ6_bitCount_0f7a4 27 = .ok (.iushr, 1) := by decide +kernel
theorem dJ6_bitCount_0f7a4_28 : decode cJ6_bitCount_0f7a4 28 = .ok (.iadd, 1) := by decide +kernel
theorem dJ6_bitCount_0f7a4_29 : decode cJ6_bitCount_0f7a4 29 = .ok (.ldc_w 267, 3) := by decide +kernel
theorem dJ6_bitCount_0f7a4_32 : decode cJ6_bitCount_0f7a4 32 = .ok (.iand, 1) := by decide +kernel
theorem dJ6_bitCount_0f7a4_33 : decode cJ6_bitCount_0f7a4 33 = .ok (.istore_n 0, 1) := by decide +kernel
theorem dJ6_bitCount_0f7a4_34 : decode cJ6_bitCount_0f7a4 34 = .ok (.iload_n 0, 1) := by decide +kernel
theorem dJ6_bitCount_0f7a4_35 : decode cJ6_bitCount_0f7a4 35 = .ok (.iload_n 0, 1) := by decide +kernel
theorem dJ6_bitCount_0f7a4_36 : decode cJ6_bitCount_0f7a4 36 = .ok (.bipush 8, 2) := by decide +kernel
theorem dJ6_bitCount_0f7a4_38 : decode cJ6_bitCount_0f7a4 38 = .ok (.iushr, 1) := by decide +kernel
theorem dJ6_bitCount_0f7a4_39 : decode cJ6_bitCount_0f7a4 39 = .ok (.iadd, 1) := by decide +kernel
theorem dJ6_bitCount_0f7a4_40 : decode cJ6_bitCount_0f7a4 40 = .ok (.istore_n 0, 1) := by decide +kernel
theorem dJ6_bitCount_0f7a4_41 : decode cJ6_bitCount_0f7a4 41 = .ok (.iload_n 0, 1) := by decide +kernel
theorem dJ6_bitCount_0f7a4_42 : decode cJ6_bitCount_0f7a4 42 = .ok (.iload_n 0, 1) := by decide +kernel
theorem dJ6_bitCount_0f7a4_43 : decode cJ6_bitCount_0f7a4 43 = .ok (.bipush 16, 2) := by decide +kernel
theorem dJ6_bitCount_0f7a4_45 : decode cJ6_bitCount_0f7a4 45 = .ok (.iushr, 1) := by decide +kernel
theorem dJ6_bitCount_0f7a4_46 : decode cJ6_bitCount_0f7a4 46 = .ok (.iadd, 1) := by decide +kernel
theorem dJ6_bitCount_0f7a4_47 : decode cJ6_bitCount_0f7a4 47 = .ok (.istore_n 0, 1) := by decide +kernel
theorem dJ6_bitCount_0f7a4_48 : decode cJ6_bitCount_0f7a4 48 = .ok (.iload_n 0, 1) := by decide +kernel
theorem dJ6_bitCount_0f7a4_49 : decode cJ6_bitCount_0f7a4 49 = .ok (.bipush 63, 2) := by decide +kernel
theorem dJ6_bitCount_0f7a4_51 : decode cJ6_bitCount_0f7a4 51 = .ok (.iand, 1) := by decide +kernel
theorem dJ6_bitCount_0f7a4_52 : decode cJ6_bitCount_0f7a4 52 = .ok (.ireturn, 1) := by decide +kernel
theorem dJ6_numberOfTrailingZeros_0f7a4_0 : decode cJ6_numberOfTrailingZeros_0f7a4 0 = .ok (.iload_n 0, 1) := by decide +kernel
theorem dJ6_numberOfTrailingZeros_0f7a4_1 : decode cJ6_numberOfTrailingZeros_0f7a4 1 = .ok (.iconst (-1), 1) := by decide +kernel
theorem dJ6_numberOfTrailingZeros_0f7a4_2 : decode cJ6_numberOfTrailingZeros_0f7a4 2 = .ok (.ixor, 1) := by decide +kernel
theorem dJ6_numberOfTrailingZeros_0f7a4_3 : decode cJ6_numberOfTrailingZeros_0f7a4 3 = .ok (.iload_n 0, 1) := by decide +kernel
theorem dJ6_numberOfTrailingZeros_0f7a4_4 : decode cJ6_numberOfTrailingZeros_0f7a4 4 = .ok (.iconst 1, 1) := by decide +kernel
theorem dJ6_numberOfTrailingZeros_0f7a4_5 : decode cJ6_numberOfTrailingZeros_0f7a4 5 = .ok (.isub, 1) := by decide +kernel
theorem dJ6_numberOfTrailingZeros_0f7a4_6 : decode cJ6_numberOfTrailingZeros_0f7a4 6 = .ok (.iand, 1) := by decide +kernel
theorem dJ6_numberOfTrailingZeros_0f7a4_7 : decode cJ6_numberOfTrailingZeros_0f7a4 7 = .ok (.istore_n 0, 1) := by decide +kernel
theorem dJ6_numberOfTrailingZeros_0f7a4_8 : decode cJ6_numberOfTrailingZeros_0f7a4 8 = .ok (.iload_n 0, 1) := by decide +kernel
theorem dJ6_numberOfTrailingZeros_0f7a4_9 : decode cJ6_numberOfTrailingZeros_0f7a4 9 = .ok (.ifCond .gt 8, 3) := by decide +kernel
theorem dJ6_numberOfTrailingZeros_0f7a4_12 : decode cJ6_numberOfTrailingZeros_0f7a4 12 = .ok (.iload_n 0, 1) := by decide +kernel
theorem dJ6_numberOfTrailingZeros_0f7a4_13 : decode cJ6_numberOfTrailingZeros_0f7a4 13 = .ok (.bipush 32, 2) := by decide +kernel
theorem dJ6_numberOfTrailingZeros_0f7a4_15 : decode cJ6_numberOfTrailingZeros_0f7a4 15 = .ok (.iand, 1) := by decide +kernel
theorem dJ6_numberOfTrailingZeros_0f7a4_16 : decode cJ6_numberOfTrailingZeros_0f7a4 16 = .ok (.ireturn, 1) := by decide +kernel
theorem dJ6_numberOfTrailingZeros_0f7a4_17 : decode cJ6_numberOfTrailingZeros_0f7a4 17 = .ok (.iconst 1, 1) := by decide +kernel
theorem dJ6_numberOfTrailingZeros_0f7a4_18 : decode cJ6_numberOfTrailingZeros_0f7a4 18 = .ok (.istore_n 1, 1) := by decide +kernel
theorem dJ6_numberOfTrailingZeros_0f7a4_19 : decode cJ6_numberOfTrailingZeros_0f7a4 19 = .ok (.iload_n 0, 1) := by decide +kernel
theorem dJ6_numberOfTrailingZeros_0f7a4_20 : decode cJ6_numberOfTrailingZeros_0f7a4 20 = .ok (.ldc_w 264, 3) := by decide +kernel
theorem dJ6_numberOfTrailingZeros_0f7a4_23 : decode cJ6_numberOfTrailingZeros_0f7a4 23 = .ok (.if_icmp .le 11, 3) := by decide +kernel
theorem dJ6_numberOfTrailingZeros_0f7a4_26 : decode cJ6_numberOfTrailingZeros_0f7a4 26 = .ok (.iinc 1 16, 3) := by decide +kernel
theorem dJ6_numberOfTrailingZeros_0f7a4_29 : decode cJ6_numberOfTrailingZeros_0f7a4 29 = .ok (.iload_n 0, 1) := by decide +kernel
theorem dJ6_numberOfTrailingZeros_0f7a4_30 : decode cJ6_numberOfTrailingZeros_0f7a4 30 = .ok (.bipush 16, 2) := by decide +kernel
theorem dJ6_numberOfTrailingZeros_0f7a4_32 : decode cJ6_numberOfTrailingZeros_0f7a4 32 = .ok (.iushr, 1) := by decide +kernel
theorem dJ6_numberOfTrailingZeros_0f7a4_33 : decode cJ6_numberOfTrailingZeros_0f7a4 33 = .ok (.istore_n 0, 1) := by decide +kernel
theorem dJ6_numberOfTrailingZeros_0f7a4_34 : decode cJ6_numberOfTrailingZeros_0f7a4 34 = .ok (.iload_n 0, 1) := by decide +kernel
theorem dJ6_numberOfTrailingZeros_0f7a4_35 : decode cJ6_numberOfTrailingZeros_0f7a4 35 = .ok (.sipush 256, 3) := by decide +kernel
theorem dJ6_numberOfTrailingZeros_0f7a4_38 : decode cJ6_numberOfTrailingZeros_0f7a4 38 = .ok (.if_icmp .le 11, 3) := by decide +kernel
theorem dJ6_numberOfTrailingZeros_0f7a4_41 : decode cJ6_numberOfTrailingZeros_0f7a4 41 = .ok (.iinc 1 8, 3) := by decide +kernel
theorem dJ6_numberOfTrailingZeros_0f7a4_44 : decode cJ6_numberOfTrailingZeros_0f7a4 44 = .ok (.iload_n 0, 1) := by decide +kernel
theorem dJ6_numberOfTrailingZeros_0f7a4_45 : decode cJ6_numberOfTrailingZeros_0f7a4 45 = .ok (.bipush 8, 2) := by decide +kernel
theorem dJ6_numberOfTrailingZeros_0f7a4_47 : decode cJ6_numberOfTrailingZeros_0f7a4 47 = .ok (.iushr, 1) := by decide +kernel
theorem dJ6_numberOfTrailingZeros_0f7a4_48 : decode cJ6_numberOfTrailingZeros_0f7a4 48 = .ok (.istore_n 0, 1) := by decide +kernel
theorem dJ6_numberOfTrailingZeros_0f7a4_49 : decode cJ6_numberOfTrailingZeros_0f7a4 49 = .ok (.iload_n 0, 1) := by decide +kernel
theorem dJ6_numberOfTrailingZeros_0f7a4_50 : decode cJ6_numberOfTrailingZeros_0f7a4 50 = .ok (.bipush 16, 2) := by decide +kernel
theorem dJ6_numberOfTrailingZeros_0f7a4_52 : decode cJ6_numberOfTrailingZeros_0f7a4 52 = .ok (.if_icmp .le 10, 3) := by decide +kernel
theorem dJ6_numberOfTrailingZeros_0f7a4_55 : decode cJ6_numberOfTrailingZeros_0f7a4 55 = .ok (.iinc 1 4, 3) := by decide +kernel
theorem dJ6_numberOfTrailingZeros_0f7a4_58 : decode cJ6_numberOfTrailingZeros_0f7a4 58 = .ok (.iload_n 0, 1) := by decide +kernel
theorem dJ6_numberOfTrailingZeros_0f7a4_59 : decode cJ6_numberOfTrailingZeros_0f7a4 59 = .ok (.iconst 4, 1) := by decide +kernel
theorem dJ6_numberOfTrailingZeros_0f7a4_60 : decode cJ6_numberOfTrailingZeros_0f7a4 60 = .ok (.iushr, 1) := by decide +kernel
theorem dJ6_numberOfTrailingZeros_0f7a4_61 : decode cJ6_numberOfTrailingZeros_0f7a4 61 = .ok (.istore_n 0, 1) := by decide +kernel
theorem dJ6_numberOfTrailingZeros_0f7a4_62 : decode cJ6_numberOfTrailingZeros_0f7a4 62 = .ok (.iload_n 0, 1) := by decide +kernel
theorem dJ6_numberOfTrailingZeros_0f7a4_63 : decode cJ6_numberOfTrailingZeros_0f7a4 63 = .ok (.iconst 4, 1) := by decide +kernel
theorem dJ6_numberOfTrailingZeros_0f7a4_64 : decode cJ6_numberOfTrailingZeros_0f7a4 64 = .ok (.if_icmp .le 10, 3) := by decide +kernel
theorem dJ6_numberOfTrailingZeros_0f7a4_67 : decode cJ6_numberOfTrailingZeros_0f7a4 67 = .ok (.iinc 1 2, 3) := by decide +kernel
theorem dJ6_numberOfTrailingZeros_0f7a4_70 : decode cJ6_numberOfTrailingZeros_0f7a4 70 = .ok (.iload_n 0, 1) := by decide +kernel
theorem dJ6_numberOfTrailingZeros_0f7a4_71 : decode cJ6_numberOfTrailingZeros_0f7a4 71 = .ok (.iconst 2, 1) := by decide +kernel
theorem dJ6_numberOfTrailingZeros_0f7a4_72 : decode cJ6_numberOfTrailingZeros_0f7a4 72 = .ok (.iushr, 1) := by decide +kernel
theorem dJ6_numberOfTrailingZeros_0f7a4_73 : decode cJ6_numberOfTrailingZeros_0f7a4 73 = .ok (.istore_n 0, 1) := by decide +kernel
theorem dJ6_numberOfTrailingZeros_0f7a4_74 : decode cJ6_numberOfTrailingZeros_0f7a4 74 = .ok (.iload_n 1, 1) := by decide +kernel
theorem dJ6_numberOfTrailingZeros_0f7a4_75 : decode cJ6_numberOfTrailingZeros_0f7a4 75 = .ok (.iload_n 0, 1) := by decide +kernel
theorem dJ6_numberOfTrailingZeros_0f7a4_76 : decode cJ6_numberOfTrailingZeros_0f7a4 76 = .ok (.iconst 1, 1) := by decide +kernel
theorem dJ6_numberOfTrailingZeros_0f7a4_77 : decode cJ6_numberOfTrailingZeros_0f7a4 77 = .ok (.iushr, 1) := by decide +kernel
theorem dJ6_numberOfTrailingZeros_0f7a4_78 : decode cJ6_numberOfTrailingZeros_0f7a4 78 = .ok (.iadd, 1) := by decide +kernel
theorem dJ6_numberOfTrailingZeros_0f7a4_79 : decode cJ6_numberOfTrailingZeros_0f7a4 79 = .ok (.ireturn, 1) := by decide +kernel
def f_J13_bitCount_95d88 (p0 : Int64) (S : HS) : Option (Int32) :=
some ((((((((((p0 - ((lushr p0 (1 : Int32)) &&& (6148914691236517205 : Int64))) &&& (3689348814741910323 : Int64)) + ((lushr (p0 - ((lushr p0 (1 : Int32)) &&& (6148914691236517205 : Int64))) (2 : Int32)) &&& (3689348814741910323 : Int64))) + (lushr (((p0 - ((lushr p0 (1 : Int32)) &&& (6148914691236517205 : Int64))) &&& (3689348814741910323 : Int64)) + ((lushr (p0 - ((lushr p0 (1 : Int32)) &&& (6148914691236517205 : Int64))) (2 : Int32)) &&& (3689348814741910323 : Int64))) (4 : Int32))) &&& (1085102592571150095 : Int64)) + (lushr (((((p0 - ((lushr p0 (1 : Int32)) &&& (6148914691236517205 : Int64))) &&& (3689348814741910323 : Int64)) + ((lushr (p0 - ((lushr p0 (1 : Int32)) &&& (6148914691236517205 : Int64))) (2 : Int32)) &&& (3689348814741910323 : Int64))) + (lushr (((p0 - ((lushr p0 (1 : Int32)) &&& (6148914691236517205 : Int64))) &&& (3689348814741910323 : Int64)) + ((lushr (p0 - ((lushr p0 (1 : Int32)) &&& (6148914691236517205 : Int64))) (2 : Int32)) &&& (3689348814741910323 : Int64))) (4 : Int32))) &&& (1085102592571150095 : Int64)) (8 : Int32))) + (lushr ((((((p0 - ((lushr p0 (1 : Int32)) &&& (6148914691236517205 : Int64))) &&& (3689348814741910323 : Int64)) + ((lushr (p0 - ((lushr p0 (1 : Int32)) &&& (6148914691236517205 : Int64))) (2 : Int32)) &&& (3689348814741910323 : Int64))) + (lushr (((p0 - ((lushr p0 (1 : Int32)) &&& (6148914691236517205 : Int64))) &&& (3689348814741910323 : Int64)) + ((lushr (p0 - ((lushr p0 (1 : Int32)) &&& (6148914691236517205 : Int64))) (2 : Int32)) &&& (3689348814741910323 : Int64))) (4 : Int32))) &&& (1085102592571150095 : Int64)) + (lushr (((((p0 - ((lushr p0 (1 : Int32)) &&& (6148914691236517205 : Int64))) &&& (3689348814741910323 : Int64)) + ((lushr (p0 - ((lushr p0 (1 : Int32)) &&& (6148914691236517205 : Int64))) (2 : Int32)) &&& (3689348814741910323 : Int64))) + (lushr (((p0 - ((lushr p0 (1 : Int32)) &&& (6148914691236517205 : Int64))) &&& (3689348814741910323 : Int64)) + ((lushr (p0 - ((lushr p0 (1 : Int32)) &&& (6148914691236517205 : Int64))) (2 : Int32)) &&& (3689348814741910323 : Int64))) (4 : Int32))) &&& (1085102592571150095 : Int64)) (8 : Int32))) (16 : Int32))) + (lushr (((((((p0 - ((lushr p0 (1 : Int32)) &&& (6148914691236517205 : Int64))) &&& (3689348814741910323 : Int64)) + ((lushr (p0 - ((lushr p0 (1 : Int32)) &&& (6148914691236517205 : Int64))) (2 : Int32)) &&& (3689348814741910323 : Int64))) + (lushr (((p0 - ((lushr p0 (1 : Int32)) &&& (6148914691236517205 : Int64))) &&& (3689348814741910323 : Int64)) + ((lushr (p0 - ((lushr p0 (1 : Int32)) &&& (6148914691236517205 : Int64))) (2 : Int32)) &&& (3689348814741910323 : Int64))) (4 : Int32))) &&& (1085102592571150095 : Int64)) + (lushr (((((p0 - ((lushr p0 (1 : Int32)) &&& (6148914691236517205 : Int64))) &&& (3689348814741910323 : Int64)) + ((lushr (p0 - ((lushr p0 (1 : Int32)) &&& (6148914691236517205 : Int64))) (2 : Int32)) &&& (3689348814741910323 : Int64))) + (lushr (((p0 - ((lushr p0 (1 : Int32)) &&& (6148914691236517205 : Int64))) &&& (3689348814741910323 : Int64)) + ((lushr (p0 - ((lushr p0 (1 : Int32)) &&& (6148914691236517205 : Int64))) (2 : Int32)) &&& (3689348814741910323 : Int64))) (4 : Int32))) &&& (1085102592571150095 : Int64)) (8 : Int32))) + (lushr ((((((p0 - ((lushr p0 (1 : Int32)) &&& (6148914691236517205 : Int64))) &&& (3689348814741910323 : Int64)) + ((lushr (p0 - ((lushr p0 (1 : Int32)) &&& (6148914691236517205 : Int64))) (2 : Int32)) &&& (3689348814741910323 : Int64))) + (lushr (((p0 - ((lushr p0 (1 : Int32)) &&& (6148914691236517205 : Int64))) &&& (3689348814741910323 : Int64)) + ((lushr (p0 - ((lushr p0 (1 : Int32)) &&& (6148914691236517205 : Int64))) (2 : Int32)) &&& (3689348814741910323 : Int64))) (4 : Int32))) &&& (1085102592571150095 : Int64)) + (lushr (((((p0 - ((lushr p0 (1 : Int32)) &&& (6148914691236517205 : Int64))) &&& (3689348814741910323 : Int64)) + ((lushr (p0 - ((lushr p0 (1 : Int32)) &&& (6148914691236517205 : Int64))) (2 : Int32)) &&& (3689348814741910323 : Int64))) + (lushr (((p0 - ((lushr p0 (1 : Int32)) &&& (6148914691236517205 : Int64))) &&& (3689348814741910323 : Int64)) + ((lushr (p0 - ((lushr p0 (1 : Int32)) &&& (6148914691236517205 : Int64))) (2 : Int32)) &&& (3689348814741910323 : Int64))) (4 : Int32))) &&& (1085102592571150095 : Int64)) (8 : Int32))) (16 : Int32))) (32 : Int32))).toInt32) &&& (127 : Int32))
def rm_J13_bitCount_95d88 : Room := { frames := 0, cells := 0, slots := 0, locals := 0 }
set_option maxRecDepth 100000 in
set_option maxHeartbeats 4000000 in
theorem c_J13_bitCount_95d88 (l : Launch) (p0 : Int64)  (S : HS) (out : Int32) (h : f_J13_bitCount_95d88 p0 S = some out) : Ct l yJ13_bitCount_95d88 cJ13_bitCount_95d88 2 (some .int) rm_J13_bitCount_95d88 [vL p0] S (some (vI out)) S := by
  refine Ct.intro (own := RJ13) (lv := [(0, vL p0)]) (by decide +kernel) rfl ⟨rfl, rfl⟩ rfl (Nat.le_of_ble_eq_true rfl) ?_
  intro G hG hR
  revert h
  unfold f_J13_bitCount_95d88
  refine s_lload_n hG dJ13_bitCount_95d88_0 rfl ?_
  refine s_lload_n hG dJ13_bitCount_95d88_1 rfl ?_
  refine s_iconst hG (v := (1 : Int32)) dJ13_bitCount_95d88_2 (by decide) ?_
  refine s_lushr hG dJ13_bitCount_95d88_3 ?_
  refine s_ldc2 hG (v := (6148914691236517205 : Int64)) dJ13_bitCount_95d88_4 (tb9 (mem_i 28 rfl)) ?_
  refine s_land hG dJ13_bitCount_95d88_7 ?_
  refine s_lsub hG dJ13_bitCount_95d88_8 ?_
  refine s_lstore_n hG (lv' := [(0, vL (p0 - ((lushr p0 (1 : Int32)) &&& (6148914691236517205 : Int64))))]) dJ13_bitCount_95d88_9 (by decide) rfl ?_
  refine s_lload_n hG dJ13_bitCount_95d88_10 rfl ?_
  refine s_ldc2 hG (v := (3689348814741910323 : Int64)) dJ13_bitCount_95d88_11 (tb9 (mem_i 29 rfl)) ?_
  refine s_land hG dJ13_bitCount_95d88_14 ?_
  refine s_lload_n hG dJ13_bitCount_95d88_15 rfl ?_
  refine s_iconst hG (v := (2 : Int32)) dJ13_bitCount_95d88_16 (by decide) ?_
  refine s_lushr hG dJ13_bitCount_95d88_17 ?_
  refine s_ldc2 hG (v := (3689348814741910323 : Int64)) dJ13_bitCount_95d88_18 (tb9 (mem_i 29 rfl)) ?_
  refine s_land hG dJ13_bitCount_95d88_21 ?_
  refine s_ladd hG dJ13_bitCount_95d88_22 ?_
  refine s_lstore_n hG (lv' := [(0, vL (((p0 - ((lushr p0 (1 : Int32)) &&& (6148914691236517205 : Int64))) &&& (3689348814741910323 : Int64)) + ((lushr (p0 - ((lushr p0 (1 : Int32)) &&& (6148914691236517205 : Int64))) (2 : Int32)) &&& (3689348814741910323 : Int64))))]) dJ13_bitCount_95d88_23 (by decide) rfl ?_
  refine s_lload_n hG dJ13_bitCount_95d88_24 rfl ?_
  refine s_lload_n hG dJ13_bitCount_95d88_25 rfl ?_
  refine s_iconst hG (v := (4 : Int32)) dJ13_bitCount_95d88_26 (by decide) ?_
  refine s_lushr hG dJ13_bitCount_95d88_27 ?_
  refine s_ladd hG dJ13_bitCount_95d88_28 ?_
  refine s_ldc2 hG (v := (1085102592571150095 : Int64)) dJ13_bitCount_95d88_29 (tb10 (mem_i 0 rfl)) ?_
  refine s_land hG dJ13_bitCount_95d88_32 ?_
  refine s_lstore_n hG (lv' := [(0, vL (((((p0 - ((lushr p0 (1 : Int32)) &&& (6148914691236517205 : Int64))) &&& (3689348814741910323 : Int64)) + ((lushr (p0 - ((lushr p0 (1 : Int32)) &&& (6148914691236517205 : Int64))) (2 : Int32)) &&& (3689348814741910323 : Int64))) + (lushr (((p0 - ((lushr p0 (1 : Int32)) &&& (6148914691236517205 : Int64))) &&& (3689348814741910323 : Int64)) + ((lushr (p0 - ((lushr p0 (1 : Int32)) &&& (6148914691236517205 : Int64))) (2 : Int32)) &&& (3689348814741910323 : Int64))) (4 : Int32))) &&& (1085102592571150095 : Int64)))]) dJ13_bitCount_95d88_33 (by decide) rfl ?_
  refine s_lload_n hG dJ13_bitCount_95d88_34 rfl ?_
  refine s_lload_n hG dJ13_bitCount_95d88_35 rfl ?_
  refine s_bipush hG (v := (8 : Int32)) dJ13_bitCount_95d88_36 (by decide) ?_
  refine s_lushr hG dJ13_bitCount_95d88_38 ?_
  refine s_ladd hG dJ13_bitCount_95d88_39 ?_
  refine s_lstore_n hG (lv' := [(0, vL ((((((p0 - ((lushr p0 (1 : Int32)) &&& (6148914691236517205 : Int64))) &&& (3689348814741910323 : Int64)) + ((lushr (p0 - ((lushr p0 (1 : Int32)) &&& (6148914691236517205 : Int64))) (2 : Int32)) &&& (3689348814741910323 : Int64))) + (lushr (((p0 - ((lushr p0 (1 : Int32)) &&& (6148914691236517205 : Int64))) &&& (3689348814741910323 : Int64)) + ((lushr (p0 - ((lushr p0 (1 : Int32)) &&& (6148914691236517205 : Int64))) (2 : Int32)) &&& (3689348814741910323 : Int64))) (4 : Int32))) &&& (1085102592571150095 : Int64)) + (lushr (((((p0 - ((lushr p0 (1 : Int32)) &&& (6148914691236517205 : Int64))) &&& (3689348814741910323 : Int64)) + ((lushr (p0 - ((lushr p0 (1 : Int32)) &&& (6148914691236517205 : Int64))) (2 : Int32)) &&& (3689348814741910323 : Int64))) + (lushr (((p0 - ((lushr p0 (1 : Int32)) &&& (6148914691236517205 : Int64))) &&& (3689348814741910323 : Int64)) + ((lushr (p0 - ((lushr p0 (1 : Int32)) &&& (6148914691236517205 : Int64))) (2 : Int32)) &&& (3689348814741910323 : Int64))) (4 : Int32))) &&& (1085102592571150095 : Int64)) (8 : Int32))))]) dJ13_bitCount_95d88_40 (by decide) rfl ?_
  refine s_lload_n hG dJ13_bitCount_95d88_41 rfl ?_
  refine s_lload_n hG dJ13_bitCount_95d88_42 rfl ?_
  refine s_bipush hG (v := (16 : Int32)) dJ13_bitCount_95d88_43 (by decide) ?_
  refine s_lushr hG dJ13_bitCount_95d88_45 ?_
  refine s_ladd hG dJ13_bitCount_95d88_46 ?_
  refine s_lstore_n hG (lv' := [(0, vL (((((((p0 - ((lushr p0 (1 : Int32)) &&& (6148914691236517205 : Int64))) &&& (3689348814741910323 : Int64)) + ((lushr (p0 - ((lushr p0 (1 : Int32)) &&& (6148914691236517205 : Int64))) (2 : Int32)) &&& (3689348814741910323 : Int64))) + (lushr (((p0 - ((lushr p0 (1 : Int32)) &&& (6148914691236517205 : Int64))) &&& (3689348814741910323 : Int64)) + ((lushr (p0 - ((lushr p0 (1 : Int32)) &&& (6148914691236517205 : Int64))) (2 : Int32)) &&& (3689348814741910323 : Int64))) (4 : Int32))) &&& (1085102592571150095 : Int64)) + (lushr (((((p0 - ((lushr p0 (1 : Int32)) &&& (6148914691236517205 : Int64))) &&& (3689348814741910323 : Int64)) + ((lushr (p0 - ((lushr p0 (1 : Int32)) &&& (6148914691236517205 : Int64))) (2 : Int32)) &&& (3689348814741910323 : Int64))) + (lushr (((p0 - ((lushr p0 (1 : Int32)) &&& (6148914691236517205 : Int64))) &&& (3689348814741910323 : Int64)) + ((lushr (p0 - ((lushr p0 (1 : Int32)) &&& (6148914691236517205 : Int64))) (2 : Int32)) &&& (3689348814741910323 : Int64))) (4 : Int32))) &&& (1085102592571150095 : Int64)) (8 : Int32))) + (lushr ((((((p0 - ((lushr p0 (1 : Int32)) &&& (6148914691236517205 : Int64))) &&& (3689348814741910323 : Int64)) + ((lushr (p0 - ((lushr p0 (1 : Int32)) &&& (6148914691236517205 : Int64))) (2 : Int32)) &&& (3689348814741910323 : Int64))) + (lushr (((p0 - ((lushr p0 (1 : Int32)) &&& (6148914691236517205 : Int64))) &&& (3689348814741910323 : Int64)) + ((lushr (p0 - ((lushr p0 (1 : Int32)) &&& (6148914691236517205 : Int64))) (2 : Int32)) &&& (3689348814741910323 : Int64))) (4 : Int32))) &&& (1085102592571150095 : Int64)) + (lushr (((((p0 - ((lushr p0 (1 : Int32)) &&& (6148914691236517205 : Int64))) &&& (3689348814741910323 : Int64)) + ((lushr (p0 - ((lushr p0 (1 : Int32)) &&& (6148914691236517205 : Int64))) (2 : Int32)) &&& (3689348814741910323 : Int64))) + (lushr (((p0 - ((lushr p0 (1 : Int32)) &&& (6148914691236517205 : Int64))) &&& (3689348814741910323 : Int64)) + ((lushr (p0 - ((lushr p0 (1 : Int32)) &&& (6148914691236517205 : Int64))) (2 : Int32)) &&& (3689348814741910323 : Int64))) (4 : Int32))) &&& (1085102592571150095 : Int64)) (8 : Int32))) (16 : Int32))))]) dJ13_bitCount_95d88_47 (by decide) rfl ?_
  refine s_lload_n hG dJ13_bitCount_95d88_48 rfl ?_
  refine s_lload_n hG dJ13_bitCount_95d88_49 rfl ?_
  refine s_bipush hG (v := (32 : Int32)) dJ13_bitCount_95d88_50 (by decide) ?_
  refine s_lushr hG dJ13_bitCount_95d88_52 ?_
  refine s_ladd hG dJ13_bitCount_95d88_53 ?_
  refine s_lstore_n hG (lv' := [(0, vL ((((((((p0 - ((lushr p0 (1 : Int32)) &&& (6148914691236517205 : Int64))) &&& (3689348814741910323 : Int64)) + ((lushr (p0 - ((lushr p0 (1 : Int32)) &&& (6148914691236517205 : Int64))) (2 : Int32)) &&& (3689348814741910323 : Int64))) + (lushr (((p0 - ((lushr p0 (1 : Int32)) &&& (6148914691236517205 : Int64))) &&& (3689348814741910323 : Int64)) + ((lushr (p0 - ((lushr p0 (1 : Int32)) &&& (6148914691236517205 : Int64))) (2 : Int32)) &&& (3689348814741910323 : Int64))) (4 : Int32))) &&& (1085102592571150095 : Int64)) + (lushr (((((p0 - ((lushr p0 (1 : Int32)) &&& (6148914691236517205 : Int64))) &&& (3689348814741910323 : Int64)) + ((lushr (p0 - ((lushr p0 (1 : Int32)) &&& (6148914691236517205 : Int64))) (2 : Int32)) &&& (3689348814741910323 : Int64))) + (lushr (((p0 - ((lushr p0 (1 : Int32)) &&& (6148914691236517205 : Int64))) &&& (3689348814741910323 : Int64)) + ((lushr (p0 - ((lushr p0 (1 : Int32)) &&& (6148914691236517205 : Int64))) (2 : Int32)) &&& (3689348814741910323 : Int64))) (4 : Int32))) &&& (1085102592571150095 : Int64)) (8 : Int32))) + (lushr ((((((p0 - ((lushr p0 (1 : Int32)) &&& (6148914691236517205 : Int64))) &&& (3689348814741910323 : Int64)) + ((lushr (p0 - ((lushr p0 (1 : Int32)) &&& (6148914691236517205 : Int64))) (2 : Int32)) &&& (3689348814741910323 : Int64))) + (lushr (((p0 - ((lushr p0 (1 : Int32)) &&& (6148914691236517205 : Int64))) &&& (3689348814741910323 : Int64)) + ((lushr (p0 - ((lushr p0 (1 : Int32)) &&& (6148914691236517205 : Int64))) (2 : Int32)) &&& (3689348814741910323 : Int64))) (4 : Int32))) &&& (1085102592571150095 : Int64)) + (lushr (((((p0 - ((lushr p0 (1 : Int32)) &&& (6148914691236517205 : Int64))) &&& (3689348814741910323 : Int64)) + ((lushr (p0 - ((lushr p0 (1 : Int32)) &&& (6148914691236517205 : Int64))) (2 : Int32)) &&& (3689348814741910323 : Int64))) + (lushr (((p0 - ((lushr p0 (1 : Int32)) &&& (6148914691236517205 : Int64))) &&& (3689348814741910323 : Int64)) + ((lushr (p0 - ((lushr p0 (1 : Int32)) &&& (6148914691236517205 : Int64))) (2 : Int32)) &&& (3689348814741910323 : Int64))) (4 : Int32))) &&& (1085102592571150095 : Int64)) (8 : Int32))) (16 : Int32))) + (lushr (((((((p0 - ((lushr p0 (1 : Int32)) &&& (6148914691236517205 : Int64))) &&& (3689348814741910323 : Int64)) + ((lushr (p0 - ((lushr p0 (1 : Int32)) &&& (6148914691236517205 : Int64))) (2 : Int32)) &&& (3689348814741910323 : Int64))) + (lushr (((p0 - ((lushr p0 (1 : Int32)) &&& (6148914691236517205 : Int64))) &&& (3689348814741910323 : Int64)) + ((lushr (p0 - ((lushr p0 (1 : Int32)) &&& (6148914691236517205 : Int64))) (2 : Int32)) &&& (3689348814741910323 : Int64))) (4 : Int32))) &&& (1085102592571150095 : Int64)) + (lushr (((((p0 - ((lushr p0 (1 : Int32)) &&& (6148914691236517205 : Int64))) &&& (3689348814741910323 : Int64)) + ((lushr (p0 - ((lushr p0 (1 : Int32)) &&& (6148914691236517205 : Int64))) (2 : Int32)) &&& (3689348814741910323 : Int64))) + (lushr (((p0 - ((lushr p0 (1 : Int32)) &&& (6148914691236517205 : Int64))) &&& (3689348814741910323 : Int64)) + ((lushr (p0 - ((lushr p0 (1 : Int32)) &&& (6148914691236517205 : Int64))) (2 : Int32)) &&& (3689348814741910323 : Int64))) (4 : Int32))) &&& (1085102592571150095 : Int64)) (8 : Int32))) + (lushr ((((((p0 - ((lushr p0 (1 : Int32)) &&& (6148914691236517205 : Int64))) &&& (3689348814741910323 : Int64)) + ((lushr (p0 - ((lushr p0 (1 : Int32)) &&& (6148914691236517205 : Int64))) (2 : Int32)) &&& (3689348814741910323 : Int64))) + (lushr (((p0 - ((lushr p0 (1 : Int32)) &&& (6148914691236517205 : Int64))) &&& (3689348814741910323 : Int64)) + ((lushr (p0 - ((lushr p0 (1 : Int32)) &&& (6148914691236517205 : Int64))) (2 : Int32)) &&& (3689348814741910323 : Int64))) (4 : Int32))) &&& (1085102592571150095 : Int64)) + (lushr (((((p0 - ((lushr p0 (1 : Int32)) &&& (6148914691236517205 : Int64))) &&& (3689348814741910323 : Int64)) + ((lushr (p0 - ((lushr p0 (1 : Int32)) &&& (6148914691236517205 : Int64))) (2 : Int32)) &&& (3689348814741910323 : Int64))) + (lushr (((p0 - ((lushr p0 (1 : Int32)) &&& (6148914691236517205 : Int64))) &&& (3689348814741910323 : Int64)) + ((lushr (p0 - ((lushr p0 (1 : Int32)) &&& (6148914691236517205 : Int64))) (2 : Int32)) &&& (3689348814741910323 : Int64))) (4 : Int32))) &&& (1085102592571150095 : Int64)) (8 : Int32))) (16 : Int32))) (32 : Int32))))]) dJ13_bitCount_95d88_54 (by decide) rfl ?_
  refine s_lload_n hG dJ13_bitCount_95d88_55 rfl ?_
  refine s_l2i hG dJ13_bitCount_95d88_56 ?_
  refine s_bipush hG (v := (127 : Int32)) dJ13_bitCount_95d88_57 (by decide) ?_
  refine s_iand hG dJ13_bitCount_95d88_59 ?_
  exact s_riP hR dJ13_bitCount_95d88_60

def f_J6_bitCount_0f7a4 (p0 : Int32) (S : HS) : Option (Int32) :=
some ((((((((p0 - ((ushr p0 (1 : Int32)) &&& (1431655765 : Int32))) &&& (858993459 : Int32)) + ((ushr (p0 - ((ushr p0 (1 : Int32)) &&& (1431655765 : Int32))) (2 : Int32)) &&& (858993459 : Int32))) + (ushr (((p0 - ((ushr p0 (1 : Int32)) &&& (1431655765 : Int32))) &&& (858993459 : Int32)) + ((ushr (p0 - ((ushr p0 (1 : Int32)) &&& (1431655765 : Int32))) (2 : Int32)) &&& (858993459 : Int32))) (4 : Int32))) &&& (252645135 : Int32)) + (ushr (((((p0 - ((ushr p0 (1 : Int32)) &&& (1431655765 : Int32))) &&& (858993459 : Int32)) + ((ushr (p0 - ((ushr p0 (1 : Int32)) &&& (1431655765 : Int32))) (2 : Int32)) &&& (858993459 : Int32))) + (ushr (((p0 - ((ushr p0 (1 : Int32)) &&& (1431655765 : Int32))) &&& (858993459 : Int32)) + ((ushr (p0 - ((ushr p0 (1 : Int32)) &&& (1431655765 : Int32))) (2 : Int32)) &&& (858993459 : Int32))) (4 : Int32))) &&& (252645135 : Int32)) (8 : Int32))) + (ushr ((((((p0 - ((ushr p0 (1 : Int32)) &&& (1431655765 : Int32))) &&& (858993459 : Int32)) + ((ushr (p0 - ((ushr p0 (1 : Int32)) &&& (1431655765 : Int32))) (2 : Int32)) &&& (858993459 : Int32))) + (ushr (((p0 - ((ushr p0 (1 : Int32)) &&& (1431655765 : Int32))) &&& (858993459 : Int32)) + ((ushr (p0 - ((ushr p0 (1 : Int32)) &&& (1431655765 : Int32))) (2 : Int32)) &&& (858993459 : Int32))) (4 : Int32))) &&& (252645135 : Int32)) + (ushr (((((p0 - ((ushr p0 (1 : Int32)) &&& (1431655765 : Int32))) &&& (858993459 : Int32)) + ((ushr (p0 - ((ushr p0 (1 : Int32)) &&& (1431655765 : Int32))) (2 : Int32)) &&& (858993459 : Int32))) + (ushr (((p0 - ((ushr p0 (1 : Int32)) &&& (1431655765 : Int32))) &&& (858993459 : Int32)) + ((ushr (p0 - ((ushr p0 (1 : Int32)) &&& (1431655765 : Int32))) (2 : Int32)) &&& (858993459 : Int32))) (4 : Int32))) &&& (252645135 : Int32)) (8 : Int32))) (16 : Int32))) &&& (63 : Int32))
def rm_J6_bitCount_0f7a4 : Room := { frames := 0, cells := 0, slots := 0, locals := 0 }
set_option maxRecDepth 100000 in
set_option maxHeartbeats 4000000 in
theorem c_J6_bitCount_0f7a4 (l : Launch) (p0 : Int32)  (S : HS) (out : Int32) (h : f_J6_bitCount_0f7a4 p0 S = some out) : Ct l yJ6_bitCount_0f7a4 cJ6_bitCount_0f7a4 1 (some .int) rm_J6_bitCount_0f7a4 [vI p0] S (some (vI out)) S := by
  refine Ct.intro (own := RJ6) (lv := [(0, vI p0)]) (by decide +kernel) rfl ⟨rfl, rfl⟩ rfl (Nat.le_of_ble_eq_true rfl) ?_
  intro G hG hR
  revert h
  unfold f_J6_bitCount_0f7a4
  refine s_iload_n hG dJ6_bitCount_0f7a4_0 rfl ?_
  refine s_iload_n hG dJ6_bitCount_0f7a4_1 rfl ?_
  refine s_iconst hG (v := (1 : Int32)) dJ6_bitCount_0f7a4_2 (by decide) ?_
  refine s_iushr hG dJ6_bitCount_0f7a4_3 ?_
  refine s_ldcw hG (v := (1431655765 : Int32)) dJ6_bitCount_0f7a4_4 (tb9 (mem_i 6 rfl)) ?_
  refine s_iand hG dJ6_bitCount_0f7a4_7 ?_
  refine s_isub hG dJ6_bitCount_0f7a4_8 ?_
  refine s_istore_n hG (lv' := [(0, vI (p0 - ((ushr p0 (1 : Int32)) &&& (1431655765 : Int32))))]) dJ6_bitCount_0f7a4_9 (by decide) rfl ?_
  refine s_iload_n hG dJ6_bitCount_0f7a4_10 rfl ?_
  refine s_ldcw hG (v := (858993459 : Int32)) dJ6_bitCount_0f7a4_11 (tb9 (mem_i 7 rfl)) ?_
  refine s_iand hG dJ6_bitCount_0f7a4_14 ?_
  refine s_iload_n hG dJ6_bitCount_0f7a4_15 rfl ?_
  refine s_iconst hG (v := (2 : Int32)) dJ6_bitCount_0f7a4_16 (by decide) ?_
  refine s_iushr hG dJ6_bitCount_0f7a4_17 ?_
  refine s_ldcw hG (v := (858993459 : Int32)) dJ6_bitCount_0f7a4_18 (tb9 (mem_i 7 rfl)) ?_
  refine s_iand hG dJ6_bitCount_0f7a4_21 ?_
  refine s_iadd hG dJ6_bitCount_0f7a4_22 ?_
  refine s_istore_n hG (lv' := [(0, vI (((p0 - ((ushr p0 (1 : Int32)) &&& (1431655765 : Int32))) &&& (858993459 : Int32)) + ((ushr (p0 - ((ushr p0 (1 : Int32)) &&& (1431655765 : Int32))) (2 : Int32)) &&& (858993459 : Int32))))]) dJ6_bitCount_0f7a4_23 (by decide) rfl ?_
  refine s_iload_n hG dJ6_bitCount_0f7a4_24 rfl ?_
  refine s_iload_n hG dJ6_bitCount_0f7a4_25 rfl ?_
  refine s_iconst hG (v := (4 : Int32)) dJ6_bitCount_0f7a4_26 (by decide) ?_
  refine s_iushr hG dJ6_bitCount_0f7a4_27 ?_
  refine s_iadd hG dJ6_bitCount_0f7a4_28 ?_
  refine s_ldcw hG (v := (252645135 : Int32)) dJ6_bitCount_0f7a4_29 (tb9 (mem_i 8 rfl)) ?_
  refine s_iand hG dJ6_bitCount_0f7a4_32 ?_
  refine s_istore_n hG (lv' := [(0, vI (((((p0 - ((ushr p0 (1 : Int32)) &&& (1431655765 : Int32))) &&& (858993459 : Int32)) + ((ushr (p0 - ((ushr p0 (1 : Int32)) &&& (1431655765 : Int32))) (2 : Int32)) &&& (858993459 : Int32))) + (ushr (((p0 - ((ushr p0 (1 : Int32)) &&& (1431655765 : Int32))) &&& (858993459 : Int32)) + ((ushr (p0 - ((ushr p0 (1 : Int32)) &&& (1431655765 : Int32))) (2 : Int32)) &&& (858993459 : Int32))) (4 : Int32))) &&& (252645135 : Int32)))]) dJ6_bitCount_0f7a4_33 (by decide) rfl ?_
  refine s_iload_n hG dJ6_bitCount_0f7a4_34 rfl ?_
  refine s_iload_n hG dJ6_bitCount_0f7a4_35 rfl ?_
  refine s_bipush hG (v := (8 : Int32)) dJ6_bitCount_0f7a4_36 (by decide) ?_
  refine s_iushr hG dJ6_bitCount_0f7a4_38 ?_
  refine s_iadd hG dJ6_bitCount_0f7a4_39 ?_
  refine s_istore_n hG (lv' := [(0, vI ((((((p0 - ((ushr p0 (1 : Int32)) &&& (1431655765 : Int32))) &&& (858993459 : Int32)) + ((ushr (p0 - ((ushr p0 (1 : Int32)) &&& (1431655765 : Int32))) (2 : Int32)) &&& (858993459 : Int32))) + (ushr (((p0 - ((ushr p0 (1 : Int32)) &&& (1431655765 : Int32))) &&& (858993459 : Int32)) + ((ushr (p0 - ((ushr p0 (1 : Int32)) &&& (1431655765 : Int32))) (2 : Int32)) &&& (858993459 : Int32))) (4 : Int32))) &&& (252645135 : Int32)) + (ushr (((((p0 - ((ushr p0 (1 : Int32)) &&& (1431655765 : Int32))) &&& (858993459 : Int32)) + ((ushr (p0 - ((ushr p0 (1 : Int32)) &&& (1431655765 : Int32))) (2 : Int32)) &&& (858993459 : Int32))) + (ushr (((p0 - ((ushr p0 (1 : Int32)) &&& (1431655765 : Int32))) &&& (858993459 : Int32)) + ((ushr (p0 - ((ushr p0 (1 : Int32)) &&& (1431655765 : Int32))) (2 : Int32)) &&& (858993459 : Int32))) (4 : Int32))) &&& (252645135 : Int32)) (8 : Int32))))]) dJ6_bitCount_0f7a4_40 (by decide) rfl ?_
  refine s_iload_n hG dJ6_bitCount_0f7a4_41 rfl ?_
  refine s_iload_n hG dJ6_bitCount_0f7a4_42 rfl ?_
  refine s_bipush hG (v := (16 : Int32)) dJ6_bitCount_0f7a4_43 (by decide) ?_
  refine s_iushr hG dJ6_bitCount_0f7a4_45 ?_
  refine s_iadd hG dJ6_bitCount_0f7a4_46 ?_
  refine s_istore_n hG (lv' := [(0, vI (((((((p0 - ((ushr p0 (1 : Int32)) &&& (1431655765 : Int32))) &&& (858993459 : Int32)) + ((ushr (p0 - ((ushr p0 (1 : Int32)) &&& (1431655765 : Int32))) (2 : Int32)) &&& (858993459 : Int32))) + (ushr (((p0 - ((ushr p0 (1 : Int32)) &&& (1431655765 : Int32))) &&& (858993459 : Int32)) + ((ushr (p0 - ((ushr p0 (1 : Int32)) &&& (1431655765 : Int32))) (2 : Int32)) &&& (858993459 : Int32))) (4 : Int32))) &&& (252645135 : Int32)) + (ushr (((((p0 - ((ushr p0 (1 : Int32)) &&& (1431655765 : Int32))) &&& (858993459 : Int32)) + ((ushr (p0 - ((ushr p0 (1 : Int32)) &&& (1431655765 : Int32))) (2 : Int32)) &&& (858993459 : Int32))) + (ushr (((p0 - ((ushr p0 (1 : Int32)) &&& (1431655765 : Int32))) &&& (858993459 : Int32)) + ((ushr (p0 - ((ushr p0 (1 : Int32)) &&& (1431655765 : Int32))) (2 : Int32)) &&& (858993459 : Int32))) (4 : Int32))) &&& (252645135 : Int32)) (8 : Int32))) + (ushr ((((((p0 - ((ushr p0 (1 : Int32)) &&& (1431655765 : Int32))) &&& (858993459 : Int32)) + ((ushr (p0 - ((ushr p0 (1 : Int32)) &&& (1431655765 : Int32))) (2 : Int32)) &&& (858993459 : Int32))) + (ushr (((p0 - ((ushr p0 (1 : Int32)) &&& (1431655765 : Int32))) &&& (858993459 : Int32)) + ((ushr (p0 - ((ushr p0 (1 : Int32)) &&& (1431655765 : Int32))) (2 : Int32)) &&& (858993459 : Int32))) (4 : Int32))) &&& (252645135 : Int32)) + (ushr (((((p0 - ((ushr p0 (1 : Int32)) &&& (1431655765 : Int32))) &&& (858993459 : Int32)) + ((ushr (p0 - ((ushr p0 (1 : Int32)) &&& (1431655765 : Int32))) (2 : Int32)) &&& (858993459 : Int32))) + (ushr (((p0 - ((ushr p0 (1 : Int32)) &&& (1431655765 : Int32))) &&& (858993459 : Int32)) + ((ushr (p0 - ((ushr p0 (1 : Int32)) &&& (1431655765 : Int32))) (2 : Int32)) &&& (858993459 : Int32))) (4 : Int32))) &&& (252645135 : Int32)) (8 : Int32))) (16 : Int32))))]) dJ6_bitCount_0f7a4_47 (by decide) rfl ?_
  refine s_iload_n hG dJ6_bitCount_0f7a4_48 rfl ?_
  refine s_bipush hG (v := (63 : Int32)) dJ6_bitCount_0f7a4_49 (by decide) ?_
  refine s_iand hG dJ6_bitCount_0f7a4_51 ?_
  exact s_riP hR dJ6_bitCount_0f7a4_52

def f_J6_numberOfTrailingZeros_0f7a4_b74 (p0 : Int32)  (S : HS) (x0 : Int32) (x1 : Int32) : Option (Int32) :=
some (x1 + (ushr x0 (1 : Int32)))
def f_J6_numberOfTrailingZeros_0f7a4_b62 (p0 : Int32)  (S : HS) (x0 : Int32) (x1 : Int32) : Option (Int32) :=
if x0 ≤ (4 : Int32) then
f_J6_numberOfTrailingZeros_0f7a4_b74 p0  S x0 x1
else
f_J6_numberOfTrailingZeros_0f7a4_b74 p0  S (ushr x0 (2 : Int32)) (x1 + (2 : Int32))
def f_J6_numberOfTrailingZeros_0f7a4_b49 (p0 : Int32)  (S : HS) (x0 : Int32) (x1 : Int32) : Option (Int32) :=
if x0 ≤ (16 : Int32) then
f_J6_numberOfTrailingZeros_0f7a4_b62 p0  S x0 x1
else
f_J6_numberOfTrailingZeros_0f7a4_b62 p0  S (ushr x0 (4 : Int32)) (x1 + (4 : Int32))
def f_J6_numberOfTrailingZeros_0f7a4_b34 (p0 : Int32)  (S : HS) (x0 : Int32) (x1 : Int32) : Option (Int32) :=
if x0 ≤ (256 : Int32) then
f_J6_numberOfTrailingZeros_0f7a4_b49 p0  S x0 x1
else
f_J6_numberOfTrailingZeros_0f7a4_b49 p0  S (ushr x0 (8 : Int32)) (x1 + (8 : Int32))
def f_J6_numberOfTrailingZeros_0f7a4 (p0 : Int32) (S : HS) : Option (Int32) :=
if 0 < ((p0 ^^^ (-1 : Int32)) &&& (p0 - (1 : Int32))) then
if ((p0 ^^^ (-1 : Int32)) &&& (p0 - (1 : Int32))) ≤ (65536 : Int32) then
f_J6_numberOfTrailingZeros_0f7a4_b34 p0  S ((p0 ^^^ (-1 : Int32)) &&& (p0 - (1 : Int32))) (1 : Int32)
else
f_J6_numberOfTrailingZeros_0f7a4_b34 p0  S (ushr ((p0 ^^^ (-1 : Int32)) &&& (p0 - (1 : Int32))) (16 : Int32)) ((1 : Int32) + (16 : Int32))
else
some (((p0 ^^^ (-1 : Int32)) &&& (p0 - (1 : Int32))) &&& (32 : Int32))
def rm_J6_numberOfTrailingZeros_0f7a4 : Room := { frames := 0, cells := 0, slots := 0, locals := 0 }
set_option maxRecDepth 100000 in
set_option maxHeartbeats 4000000 in
theorem c_J6_numberOfTrailingZeros_0f7a4 (l : Launch) (p0 : Int32)  (S : HS) (out : Int32) (h : f_J6_numberOfTrailingZeros_0f7a4 p0 S = some out) : Ct l yJ6_numberOfTrailingZeros_0f7a4 cJ6_numberOfTrailingZeros_0f7a4 2 (some .int) rm_J6_numberOfTrailingZeros_0f7a4 [vI p0] S (some (vI out)) S := by
  refine Ct.intro (own := RJ6) (lv := [(0, vI p0)]) (by decide +kernel) rfl ⟨rfl, rfl⟩ rfl (Nat.le_of_ble_eq_true rfl) ?_
  intro G hG hR
  revert h
  have hb74 : ∀ (x0 : Int32) (x1 : Int32), f_J6_numberOfTrailingZeros_0f7a4_b74 p0 S x0 x1 = some out → G 0 0 S [(0, vI x0), (1, vI x1)] 74 [] := by
    intro x0 x1
    unfold f_J6_numberOfTrailingZeros_0f7a4_b74
    refine s_iload_n hG dJ6_numberOfTrailingZeros_0f7a4_74 rfl ?_
    refine s_iload_n hG dJ6_numberOfTrailingZeros_0f7a4_75 rfl ?_
    refine s_iconst hG (v := (1 : Int32)) dJ6_numberOfTrailingZeros_0f7a4_76 (by decide) ?_
    refine s_iushr hG dJ6_numberOfTrailingZeros_0f7a4_77 ?_
    refine s_iadd hG dJ6_numberOfTrailingZeros_0f7a4_78 ?_
    exact s_riP hR dJ6_numberOfTrailingZeros_0f7a4_79
  have hb62 : ∀ (x0 : Int32) (x1 : Int32), f_J6_numberOfTrailingZeros_0f7a4_b62 p0 S x0 x1 = some out → G 0 0 S [(0, vI x0), (1, vI x1)] 62 [] := by
    intro x0 x1
    unfold f_J6_numberOfTrailingZeros_0f7a4_b62
    refine s_iload_n hG dJ6_numberOfTrailingZeros_0f7a4_62 rfl ?_
    refine s_iconst hG (v := (4 : Int32)) dJ6_numberOfTrailingZeros_0f7a4_63 (by decide) ?_
    refine s_icmp_le hG (tgt := 74) dJ6_numberOfTrailingZeros_0f7a4_64 (by decide) ?_ ?_
    · exact hb74 _ _
    · refine s_iinc hG (v := (x1 + (2 : Int32))) (lv' := [(1, vI (x1 + (2 : Int32))), (0, vI x0)]) dJ6_numberOfTrailingZeros_0f7a4_67 rfl rfl (by decide) rfl ?_
      refine s_iload_n hG dJ6_numberOfTrailingZeros_0f7a4_70 rfl ?_
      refine s_iconst hG (v := (2 : Int32)) dJ6_numberOfTrailingZeros_0f7a4_71 (by decide) ?_
      refine s_iushr hG dJ6_numberOfTrailingZeros_0f7a4_72 ?_
      refine s_istore_n hG (lv' := [(0, vI (ushr x0 (2 : Int32))), (1, vI (x1 + (2 : Int32)))]) dJ6_numberOfTrailingZeros_0f7a4_73 (by decide) rfl ?_
      exact hb74 _ _
  have hb49 : ∀ (x0 : Int32) (x1 : Int32), f_J6_numberOfTrailingZeros_0f7a4_b49 p0 S x0 x1 = some out → G 0 0 S [(0, vI x0), (1, vI x1)] 49 [] := by
    intro x0 x1
    unfold f_J6_numberOfTrailingZeros_0f7a4_b49
    refine s_iload_n hG dJ6_numberOfTrailingZeros_0f7a4_49 rfl ?_
    refine s_bipush hG (v := (16 : Int32)) dJ6_numberOfTrailingZeros_0f7a4_50 (by decide) ?_
    refine s_icmp_le hG (tgt := 62) dJ6_numberOfTrailingZeros_0f7a4_52 (by decide) ?_ ?_
    · exact hb62 _ _
    · refine s_iinc hG (v := (x1 + (4 : Int32))) (lv' := [(1, vI (x1 + (4 : Int32))), (0, vI x0)]) dJ6_numberOfTrailingZeros_0f7a4_55 rfl rfl (by decide) rfl ?_
      refine s_iload_n hG dJ6_numberOfTrailingZeros_0f7a4_58 rfl ?_
      refine s_iconst hG (v := (4 : Int32)) dJ6_numberOfTrailingZeros_0f7a4_59 (by decide) ?_
      refine s_iushr hG dJ6_numberOfTrailingZeros_0f7a4_60 ?_
      refine s_istore_n hG (lv' := [(0, vI (ushr x0 (4 : Int32))), (1, vI (x1 + (4 : Int32)))]) dJ6_numberOfTrailingZeros_0f7a4_61 (by decide) rfl ?_
      exact hb62 _ _
  have hb34 : ∀ (x0 : Int32) (x1 : Int32), f_J6_numberOfTrailingZeros_0f7a4_b34 p0 S x0 x1 = some out → G 0 0 S [(0, vI x0), (1, vI x1)] 34 [] := by
    intro x0 x1
    unfold f_J6_numberOfTrailingZeros_0f7a4_b34
    refine s_iload_n hG dJ6_numberOfTrailingZeros_0f7a4_34 rfl ?_
    refine s_sipush hG (v := (256 : Int32)) dJ6_numberOfTrailingZeros_0f7a4_35 (by decide) ?_
    refine s_icmp_le hG (tgt := 49) dJ6_numberOfTrailingZeros_0f7a4_38 (by decide) ?_ ?_
    · exact hb49 _ _
    · refine s_iinc hG (v := (x1 + (8 : Int32))) (lv' := [(1, vI (x1 + (8 : Int32))), (0, vI x0)]) dJ6_numberOfTrailingZeros_0f7a4_41 rfl rfl (by decide) rfl ?_
      refine s_iload_n hG dJ6_numberOfTrailingZeros_0f7a4_44 rfl ?_
      refine s_bipush hG (v := (8 : Int32)) dJ6_numberOfTrailingZeros_0f7a4_45 (by decide) ?_
      refine s_iushr hG dJ6_numberOfTrailingZeros_0f7a4_47 ?_
      refine s_istore_n hG (lv' := [(0, vI (ushr x0 (8 : Int32))), (1, vI (x1 + (8 : Int32)))]) dJ6_numberOfTrailingZeros_0f7a4_48 (by decide) rfl ?_
      exact hb49 _ _
  unfold f_J6_numberOfTrailingZeros_0f7a4
  refine s_iload_n hG dJ6_numberOfTrailingZeros_0f7a4_0 rfl ?_
  refine s_iconst hG (v := (-1 : Int32)) dJ6_numberOfTrailingZeros_0f7a4_1 (by decide) ?_
  refine s_ixor hG dJ6_numberOfTrailingZeros_0f7a4_2 ?_
  refine s_iload_n hG dJ6_numberOfTrailingZeros_0f7a4_3 rfl ?_
  refine s_iconst hG (v := (1 : Int32)) dJ6_numberOfTrailingZeros_0f7a4_4 (by decide) ?_
  refine s_isub hG dJ6_numberOfTrailingZeros_0f7a4_5 ?_
  refine s_iand hG dJ6_numberOfTrailingZeros_0f7a4_6 ?_
  refine s_istore_n hG (lv' := [(0, vI ((p0 ^^^ (-1 : Int32)) &&& (p0 - (1 : Int32))))]) dJ6_numberOfTrailingZeros_0f7a4_7 (by decide) rfl ?_
  refine s_iload_n hG dJ6_numberOfTrailingZeros_0f7a4_8 rfl ?_
  refine s_if_gt hG (tgt := 17) dJ6_numberOfTrailingZeros_0f7a4_9 (by decide) ?_ ?_
  · refine s_iconst hG (v := (1 : Int32)) dJ6_numberOfTrailingZeros_0f7a4_17 (by decide) ?_
    refine s_istore_n hG (lv' := [(1, vI (1 : Int32)), (0, vI ((p0 ^^^ (-1 : Int32)) &&& (p0 - (1 : Int32))))]) dJ6_numberOfTrailingZeros_0f7a4_18 (by decide) rfl ?_
    refine s_iload_n hG dJ6_numberOfTrailingZeros_0f7a4_19 rfl ?_
    refine s_ldcw hG (v := (65536 : Int32)) dJ6_numberOfTrailingZeros_0f7a4_20 (tb7 (mem_i 18 rfl)) ?_
    refine s_icmp_le hG (tgt := 34) dJ6_numberOfTrailingZeros_0f7a4_23 (by decide) ?_ ?_
    · refine s_lv hG [1, 0] rfl ?_
      exact hb34 _ _
    · refine s_iinc hG (v := ((1 : Int32) + (16 : Int32))) (lv' := [(1, vI ((1 : Int32) + (16 : Int32))), (0, vI ((p0 ^^^ (-1 : Int32)) &&& (p0 - (1 : Int32))))]) dJ6_numberOfTrailingZeros_0f7a4_26 rfl rfl (by decide) rfl ?_
      refine s_iload_n hG dJ6_numberOfTrailingZeros_0f7a4_29 rfl ?_
      refine s_bipush hG (v := (16 : Int32)) dJ6_numberOfTrailingZeros_0f7a4_30 (by decide) ?_
      refine s_iushr hG dJ6_numberOfTrailingZeros_0f7a4_32 ?_
      refine s_istore_n hG (lv' := [(0, vI (ushr ((p0 ^^^ (-1 : Int32)) &&& (p0 - (1 : Int32))) (16 : Int32))), (1, vI ((1 : Int32) + (16 : Int32)))]) dJ6_numberOfTrailingZeros_0f7a4_33 (by decide) rfl ?_
      exact hb34 _ _
  · refine s_iload_n hG dJ6_numberOfTrailingZeros_0f7a4_12 rfl ?_
    refine s_bipush hG (v := (32 : Int32)) dJ6_numberOfTrailingZeros_0f7a4_13 (by decide) ?_
    refine s_iand hG dJ6_numberOfTrailingZeros_0f7a4_15 ?_
    exact s_riP hR dJ6_numberOfTrailingZeros_0f7a4_16
