/-! 18.wrap: by program (wip/whole/gen.py) -/
theorem dL_addBox_0 : decode cL_addBox 0 = .ok (.aload 6, 2) := by decide +kernel
theorem dL_addBox_2 : decode cL_addBox 2 = .ok (.iconst 0, 1) := by decide +kernel
theorem dL_addBox_3 : decode cL_addBox 3 = .ok (.aload_n 0, 1) := by decide +kernel
theorem dL_addBox_4 : decode cL_addBox 4 = .ok (.iload_n 1, 1) := by decide +kernel
theorem dL_addBox_5 : decode cL_addBox 5 = .ok (.iload_n 2, 1) := by decide +kernel
theorem dL_addBox_6 : decode cL_addBox 6 = .ok (.iload_n 3, 1) := by decide +kernel
theorem dL_addBox_7 : decode cL_addBox 7 = .ok (.iload 4, 2) := by decide +kernel
theorem dL_addBox_9 : decode cL_addBox 9 = .ok (.iload 5, 2) := by decide +kernel
theorem dL_addBox_11 : decode cL_addBox 11 = .ok (.invokevirtual 17, 3) := by decide +kernel
theorem dL_addBox_14 : decode cL_addBox 14 = .ok (.i2l, 1) := by decide +kernel
theorem dL_addBox_15 : decode cL_addBox 15 = .ok (.lastore, 1) := by decide +kernel
theorem dL_addBox_16 : decode cL_addBox 16 = .ok (.goto 15, 3) := by decide +kernel
theorem dL_addBox_19 : decode cL_addBox 19 = .ok (.astore 7, 2) := by decide +kernel
theorem dL_addBox_21 : decode cL_addBox 21 = .ok (.iconst 1, 1) := by decide +kernel
theorem dL_addBox_22 : decode cL_addBox 22 = .ok (.ireturn, 1) := by decide +kernel
theorem dL_addBox_23 : decode cL_addBox 23 = .ok (.astore 7, 2) := by decide +kernel
theorem dL_addBox_25 : decode cL_addBox 25 = .ok (.iconst 2, 1) := by decide +kernel
theorem dL_addBox_26 : decode cL_addBox 26 = .ok (.ireturn, 1) := by decide +kernel
theorem dL_addBox_27 : decode cL_addBox 27 = .ok (.astore 7, 2) := by decide +kernel
theorem dL_addBox_29 : decode cL_addBox 29 = .ok (.iconst 3, 1) := by decide +kernel
theorem dL_addBox_30 : decode cL_addBox 30 = .ok (.ireturn, 1) := by decide +kernel
theorem dL_addBox_31 : decode cL_addBox 31 = .ok (.iconst 0, 1) := by decide +kernel
theorem dL_addBox_32 : decode cL_addBox 32 = .ok (.ireturn, 1) := by decide +kernel
theorem dL_addLabel_0 : decode cL_addLabel 0 = .ok (.aload 5, 2) := by decide +kernel
theorem dL_addLabel_2 : decode cL_addLabel 2 = .ok (.iconst 0, 1) := by decide +kernel
theorem dL_addLabel_3 : decode cL_addLabel 3 = .ok (.aload_n 0, 1) := by decide +kernel
theorem dL_addLabel_4 : decode cL_addLabel 4 = .ok (.iload_n 1, 1) := by decide +kernel
theorem dL_addLabel_5 : decode cL_addLabel 5 = .ok (.iload_n 2, 1) := by decide +kernel
theorem dL_addLabel_6 : decode cL_addLabel 6 = .ok (.iload_n 3, 1) := by decide +kernel
theorem dL_addLabel_7 : decode cL_addLabel 7 = .ok (.iload 4, 2) := by decide +kernel
theorem dL_addLabel_9 : decode cL_addLabel 9 = .ok (.invokevirtual 23, 3) := by decide +kernel
theorem dL_addLabel_12 : decode cL_addLabel 12 = .ok (.i2l, 1) := by decide +kernel
theorem dL_addLabel_13 : decode cL_addLabel 13 = .ok (.lastore, 1) := by decide +kernel
theorem dL_addLabel_14 : decode cL_addLabel 14 = .ok (.goto 15, 3) := by decide +kernel
theorem dL_addLabel_17 : decode cL_addLabel 17 = .ok (.astore 6, 2) := by decide +kernel
theorem dL_addLabel_19 : decode cL_addLabel 19 = .ok (.iconst 1, 1) := by decide +kernel
theorem dL_addLabel_20 : decode cL_addLabel 20 = .ok (.ireturn, 1) := by decide +kernel
theorem dL_addLabel_21 : decode cL_addLabel 21 = .ok (.astore 6, 2) := by decide +kernel
theorem dL_addLabel_23 : decode cL_addLabel 23 = .ok (.iconst 2, 1) := by decide +kernel
theorem dL_addLabel_24 : decode cL_addLabel 24 = .ok (.ireturn, 1) := by decide +kernel
theorem dL_addLabel_25 : decode cL_addLabel 25 = .ok (.astore 6, 2) := by decide +kernel
theorem dL_addLabel_27 : decode cL_addLabel 27 = .ok (.iconst 3, 1) := by decide +kernel
theorem dL_addLabel_28 : decode cL_addLabel 28 = .ok (.ireturn, 1) := by decide +kernel
theorem dL_addLabel_29 : decode cL_addLabel 29 = .ok (.iconst 0, 1) := by decide +kernel
theorem dL_addLabel_30 : decode cL_addLabel 30 = .ok (.ireturn, 1) := by decide +kernel
theorem dL_ask_0 : decode cL_ask 0 = .ok (.aload_n 1, 1) := by decide +kernel
theorem dL_ask_1 : decode cL_ask 1 = .ok (.iconst 0, 1) := by decide +kernel
theorem dL_ask_2 : decode cL_ask 2 = .ok (.aload_n 0, 1) := by decide +kernel
theorem dL_ask_3 : decode cL_ask 3 = .ok (.invokevirtual 84, 3) := by decide +kernel
theorem dL_ask_6 : decode cL_ask 6 = .ok (.i2l, 1) := by decide +kernel
theorem dL_ask_7 : decode cL_ask 7 = .ok (.lastore, 1) := by decide +kernel
theorem dL_ask_8 : decode cL_ask 8 = .ok (.goto 6, 3) := by decide +kernel
theorem dL_ask_11 : decode cL_ask 11 = .ok (.astore_n 2, 1) := by decide +kernel
theorem dL_ask_12 : decode cL_ask 12 = .ok (.iconst 1, 1) := by decide +kernel
theorem dL_ask_13 : decode cL_ask 13 = .ok (.ireturn, 1) := by decide +kernel
theorem dL_ask_14 : decode cL_ask 14 = .ok (.iconst 0, 1) := by decide +kernel
theorem dL_ask_15 : decode cL_ask 15 = .ok (.ireturn, 1) := by decide +kernel
theorem dL_back_0 : decode cL_back 0 = .ok (.aload_n 2, 1) := by decide +kernel
theorem dL_back_1 : decode cL_back 1 = .ok (.iconst 0, 1) := by decide +kernel
theorem dL_back_2 : decode cL_back 2 = .ok (.aload_n 0, 1) := by decide +kernel
theorem dL_back_3 : decode cL_back 3 = .ok (.iload_n 1, 1) := by decide +kernel
theorem dL_back_4 : decode cL_back 4 = .ok (.invokevirtual 41, 3) := by decide +kernel
theorem dL_back_7 : decode cL_back 7 = .ok (.i2l, 1) := by decide +kernel
theorem dL_back_8 : decode cL_back 8 = .ok (.lastore, 1) := by decide +kernel
theorem dL_back_9 : decode cL_back 9 = .ok (.goto 9, 3) := by decide +kernel
theorem dL_back_12 : decode cL_back 12 = .ok (.astore_n 3, 1) := by decide +kernel
theorem dL_back_13 : decode cL_back 13 = .ok (.iconst 1, 1) := by decide +kernel
theorem dL_back_14 : decode cL_back 14 = .ok (.ireturn, 1) := by decide +kernel
theorem dL_back_15 : decode cL_back 15 = .ok (.astore_n 3, 1) := by decide +kernel
theorem dL_back_16 : decode cL_back 16 = .ok (.iconst 2, 1) := by decide +kernel
theorem dL_back_17 : decode cL_back 17 = .ok (.ireturn, 1) := by decide +kernel
theorem dL_back_18 : decode cL_back 18 = .ok (.iconst 0, 1) := by decide +kernel
theorem dL_back_19 : decode cL_back 19 = .ok (.ireturn, 1) := by decide +kernel
theorem dL_below_0 : decode cL_below 0 = .ok (.aload_n 2, 1) := by decide +kernel
theorem dL_below_1 : decode cL_below 1 = .ok (.iconst 0, 1) := by decide +kernel
theorem dL_below_2 : decode cL_below 2 = .ok (.aload_n 0, 1) := by decide +kernel
theorem dL_below_3 : decode cL_below 3 = .ok (.iload_n 1, 1) := by decide +kernel
theorem dL_below_4 : decode cL_below 4 = .ok (.invokevirtual 50, 3) := by decide +kernel
theorem dL_below_7 : decode cL_below 7 = .ok (.i2l, 1) := by decide +kernel
theorem dL_below_8 : decode cL_below 8 = .ok (.lastore, 1) := by decide +kernel
theorem dL_below_9 : decode cL_below 9 = .ok (.goto 6, 3) := by decide +kernel
theorem dL_below_12 : decode cL_below 12 = .ok (.astore_n 3, 1) := by decide +kernel
theorem dL_below_13 : decode cL_below 13 = .ok (.iconst 1, 1) := by decide +kernel
theorem dL_below_14 : decode cL_below 14 = .ok (.ireturn, 1) := by decide +kernel
theorem dL_below_15 : decode cL_below 15 = .ok (.iconst 0, 1) := by decide +kernel
theorem dL_below_16 : decode cL_below 16 = .ok (.ireturn, 1) := by decide +kernel
theorem dL_branches_0 : decode cL_branches 0 = .ok (.aload_n 2, 1) := by decide +kernel
theorem dL_branches_1 : decode cL_branches 1 = .ok (.iconst 0, 1) := by decide +kernel
theorem dL_branches_2 : decode cL_branches 2 = .ok (.aload_n 0, 1) := by decide +kernel
theorem dL_branches_3 : decode cL_branches 3 = .ok (.iload_n 1, 1) := by decide +kernel
theorem dL_branches_4 : decode cL_branches 4 = .ok (.invokevirtual 47, 3) := by decide +kernel
theorem dL_branches_7 : decode cL_branches 7 = .ok (.i2l, 1) := by decide +kernel
theorem dL_branches_8 : decode cL_branches 8 = .ok (.lastore, 1) := by decide +kernel
theorem dL_branches_9 : decode cL_branches 9 = .ok (.goto 6, 3) := by decide +kernel
theorem dL_branches_12 : decode cL_branches 12 = .ok (.astore_n 3, 1) := by decide +kernel
theorem dL_branches_13 : decode cL_branches 13 = .ok (.iconst 1, 1) := by decide +kernel
theorem dL_branches_14 : decode cL_branches 14 = .ok (.ireturn, 1) := by decide +kernel
theorem dL_branches_15 : decode cL_branches 15 = .ok (.iconst 0, 1) := by decide +kernel
theorem dL_branches_16 : decode cL_branches 16 = .ok (.ireturn, 1) := by decide +kernel
theorem dL_charAnew_0 : decode cL_charAnew 0 = .ok (.aload_n 3, 1) := by decide +kernel
theorem dL_charAnew_1 : decode cL_charAnew 1 = .ok (.iconst 0, 1) := by decide +kernel
theorem dL_charAnew_2 : decode cL_charAnew 2 = .ok (.aload_n 0, 1) := by decide +kernel
theorem dL_charAnew_3 : decode cL_charAnew 3 = .ok (.iload_n 1, 1) := by decide +kernel
theorem dL_charAnew_4 : decode cL_charAnew 4 = .ok (.iload_n 2, 1) := by decide +kernel
theorem dL_charAnew_5 : decode cL_charAnew 5 = .ok (.invokevirtual 95, 3) := by decide +kernel
theorem dL_charAnew_8 : decode cL_charAnew 8 = .ok (.i2l, 1) := by decide +kernel
theorem dL_charAnew_9 : decode cL_charAnew 9 = .ok (.lastore, 1) := by decide +kernel
theorem dL_charAnew_10 : decode cL_charAnew 10 = .ok (.goto 11, 3) := by decide +kernel
theorem dL_charAnew_13 : decode cL_charAnew 13 = .ok (.astore 4, 2) := by decide +kernel
theorem dL_charAnew_15 : decode cL_charAnew 15 = .ok (.iconst 1, 1) := by decide +kernel
theorem dL_charAnew_16 : decode cL_charAnew 16 = .ok (.ireturn, 1) := by decide +kernel
theorem dL_charAnew_17 : decode cL_charAnew 17 = .ok (.astore 4, 2) := by decide +kernel
theorem dL_charAnew_19 : decode cL_charAnew 19 = .ok (.iconst 2, 1) := by decide +kernel
theorem dL_charAnew_20 : decode cL_charAnew 20 = .ok (.ireturn, 1) := by decide +kernel
theorem dL_charAnew_21 : decode cL_charAnew 21 = .ok (.iconst 0, 1) := by decide +kernel
theorem dL_charAnew_22 : decode cL_charAnew 22 = .ok (.ireturn, 1) := by decide +kernel
theorem dL_charAt_0 : decode cL_charAt 0 = .ok (.aload_n 3, 1) := by decide +kernel
theorem dL_charAt_1 : decode cL_charAt 1 = .ok (.iconst 0, 1) := by decide +kernel
theorem dL_charAt_2 : decode cL_charAt 2 = .ok (.aload_n 0, 1) := by decide +kernel
theorem dL_charAt_3 : decode cL_charAt 3 = .ok (.iload_n 1, 1) := by decide +kernel
theorem dL_charAt_4 : decode cL_charAt 4 = .ok (.iload_n 2, 1) := by decide +kernel
theorem dL_charAt_5 : decode cL_charAt 5 = .ok (.invokevirtual 91, 3) := by decide +kernel
theorem dL_charAt_8 : decode cL_charAt 8 = .ok (.i2l, 1) := by decide +kernel
theorem dL_charAt_9 : decode cL_charAt 9 = .ok (.lastore, 1) := by decide +kernel
theorem dL_charAt_10 : decode cL_charAt 10 = .ok (.goto 11, 3) := by decide +kernel
theorem dL_charAt_13 : decode cL_charAt 13 = .ok (.astore 4, 2) := by decide +kernel
theorem dL_charAt_15 : decode cL_charAt 15 = .ok (.iconst 1, 1) := by decide +kernel
theorem dL_charAt_16 : decode cL_charAt 16 = .ok (.ireturn, 1) := by decide +kernel
theorem dL_charAt_17 : decode cL_charAt 17 = .ok (.astore 4, 2) := by decide +kernel
theorem dL_charAt_19 : decode cL_charAt 19 = .ok (.iconst 2, 1) := by decide +kernel
theorem dL_charAt_20 : decode cL_charAt 20 = .ok (.ireturn, 1) := by decide +kernel
theorem dL_charAt_21 : decode cL_charAt 21 = .ok (.iconst 0, 1) := by decide +kernel
theorem dL_charAt_22 : decode cL_charAt 22 = .ok (.ireturn, 1) := by decide +kernel
theorem dL_counts_0 : decode cL_counts 0 = .ok (.aload_n 2, 1) := by decide +kernel
theorem dL_counts_1 : decode cL_counts 1 = .ok (.iconst 0, 1) := by decide +kernel
theorem dL_counts_2 : decode cL_counts 2 = .ok (.aload_n 0, 1) := by decide +kernel
theorem dL_counts_3 : decode cL_counts 3 = .ok (.iload_n 1, 1) := by decide +kernel
theorem dL_counts_4 : decode cL_counts 4 = .ok (.invokevirtual 56, 3) := by decide +kernel
theorem dL_counts_7 : decode cL_counts 7 = .ok (.ifCond .eq 7, 3) := by decide +kernel
theorem dL_counts_10 : decode cL_counts 10 = .ok (.lconst 1, 1) := by decide +kernel
theorem dL_counts_11 : decode cL_counts 11 = .ok (.goto 4, 3) := by decide +kernel
theorem dL_counts_14 : decode cL_counts 14 = .ok (.lconst 0, 1) := by decide +kernel
theorem dL_counts_15 : decode cL_counts 15 = .ok (.lastore, 1) := by decide +kernel
theorem dL_counts_16 : decode cL_counts 16 = .ok (.goto 6, 3) := by decide +kernel
theorem dL_counts_19 : decode cL_counts 19 = .ok (.astore_n 3, 1) := by decide +kernel
theorem dL_counts_20 : decode cL_counts 20 = .ok (.iconst 1, 1) := by decide +kernel
theorem dL_counts_21 : decode cL_counts 21 = .ok (.ireturn, 1) := by decide +kernel
theorem dL_counts_22 : decode cL_counts 22 = .ok (.iconst 0, 1) := by decide +kernel
theorem dL_counts_23 : decode cL_counts 23 = .ok (.ireturn, 1) := by decide +kernel
theorem dL_drop_0 : decode cL_drop 0 = .ok (.aload_n 3, 1) := by decide +kernel
theorem dL_drop_1 : decode cL_drop 1 = .ok (.iconst 0, 1) := by decide +kernel
theorem dL_drop_2 : decode cL_drop 2 = .ok (.aload_n 0, 1) := by decide +kernel
theorem dL_drop_3 : decode cL_drop 3 = .ok (.iload_n 1, 1) := by decide +kernel
theorem dL_drop_4 : decode cL_drop 4 = .ok (.iload_n 2, 1) := by decide +kernel
theorem dL_drop_5 : decode cL_drop 5 = .ok (.invokevirtual 37, 3) := by decide +kernel
theorem dL_drop_8 : decode cL_drop 8 = .ok (.i2l, 1) := by decide +kernel
theorem dL_drop_9 : decode cL_drop 9 = .ok (.lastore, 1) := by decide +kernel
theorem dL_drop_10 : decode cL_drop 10 = .ok (.goto 11, 3) := by decide +kernel
theorem dL_drop_13 : decode cL_drop 13 = .ok (.astore 4, 2) := by decide +kernel
theorem dL_drop_15 : decode cL_drop 15 = .ok (.iconst 1, 1) := by decide +kernel
theorem dL_drop_16 : decode cL_drop 16 = .ok (.ireturn, 1) := by decide +kernel
theorem dL_drop_17 : decode cL_drop 17 = .ok (.astore 4, 2) := by decide +kernel
theorem dL_drop_19 : decode cL_drop 19 = .ok (.iconst 2, 1) := by decide +kernel
theorem dL_drop_20 : decode cL_drop 20 = .ok (.ireturn, 1) := by decide +kernel
theorem dL_drop_21 : decode cL_drop 21 = .ok (.iconst 0, 1) := by decide +kernel
theorem dL_drop_22 : decode cL_drop 22 = .ok (.ireturn, 1) := by decide +kernel
theorem dL_holds_0 : decode cL_holds 0 = .ok (.aload_n 2, 1) := by decide +kernel
theorem dL_holds_1 : decode cL_holds 1 = .ok (.iconst 0, 1) := by decide +kernel
theorem dL_holds_2 : decode cL_holds 2 = .ok (.aload_n 0, 1) := by decide +kernel
theorem dL_holds_3 : decode cL_holds 3 = .ok (.iload_n 1, 1) := by decide +kernel
theorem dL_holds_4 : decode cL_holds 4 = .ok (.invokevirtual 77, 3) := by decide +kernel
theorem dL_holds_7 : decode cL_holds 7 = .ok (.ifCond .eq 7, 3) := by decide +kernel
theorem dL_holds_10 : decode cL_holds 10 = .ok (.lconst 1, 1) := by decide +kernel
theorem dL_holds_11 : decode cL_holds 11 = .ok (.goto 4, 3) := by decide +kernel
theorem dL_holds_14 : decode cL_holds 14 = .ok (.lconst 0, 1) := by decide +kernel
theorem dL_holds_15 : decode cL_holds 15 = .ok (.lastore, 1) := by decide +kernel
theorem dL_holds_16 : decode cL_holds 16 = .ok (.goto 9, 3) := by decide +kernel
theorem dL_holds_19 : decode cL_holds 19 = .ok (.astore_n 3, 1) := by decide +kernel
theorem dL_holds_20 : decode cL_holds 20 = .ok (.iconst 1, 1) := by decide +kernel
theorem dL_holds_21 : decode cL_holds 21 = .ok (.ireturn, 1) := by decide +kernel
theorem dL_holds_22 : decode cL_holds 22 = .ok (.astore_n 3, 1) := by decide +kernel
theorem dL_holds_23 : decode cL_holds 23 = .ok (.iconst 2, 1) := by decide +kernel
theorem dL_holds_24 : decode cL_holds 24 = .ok (.ireturn, 1) := by decide +kernel
theorem dL_holds_25 : decode cL_holds 25 = .ok (.iconst 0, 1) := by decide +kernel
theorem dL_holds_26 : decode cL_holds 26 = .ok (.ireturn, 1) := by decide +kernel
theorem dL_isInForce_0 : decode cL_isInForce 0 = .ok (.aload_n 2, 1) := by decide +kernel
theorem dL_isInForce_1 : decode cL_isInForce 1 = .ok (.iconst 0, 1) := by decide +kernel
theorem dL_isInForce_2 : decode cL_isInForce 2 = .ok (.aload_n 0, 1) := by decide +kernel
theorem dL_isInForce_3 : decode cL_isInForce 3 = .ok (.iload_n 1, 1) := by decide +kernel
theorem dL_isInForce_4 : decode cL_isInForce 4 = .ok (.invokevirtual 74, 3) := by decide +kernel
theorem dL_isInForce_7 : decode cL_isInForce 7 = .ok (.ifCond .eq 7, 3) := by decide +kernel
theorem dL_isInForce_10 : decode cL_isInForce 10 = .ok (.lconst 1, 1) := by decide +kernel
theorem dL_isInForce_11 : decode cL_isInForce 11 = .ok (.goto 4, 3) := by decide +kernel
theorem dL_isInForce_14 : decode cL_isInForce 14 = .ok (.lconst 0, 1) := by decide +kernel
theorem dL_isInForce_15 : decode cL_isInForce 15 = .ok (.lastore, 1) := by decide +kernel
theorem dL_isInForce_16 : decode cL_isInForce 16 = .ok (.goto 6, 3) := by decide +kernel
theorem dL_isInForce_19 : decode cL_isInForce 19 = .ok (.astore_n 3, 1) := by decide +kernel
theorem dL_isInForce_20 : decode cL_isInForce 20 = .ok (.iconst 1, 1) := by decide +kernel
theorem dL_isInForce_21 : decode cL_isInForce 21 = .ok (.ireturn, 1) := by decide +kernel
theorem dL_isInForce_22 : decode cL_isInForce 22 = .ok (.iconst 0, 1) := by decide +kernel
theorem dL_isInForce_23 : decode cL_isInForce 23 = .ok (.ireturn, 1) := by decide +kernel
theorem dL_isThere_0 : decode cL_isThere 0 = .ok (.aload_n 2, 1) := by decide +kernel
theorem dL_isThere_1 : decode cL_isThere 1 = .ok (.iconst 0, 1) := by decide +kernel
theorem dL_isThere_2 : decode cL_isThere 2 = .ok (.aload_n 0, 1) := by decide +kernel
theorem dL_isThere_3 : decode cL_isThere 3 = .ok (.iload_n 1, 1) := by decide +kernel
theorem dL_isThere_4 : decode cL_isThere 4 = .ok (.invokevirtual 63, 3) := by decide +kernel
theorem dL_isThere_7 : decode cL_isThere 7 = .ok (.ifCond .eq 7, 3) := by decide +kernel
theorem dL_isThere_10 : decode cL_isThere 10 = .ok (.lconst 1, 1) := by decide +kernel
theorem dL_isThere_11 : decode cL_isThere 11 = .ok (.goto 4, 3) := by decide +kernel
theorem dL_isThere_14 : decode cL_isThere 14 = .ok (.lconst 0, 1) := by decide +kernel
theorem dL_isThere_15 : decode cL_isThere 15 = .ok (.lastore, 1) := by decide +kernel
theorem dL_isThere_16 : decode cL_isThere 16 = .ok (.goto 6, 3) := by decide +kernel
theorem dL_isThere_19 : decode cL_isThere 19 = .ok (.astore_n 3, 1) := by decide +kernel
theorem dL_isThere_20 : decode cL_isThere 20 = .ok (.iconst 1, 1) := by decide +kernel
theorem dL_isThere_21 : decode cL_isThere 21 = .ok (.ireturn, 1) := by decide +kernel
theorem dL_isThere_22 : decode cL_isThere 22 = .ok (.iconst 0, 1) := by decide +kernel
theorem dL_isThere_23 : decode cL_isThere 23 = .ok (.ireturn, 1) := by decide +kernel
theorem dL_isVoid_0 : decode cL_isVoid 0 = .ok (.aload_n 2, 1) := by decide +kernel
theorem dL_isVoid_1 : decode cL_isVoid 1 = .ok (.iconst 0, 1) := by decide +kernel
theorem dL_isVoid_2 : decode cL_isVoid 2 = .ok (.aload_n 0, 1) := by decide +kernel
theorem dL_isVoid_3 : decode cL_isVoid 3 = .ok (.iload_n 1, 1) := by decide +kernel
theorem dL_isVoid_4 : decode cL_isVoid 4 = .ok (.invokevirtual 60, 3) := by decide +kernel
theorem dL_isVoid_7 : decode cL_isVoid 7 = .ok (.ifCond .eq 7, 3) := by decide +kernel
theorem dL_isVoid_10 : decode cL_isVoid 10 = .ok (.lconst 1, 1) := by decide +kernel
theorem dL_isVoid_11 : decode cL_isVoid 11 = .ok (.goto 4, 3) := by decide +kernel
theorem dL_isVoid_14 : decode cL_isVoid 14 = .ok (.lconst 0, 1) := by decide +kernel
theorem dL_isVoid_15 : decode cL_isVoid 15 = .ok (.lastore, 1) := by decide +kernel
theorem dL_isVoid_16 : decode cL_isVoid 16 = .ok (.goto 6, 3) := by decide +kernel
theorem dL_isVoid_19 : decode cL_isVoid 19 = .ok (.astore_n 3, 1) := by decide +kernel
theorem dL_isVoid_20 : decode cL_isVoid 20 = .ok (.iconst 1, 1) := by decide +kernel
theorem dL_isVoid_21 : decode cL_isVoid 21 = .ok (.ireturn, 1) := by decide +kernel
theorem dL_isVoid_22 : decode cL_isVoid 22 = .ok (.iconst 0, 1) := by decide +kernel
theorem dL_isVoid_23 : decode cL_isVoid 23 = .ok (.ireturn, 1) := by decide +kernel
theorem dL_lay_0 : decode cL_lay 0 = .ok (.aload 5, 2) := by decide +kernel
theorem dL_lay_2 : decode cL_lay 2 = .ok (.iconst 0, 1) := by decide +kernel
theorem dL_lay_3 : decode cL_lay 3 = .ok (.aload_n 0, 1) := by decide +kernel
theorem dL_lay_4 : decode cL_lay 4 = .ok (.iload_n 1, 1) := by decide +kernel
theorem dL_lay_5 : decode cL_lay 5 = .ok (.iload_n 2, 1) := by decide +kernel
theorem dL_lay_6 : decode cL_lay 6 = .ok (.iload_n 3, 1) := by decide +kernel
theorem dL_lay_7 : decode cL_lay 7 = .ok (.iload 4, 2) := by decide +kernel
theorem dL_lay_9 : decode cL_lay 9 = .ok (.invokevirtual 34, 3) := by decide +kernel
theorem dL_lay_12 : decode cL_lay 12 = .ok (.i2l, 1) := by decide +kernel
theorem dL_lay_13 : decode cL_lay 13 = .ok (.lastore, 1) := by decide +kernel
theorem dL_lay_14 : decode cL_lay 14 = .ok (.goto 15, 3) := by decide +kernel
theorem dL_lay_17 : decode cL_lay 17 = .ok (.astore 6, 2) := by decide +kernel
theorem dL_lay_19 : decode cL_lay 19 = .ok (.iconst 1, 1) := by decide +kernel
theorem dL_lay_20 : decode cL_lay 20 = .ok (.ireturn, 1) := by decide +kernel
theorem dL_lay_21 : decode cL_lay 21 = .ok (.astore 6, 2) := by decide +kernel
theorem dL_lay_23 : decode cL_lay 23 = .ok (.iconst 2, 1) := by decide +kernel
theorem dL_lay_24 : decode cL_lay 24 = .ok (.ireturn, 1) := by decide +kernel
theorem dL_lay_25 : decode cL_lay 25 = .ok (.astore 6, 2) := by decide +kernel
theorem dL_lay_27 : decode cL_lay 27 = .ok (.iconst 3, 1) := by decide +kernel
theorem dL_lay_28 : decode cL_lay 28 = .ok (.ireturn, 1) := by decide +kernel
theorem dL_lay_29 : decode cL_lay 29 = .ok (.iconst 0, 1) := by decide +kernel
theorem dL_lay_30 : decode cL_lay 30 = .ok (.ireturn, 1) := by decide +kernel
theorem dL_length_0 : decode cL_length 0 = .ok (.aload_n 2, 1) := by decide +kernel
theorem dL_length_1 : decode cL_length 1 = .ok (.iconst 0, 1) := by decide +kernel
theorem dL_length_2 : decode cL_length 2 = .ok (.aload_n 0, 1) := by decide +kernel
theorem dL_length_3 : decode cL_length 3 = .ok (.iload_n 1, 1) := by decide +kernel
theorem dL_length_4 : decode cL_length 4 = .ok (.invokevirtual 88, 3) := by decide +kernel
theorem dL_length_7 : decode cL_length 7 = .ok (.i2l, 1) := by decide +kernel
theorem dL_length_8 : decode cL_length 8 = .ok (.lastore, 1) := by decide +kernel
theorem dL_length_9 : decode cL_length 9 = .ok (.goto 9, 3) := by decide +kernel
theorem dL_length_12 : decode cL_length 12 = .ok (.astore_n 3, 1) := by decide +kernel
theorem dL_length_13 : decode cL_length 13 = .ok (.iconst 1, 1) := by decide +kernel
theorem dL_length_14 : decode cL_length 14 = .ok (.ireturn, 1) := by decide +kernel
theorem dL_length_15 : decode cL_length 15 = .ok (.astore_n 3, 1) := by decide +kernel
theorem dL_length_16 : decode cL_length 16 = .ok (.iconst 2, 1) := by decide +kernel
theorem dL_length_17 : decode cL_length 17 = .ok (.ireturn, 1) := by decide +kernel
theorem dL_length_18 : decode cL_length 18 = .ok (.iconst 0, 1) := by decide +kernel
theorem dL_length_19 : decode cL_length 19 = .ok (.ireturn, 1) := by decide +kernel
theorem dL_move_0 : decode cL_move 0 = .ok (.aload 5, 2) := by decide +kernel
theorem dL_move_2 : decode cL_move 2 = .ok (.iconst 0, 1) := by decide +kernel
theorem dL_move_3 : decode cL_move 3 = .ok (.aload_n 0, 1) := by decide +kernel
theorem dL_move_4 : decode cL_move 4 = .ok (.iload_n 1, 1) := by decide +kernel
theorem dL_move_5 : decode cL_move 5 = .ok (.iload_n 2, 1) := by decide +kernel
theorem dL_move_6 : decode cL_move 6 = .ok (.iload_n 3, 1) := by decide +kernel
theorem dL_move_7 : decode cL_move 7 = .ok (.iload 4, 2) := by decide +kernel
theorem dL_move_9 : decode cL_move 9 = .ok (.invokevirtual 27, 3) := by decide +kernel
theorem dL_move_12 : decode cL_move 12 = .ok (.i2l, 1) := by decide +kernel
theorem dL_move_13 : decode cL_move 13 = .ok (.lastore, 1) := by decide +kernel
theorem dL_move_14 : decode cL_move 14 = .ok (.goto 15, 3) := by decide +kernel
theorem dL_move_17 : decode cL_move 17 = .ok (.astore 6, 2) := by decide +kernel
theorem dL_move_19 : decode cL_move 19 = .ok (.iconst 1, 1) := by decide +kernel
theorem dL_move_20 : decode cL_move 20 = .ok (.ireturn, 1) := by decide +kernel
theorem dL_move_21 : decode cL_move 21 = .ok (.astore 6, 2) := by decide +kernel
theorem dL_move_23 : decode cL_move 23 = .ok (.iconst 2, 1) := by decide +kernel
theorem dL_move_24 : decode cL_move 24 = .ok (.ireturn, 1) := by decide +kernel
theorem dL_move_25 : decode cL_move 25 = .ok (.astore 6, 2) := by decide +kernel
theorem dL_move_27 : decode cL_move 27 = .ok (.iconst 3, 1) := by decide +kernel
theorem dL_move_28 : decode cL_move 28 = .ok (.ireturn, 1) := by decide +kernel
theorem dL_move_29 : decode cL_move 29 = .ok (.iconst 0, 1) := by decide +kernel
theorem dL_move_30 : decode cL_move 30 = .ok (.ireturn, 1) := by decide +kernel
theorem dL_number_0 : decode cL_number 0 = .ok (.aload_n 3, 1) := by decide +kernel
theorem dL_number_1 : decode cL_number 1 = .ok (.iconst 0, 1) := by decide +kernel
theorem dL_number_2 : decode cL_number 2 = .ok (.aload_n 0, 1) := by decide +kernel
theorem dL_number_3 : decode cL_number 3 = .ok (.iload_n 1, 1) := by decide +kernel
theorem dL_number_4 : decode cL_number 4 = .ok (.iload_n 2, 1) := by decide +kernel
theorem dL_number_5 : decode cL_number 5 = .ok (.invokevirtual 66, 3) := by decide +kernel
theorem dL_number_8 : decode cL_number 8 = .ok (.i2l, 1) := by decide +kernel
theorem dL_number_9 : decode cL_number 9 = .ok (.lastore, 1) := by decide +kernel
theorem dL_number_10 : decode cL_number 10 = .ok (.goto 15, 3) := by decide +kernel
theorem dL_number_13 : decode cL_number 13 = .ok (.astore 4, 2) := by decide +kernel
theorem dL_number_15 : decode cL_number 15 = .ok (.iconst 1, 1) := by decide +kernel
theorem dL_number_16 : decode cL_number 16 = .ok (.ireturn, 1) := by decide +kernel
theorem dL_number_17 : decode cL_number 17 = .ok (.astore 4, 2) := by decide +kernel
theorem dL_number_19 : decode cL_number 19 = .ok (.iconst 2, 1) := by decide +kernel
theorem dL_number_20 : decode cL_number 20 = .ok (.ireturn, 1) := by decide +kernel
theorem dL_number_21 : decode cL_number 21 = .ok (.astore 4, 2) := by decide +kernel
theorem dL_number_23 : decode cL_number 23 = .ok (.iconst 3, 1) := by decide +kernel
theorem dL_number_24 : decode cL_number 24 = .ok (.ireturn, 1) := by decide +kernel
theorem dL_number_25 : decode cL_number 25 = .ok (.iconst 0, 1) := by decide +kernel
theorem dL_number_26 : decode cL_number 26 = .ok (.ireturn, 1) := by decide +kernel
theorem dL_numberAnew_0 : decode cL_numberAnew 0 = .ok (.aload_n 3, 1) := by decide +kernel
theorem dL_numberAnew_1 : decode cL_numberAnew 1 = .ok (.iconst 0, 1) := by decide +kernel
theorem dL_numberAnew_2 : decode cL_numberAnew 2 = .ok (.aload_n 0, 1) := by decide +kernel
theorem dL_numberAnew_3 : decode cL_numberAnew 3 = .ok (.iload_n 1, 1) := by decide +kernel
theorem dL_numberAnew_4 : decode cL_numberAnew 4 = .ok (.iload_n 2, 1) := by decide +kernel
theorem dL_numberAnew_5 : decode cL_numberAnew 5 = .ok (.invokevirtual 71, 3) := by decide +kernel
theorem dL_numberAnew_8 : decode cL_numberAnew 8 = .ok (.i2l, 1) := by decide +kernel
theorem dL_numberAnew_9 : decode cL_numberAnew 9 = .ok (.lastore, 1) := by decide +kernel
theorem dL_numberAnew_10 : decode cL_numberAnew 10 = .ok (.goto 15, 3) := by decide +kernel
theorem dL_numberAnew_13 : decode cL_numberAnew 13 = .ok (.astore 4, 2) := by decide +kernel
theorem dL_numberAnew_15 : decode cL_numberAnew 15 = .ok (.iconst 1, 1) := by decide +kernel
theorem dL_numberAnew_16 : decode cL_numberAnew 16 = .ok (.ireturn, 1) := by decide +kernel
theorem dL_numberAnew_17 : decode cL_numberAnew 17 = .ok (.astore 4, 2) := by decide +kernel
theorem dL_numberAnew_19 : decode cL_numberAnew 19 = .ok (.iconst 2, 1) := by decide +kernel
theorem dL_numberAnew_20 : decode cL_numberAnew 20 = .ok (.ireturn, 1) := by decide +kernel
theorem dL_numberAnew_21 : decode cL_numberAnew 21 = .ok (.astore 4, 2) := by decide +kernel
theorem dL_numberAnew_23 : decode cL_numberAnew 23 = .ok (.iconst 3, 1) := by decide +kernel
theorem dL_numberAnew_24 : decode cL_numberAnew 24 = .ok (.ireturn, 1) := by decide +kernel
theorem dL_numberAnew_25 : decode cL_numberAnew 25 = .ok (.iconst 0, 1) := by decide +kernel
theorem dL_numberAnew_26 : decode cL_numberAnew 26 = .ok (.ireturn, 1) := by decide +kernel
theorem dL_on_0 : decode cL_on 0 = .ok (.aload_n 3, 1) := by decide +kernel
theorem dL_on_1 : decode cL_on 1 = .ok (.iconst 0, 1) := by decide +kernel
theorem dL_on_2 : decode cL_on 2 = .ok (.aload_n 0, 1) := by decide +kernel
theorem dL_on_3 : decode cL_on 3 = .ok (.iload_n 1, 1) := by decide +kernel
theorem dL_on_4 : decode cL_on 4 = .ok (.iload_n 2, 1) := by decide +kernel
theorem dL_on_5 : decode cL_on 5 = .ok (.invokevirtual 44, 3) := by decide +kernel
theorem dL_on_8 : decode cL_on 8 = .ok (.i2l, 1) := by decide +kernel
theorem dL_on_9 : decode cL_on 9 = .ok (.lastore, 1) := by decide +kernel
theorem dL_on_10 : decode cL_on 10 = .ok (.goto 7, 3) := by decide +kernel
theorem dL_on_13 : decode cL_on 13 = .ok (.astore 4, 2) := by decide +kernel
theorem dL_on_15 : decode cL_on 15 = .ok (.iconst 1, 1) := by decide +kernel
theorem dL_on_16 : decode cL_on 16 = .ok (.ireturn, 1) := by decide +kernel
theorem dL_on_17 : decode cL_on 17 = .ok (.iconst 0, 1) := by decide +kernel
theorem dL_on_18 : decode cL_on 18 = .ok (.ireturn, 1) := by decide +kernel
theorem dL_part_0 : decode cL_part 0 = .ok (.aload_n 3, 1) := by decide +kernel
theorem dL_part_1 : decode cL_part 1 = .ok (.iconst 0, 1) := by decide +kernel
theorem dL_part_2 : decode cL_part 2 = .ok (.aload_n 0, 1) := by decide +kernel
theorem dL_part_3 : decode cL_part 3 = .ok (.iload_n 1, 1) := by decide +kernel
theorem dL_part_4 : decode cL_part 4 = .ok (.iload_n 2, 1) := by decide +kernel
theorem dL_part_5 : decode cL_part 5 = .ok (.invokevirtual 80, 3) := by decide +kernel
theorem dL_part_8 : decode cL_part 8 = .ok (.i2l, 1) := by decide +kernel
theorem dL_part_9 : decode cL_part 9 = .ok (.lastore, 1) := by decide +kernel
theorem dL_part_10 : decode cL_part 10 = .ok (.goto 11, 3) := by decide +kernel
theorem dL_part_13 : decode cL_part 13 = .ok (.astore 4, 2) := by decide +kernel
theorem dL_part_15 : decode cL_part 15 = .ok (.iconst 1, 1) := by decide +kernel
theorem dL_part_16 : decode cL_part 16 = .ok (.ireturn, 1) := by decide +kernel
theorem dL_part_17 : decode cL_part 17 = .ok (.astore 4, 2) := by decide +kernel
theorem dL_part_19 : decode cL_part 19 = .ok (.iconst 2, 1) := by decide +kernel
theorem dL_part_20 : decode cL_part 20 = .ok (.ireturn, 1) := by decide +kernel
theorem dL_part_21 : decode cL_part 21 = .ok (.iconst 0, 1) := by decide +kernel
theorem dL_part_22 : decode cL_part 22 = .ok (.ireturn, 1) := by decide +kernel
theorem dL_resize_0 : decode cL_resize 0 = .ok (.aload 5, 2) := by decide +kernel
theorem dL_resize_2 : decode cL_resize 2 = .ok (.iconst 0, 1) := by decide +kernel
theorem dL_resize_3 : decode cL_resize 3 = .ok (.aload_n 0, 1) := by decide +kernel
theorem dL_resize_4 : decode cL_resize 4 = .ok (.iload_n 1, 1) := by decide +kernel
theorem dL_resize_5 : decode cL_resize 5 = .ok (.iload_n 2, 1) := by decide +kernel
theorem dL_resize_6 : decode cL_resize 6 = .ok (.iload_n 3, 1) := by decide +kernel
theorem dL_resize_7 : decode cL_resize 7 = .ok (.iload 4, 2) := by decide +kernel
theorem dL_resize_9 : decode cL_resize 9 = .ok (.invokevirtual 31, 3) := by decide +kernel
theorem dL_resize_12 : decode cL_resize 12 = .ok (.i2l, 1) := by decide +kernel
theorem dL_resize_13 : decode cL_resize 13 = .ok (.lastore, 1) := by decide +kernel
theorem dL_resize_14 : decode cL_resize 14 = .ok (.goto 15, 3) := by decide +kernel
theorem dL_resize_17 : decode cL_resize 17 = .ok (.astore 6, 2) := by decide +kernel
theorem dL_resize_19 : decode cL_resize 19 = .ok (.iconst 1, 1) := by decide +kernel
theorem dL_resize_20 : decode cL_resize 20 = .ok (.ireturn, 1) := by decide +kernel
theorem dL_resize_21 : decode cL_resize 21 = .ok (.astore 6, 2) := by decide +kernel
theorem dL_resize_23 : decode cL_resize 23 = .ok (.iconst 2, 1) := by decide +kernel
theorem dL_resize_24 : decode cL_resize 24 = .ok (.ireturn, 1) := by decide +kernel
theorem dL_resize_25 : decode cL_resize 25 = .ok (.astore 6, 2) := by decide +kernel
theorem dL_resize_27 : decode cL_resize 27 = .ok (.iconst 3, 1) := by decide +kernel
theorem dL_resize_28 : decode cL_resize 28 = .ok (.ireturn, 1) := by decide +kernel
theorem dL_resize_29 : decode cL_resize 29 = .ok (.iconst 0, 1) := by decide +kernel
theorem dL_resize_30 : decode cL_resize 30 = .ok (.ireturn, 1) := by decide +kernel
theorem dL_spell_0 : decode cL_spell 0 = .ok (.aload_n 2, 1) := by decide +kernel
theorem dL_spell_1 : decode cL_spell 1 = .ok (.iconst 0, 1) := by decide +kernel
theorem dL_spell_2 : decode cL_spell 2 = .ok (.aload_n 0, 1) := by decide +kernel
theorem dL_spell_3 : decode cL_spell 3 = .ok (.iload_n 1, 1) := by decide +kernel
theorem dL_spell_4 : decode cL_spell 4 = .ok (.invokevirtual 7, 3) := by decide +kernel
theorem dL_spell_7 : decode cL_spell 7 = .ok (.i2l, 1) := by decide +kernel
theorem dL_spell_8 : decode cL_spell 8 = .ok (.lastore, 1) := by decide +kernel
theorem dL_spell_9 : decode cL_spell 9 = .ok (.goto 9, 3) := by decide +kernel
theorem dL_spell_12 : decode cL_spell 12 = .ok (.astore_n 3, 1) := by decide +kernel
theorem dL_spell_13 : decode cL_spell 13 = .ok (.iconst 1, 1) := by decide +kernel
theorem dL_spell_14 : decode cL_spell 14 = .ok (.ireturn, 1) := by decide +kernel
theorem dL_spell_15 : decode cL_spell 15 = .ok (.astore_n 3, 1) := by decide +kernel
theorem dL_spell_16 : decode cL_spell 16 = .ok (.iconst 2, 1) := by decide +kernel
theorem dL_spell_17 : decode cL_spell 17 = .ok (.ireturn, 1) := by decide +kernel
theorem dL_spell_18 : decode cL_spell 18 = .ok (.iconst 0, 1) := by decide +kernel
theorem dL_spell_19 : decode cL_spell 19 = .ok (.ireturn, 1) := by decide +kernel
theorem dL_standsAt_0 : decode cL_standsAt 0 = .ok (.aload_n 2, 1) := by decide +kernel
theorem dL_standsAt_1 : decode cL_standsAt 1 = .ok (.iconst 0, 1) := by decide +kernel
theorem dL_standsAt_2 : decode cL_standsAt 2 = .ok (.aload_n 0, 1) := by decide +kernel
theorem dL_standsAt_3 : decode cL_standsAt 3 = .ok (.iload_n 1, 1) := by decide +kernel
theorem dL_standsAt_4 : decode cL_standsAt 4 = .ok (.invokevirtual 53, 3) := by decide +kernel
theorem dL_standsAt_7 : decode cL_standsAt 7 = .ok (.i2l, 1) := by decide +kernel
theorem dL_standsAt_8 : decode cL_standsAt 8 = .ok (.lastore, 1) := by decide +kernel
theorem dL_standsAt_9 : decode cL_standsAt 9 = .ok (.goto 6, 3) := by decide +kernel
theorem dL_standsAt_12 : decode cL_standsAt 12 = .ok (.astore_n 3, 1) := by decide +kernel
theorem dL_standsAt_13 : decode cL_standsAt 13 = .ok (.iconst 1, 1) := by decide +kernel
theorem dL_standsAt_14 : decode cL_standsAt 14 = .ok (.ireturn, 1) := by decide +kernel
theorem dL_standsAt_15 : decode cL_standsAt 15 = .ok (.iconst 0, 1) := by decide +kernel
theorem dL_standsAt_16 : decode cL_standsAt 16 = .ok (.ireturn, 1) := by decide +kernel
def hh_L_addBox : List (Nat × Nat × Nat × Nat) := [(0, 16, 19, 13), (0, 16, 23, 21), (0, 16, 27, 15)]
theorem ml_RL_17 : MV RL 17 7 yX7_addBox 5 := ⟨⟨by decide +kernel, by decide +kernel, by decide +kernel⟩, tb5 (mem_i 21 rfl), tb0 (mem_i 1 rfl), Or.inl (tb5 (mem_i 20 rfl)), RX7, TX7, 9, rfl, rfl, tb5 (mem_i 22 rfl)⟩
theorem ctb_L_addBox_11_1 : CTb RL (tableOf hh_L_addBox) 11 1 19 := ⟨[], ⟨0, 16, 19, 13⟩, [⟨0, 16, 23, 21⟩, ⟨0, 16, 27, 15⟩], "java/lang/IndexOutOfBoundsException", rfl, (fun z hz => by
    cases hz), rfl, by decide, exin (mem_i 46 (by decide +kernel)), nf2 (mem_i 22 (by decide +kernel)), rfl⟩
theorem ctb_L_addBox_11_2 : CTb RL (tableOf hh_L_addBox) 11 2 23 := ⟨[⟨0, 16, 19, 13⟩], ⟨0, 16, 23, 21⟩, [⟨0, 16, 27, 15⟩], "java/lang/IllegalArgumentException", rfl, (fun z hz => by
    rcases List.mem_cons.mp hz with rfl | hz
    · exact Or.inr ⟨by decide, "java/lang/IndexOutOfBoundsException", exin (mem_i 46 (by decide +kernel)), mem_i 3 (by decide +kernel)⟩
    cases hz), rfl, by decide, exin (mem_i 114 (by decide +kernel)), nf3 (mem_i 0 (by decide +kernel)), rfl⟩
theorem ctb_L_addBox_11_3 : CTb RL (tableOf hh_L_addBox) 11 3 27 := ⟨[⟨0, 16, 19, 13⟩, ⟨0, 16, 23, 21⟩], ⟨0, 16, 27, 15⟩, [], "java/lang/IllegalStateException", rfl, (fun z hz => by
    rcases List.mem_cons.mp hz with rfl | hz
    · exact Or.inr ⟨by decide, "java/lang/IndexOutOfBoundsException", exin (mem_i 46 (by decide +kernel)), mem_i 6 (by decide +kernel)⟩
    rcases List.mem_cons.mp hz with rfl | hz
    · exact Or.inr ⟨by decide, "java/lang/IllegalArgumentException", exin (mem_i 114 (by decide +kernel)), mem_i 7 (by decide +kernel)⟩
    cases hz), rfl, by decide, exin (mem_i 47 (by decide +kernel)), nf2 (mem_i 29 (by decide +kernel)), rfl⟩
def hh_L_addLabel : List (Nat × Nat × Nat × Nat) := [(0, 14, 17, 13), (0, 14, 21, 21), (0, 14, 25, 15)]
theorem ml_RL_23 : MV RL 23 7 yX7_addLabel 4 := ⟨⟨by decide +kernel, by decide +kernel, by decide +kernel⟩, tb8 (mem_i 20 rfl), tb0 (mem_i 1 rfl), Or.inl (tb8 (mem_i 19 rfl)), RX7, TX7, 9, rfl, rfl, tb8 (mem_i 21 rfl)⟩
theorem ctb_L_addLabel_9_1 : CTb RL (tableOf hh_L_addLabel) 9 1 17 := ⟨[], ⟨0, 14, 17, 13⟩, [⟨0, 14, 21, 21⟩, ⟨0, 14, 25, 15⟩], "java/lang/IndexOutOfBoundsException", rfl, (fun z hz => by
    cases hz), rfl, by decide, exin (mem_i 46 (by decide +kernel)), nf2 (mem_i 22 (by decide +kernel)), rfl⟩
theorem ctb_L_addLabel_9_2 : CTb RL (tableOf hh_L_addLabel) 9 2 21 := ⟨[⟨0, 14, 17, 13⟩], ⟨0, 14, 21, 21⟩, [⟨0, 14, 25, 15⟩], "java/lang/IllegalArgumentException", rfl, (fun z hz => by
    rcases List.mem_cons.mp hz with rfl | hz
    · exact Or.inr ⟨by decide, "java/lang/IndexOutOfBoundsException", exin (mem_i 46 (by decide +kernel)), mem_i 3 (by decide +kernel)⟩
    cases hz), rfl, by decide, exin (mem_i 114 (by decide +kernel)), nf3 (mem_i 0 (by decide +kernel)), rfl⟩
theorem ctb_L_addLabel_9_3 : CTb RL (tableOf hh_L_addLabel) 9 3 25 := ⟨[⟨0, 14, 17, 13⟩, ⟨0, 14, 21, 21⟩], ⟨0, 14, 25, 15⟩, [], "java/lang/IllegalStateException", rfl, (fun z hz => by
    rcases List.mem_cons.mp hz with rfl | hz
    · exact Or.inr ⟨by decide, "java/lang/IndexOutOfBoundsException", exin (mem_i 46 (by decide +kernel)), mem_i 6 (by decide +kernel)⟩
    rcases List.mem_cons.mp hz with rfl | hz
    · exact Or.inr ⟨by decide, "java/lang/IllegalArgumentException", exin (mem_i 114 (by decide +kernel)), mem_i 7 (by decide +kernel)⟩
    cases hz), rfl, by decide, exin (mem_i 47 (by decide +kernel)), nf2 (mem_i 29 (by decide +kernel)), rfl⟩
def hh_L_ask : List (Nat × Nat × Nat × Nat) := [(0, 8, 11, 15)]
theorem ml_RL_84 : MV RL 84 7 yX7_ask 0 := ⟨⟨by decide +kernel, by decide +kernel, by decide +kernel⟩, tb14 (mem_i 5 rfl), tb0 (mem_i 1 rfl), Or.inl (tb14 (mem_i 4 rfl)), RX7, TX7, 9, rfl, rfl, tb14 (mem_i 6 rfl)⟩
theorem ctb_L_ask_3_3 : CTb RL (tableOf hh_L_ask) 3 3 11 := ⟨[], ⟨0, 8, 11, 15⟩, [], "java/lang/IllegalStateException", rfl, (fun z hz => by
    cases hz), rfl, by decide, exin (mem_i 47 (by decide +kernel)), nf2 (mem_i 29 (by decide +kernel)), rfl⟩
def hh_L_back : List (Nat × Nat × Nat × Nat) := [(0, 9, 12, 13), (0, 9, 15, 15)]
theorem ml_RL_41 : MV RL 41 7 yX7_back 1 := ⟨⟨by decide +kernel, by decide +kernel, by decide +kernel⟩, tb10 (mem_i 8 rfl), tb0 (mem_i 1 rfl), Or.inl (tb10 (mem_i 7 rfl)), RX7, TX7, 9, rfl, rfl, tb10 (mem_i 9 rfl)⟩
theorem ctb_L_back_4_1 : CTb RL (tableOf hh_L_back) 4 1 12 := ⟨[], ⟨0, 9, 12, 13⟩, [⟨0, 9, 15, 15⟩], "java/lang/IndexOutOfBoundsException", rfl, (fun z hz => by
    cases hz), rfl, by decide, exin (mem_i 46 (by decide +kernel)), nf2 (mem_i 22 (by decide +kernel)), rfl⟩
theorem ctb_L_back_4_3 : CTb RL (tableOf hh_L_back) 4 3 15 := ⟨[⟨0, 9, 12, 13⟩], ⟨0, 9, 15, 15⟩, [], "java/lang/IllegalStateException", rfl, (fun z hz => by
    rcases List.mem_cons.mp hz with rfl | hz
    · exact Or.inr ⟨by decide, "java/lang/IndexOutOfBoundsException", exin (mem_i 46 (by decide +kernel)), mem_i 6 (by decide +kernel)⟩
    cases hz), rfl, by decide, exin (mem_i 47 (by decide +kernel)), nf2 (mem_i 29 (by decide +kernel)), rfl⟩
def hh_L_below : List (Nat × Nat × Nat × Nat) := [(0, 9, 12, 13)]
theorem ml_RL_50 : MV RL 50 7 yX7_below 1 := ⟨⟨by decide +kernel, by decide +kernel, by decide +kernel⟩, tb11 (mem_i 21 rfl), tb0 (mem_i 1 rfl), Or.inl (tb11 (mem_i 20 rfl)), RX7, TX7, 9, rfl, rfl, tb11 (mem_i 22 rfl)⟩
theorem ctb_L_below_4_1 : CTb RL (tableOf hh_L_below) 4 1 12 := ⟨[], ⟨0, 9, 12, 13⟩, [], "java/lang/IndexOutOfBoundsException", rfl, (fun z hz => by
    cases hz), rfl, by decide, exin (mem_i 46 (by decide +kernel)), nf2 (mem_i 22 (by decide +kernel)), rfl⟩
def hh_L_branches : List (Nat × Nat × Nat × Nat) := [(0, 9, 12, 13)]
theorem ml_RL_47 : MV RL 47 7 yX7_branches 1 := ⟨⟨by decide +kernel, by decide +kernel, by decide +kernel⟩, tb11 (mem_i 13 rfl), tb0 (mem_i 1 rfl), Or.inl (tb11 (mem_i 12 rfl)), RX7, TX7, 9, rfl, rfl, tb11 (mem_i 14 rfl)⟩
theorem ctb_L_branches_4_1 : CTb RL (tableOf hh_L_branches) 4 1 12 := ⟨[], ⟨0, 9, 12, 13⟩, [], "java/lang/IndexOutOfBoundsException", rfl, (fun z hz => by
    cases hz), rfl, by decide, exin (mem_i 46 (by decide +kernel)), nf2 (mem_i 22 (by decide +kernel)), rfl⟩
def hh_L_charAnew : List (Nat × Nat × Nat × Nat) := [(0, 10, 13, 13), (0, 10, 17, 69)]
theorem ml_RL_95 : MV RL 95 7 yX7_charAnew 2 := ⟨⟨by decide +kernel, by decide +kernel, by decide +kernel⟩, tb15 (mem_i 26 rfl), tb0 (mem_i 1 rfl), Or.inl (tb15 (mem_i 25 rfl)), RX7, TX7, 9, rfl, rfl, tb15 (mem_i 27 rfl)⟩
theorem ctb_L_charAnew_5_1 : CTb RL (tableOf hh_L_charAnew) 5 1 13 := ⟨[], ⟨0, 10, 13, 13⟩, [⟨0, 10, 17, 69⟩], "java/lang/IndexOutOfBoundsException", rfl, (fun z hz => by
    cases hz), rfl, by decide, exin (mem_i 46 (by decide +kernel)), nf2 (mem_i 22 (by decide +kernel)), rfl⟩
theorem ctb_L_charAnew_5_4 : CTb RL (tableOf hh_L_charAnew) 5 4 17 := ⟨[⟨0, 10, 13, 13⟩], ⟨0, 10, 17, 69⟩, [], "java/util/NoSuchElementException", rfl, (fun z hz => by
    rcases List.mem_cons.mp hz with rfl | hz
    · exact Or.inr ⟨by decide, "java/lang/IndexOutOfBoundsException", exin (mem_i 46 (by decide +kernel)), mem_i 9 (by decide +kernel)⟩
    cases hz), rfl, by decide, exin (mem_i 152 (by decide +kernel)), nf3 (mem_i 1 (by decide +kernel)), rfl⟩
def hh_L_charAt : List (Nat × Nat × Nat × Nat) := [(0, 10, 13, 13), (0, 10, 17, 69)]
theorem ml_RL_91 : MV RL 91 7 yX7_charAt 2 := ⟨⟨by decide +kernel, by decide +kernel, by decide +kernel⟩, tb15 (mem_i 18 rfl), tb0 (mem_i 1 rfl), Or.inl (tb15 (mem_i 17 rfl)), RX7, TX7, 9, rfl, rfl, tb15 (mem_i 19 rfl)⟩
theorem ctb_L_charAt_5_1 : CTb RL (tableOf hh_L_charAt) 5 1 13 := ⟨[], ⟨0, 10, 13, 13⟩, [⟨0, 10, 17, 69⟩], "java/lang/IndexOutOfBoundsException", rfl, (fun z hz => by
    cases hz), rfl, by decide, exin (mem_i 46 (by decide +kernel)), nf2 (mem_i 22 (by decide +kernel)), rfl⟩
theorem ctb_L_charAt_5_4 : CTb RL (tableOf hh_L_charAt) 5 4 17 := ⟨[⟨0, 10, 13, 13⟩], ⟨0, 10, 17, 69⟩, [], "java/util/NoSuchElementException", rfl, (fun z hz => by
    rcases List.mem_cons.mp hz with rfl | hz
    · exact Or.inr ⟨by decide, "java/lang/IndexOutOfBoundsException", exin (mem_i 46 (by decide +kernel)), mem_i 9 (by decide +kernel)⟩
    cases hz), rfl, by decide, exin (mem_i 152 (by decide +kernel)), nf3 (mem_i 1 (by decide +kernel)), rfl⟩
def hh_L_counts : List (Nat × Nat × Nat × Nat) := [(0, 16, 19, 13)]
theorem ml_RL_56 : MV RL 56 7 yX7_counts 1 := ⟨⟨by decide +kernel, by decide +kernel, by decide +kernel⟩, tb12 (mem_i 6 rfl), tb0 (mem_i 1 rfl), Or.inl (tb12 (mem_i 5 rfl)), RX7, TX7, 9, rfl, rfl, tb12 (mem_i 7 rfl)⟩
theorem ctb_L_counts_4_1 : CTb RL (tableOf hh_L_counts) 4 1 19 := ⟨[], ⟨0, 16, 19, 13⟩, [], "java/lang/IndexOutOfBoundsException", rfl, (fun z hz => by
    cases hz), rfl, by decide, exin (mem_i 46 (by decide +kernel)), nf2 (mem_i 22 (by decide +kernel)), rfl⟩
def hh_L_drop : List (Nat × Nat × Nat × Nat) := [(0, 10, 13, 13), (0, 10, 17, 15)]
theorem ml_RL_37 : MV RL 37 7 yX7_drop 2 := ⟨⟨by decide +kernel, by decide +kernel, by decide +kernel⟩, tb9 (mem_i 23 rfl), tb0 (mem_i 1 rfl), Or.inl (tb9 (mem_i 22 rfl)), RX7, TX7, 9, rfl, rfl, tb9 (mem_i 24 rfl)⟩
theorem ctb_L_drop_5_1 : CTb RL (tableOf hh_L_drop) 5 1 13 := ⟨[], ⟨0, 10, 13, 13⟩, [⟨0, 10, 17, 15⟩], "java/lang/IndexOutOfBoundsException", rfl, (fun z hz => by
    cases hz), rfl, by decide, exin (mem_i 46 (by decide +kernel)), nf2 (mem_i 22 (by decide +kernel)), rfl⟩
theorem ctb_L_drop_5_3 : CTb RL (tableOf hh_L_drop) 5 3 17 := ⟨[⟨0, 10, 13, 13⟩], ⟨0, 10, 17, 15⟩, [], "java/lang/IllegalStateException", rfl, (fun z hz => by
    rcases List.mem_cons.mp hz with rfl | hz
    · exact Or.inr ⟨by decide, "java/lang/IndexOutOfBoundsException", exin (mem_i 46 (by decide +kernel)), mem_i 6 (by decide +kernel)⟩
    cases hz), rfl, by decide, exin (mem_i 47 (by decide +kernel)), nf2 (mem_i 29 (by decide +kernel)), rfl⟩
def hh_L_holds : List (Nat × Nat × Nat × Nat) := [(0, 16, 19, 13), (0, 16, 22, 69)]
theorem ml_RL_77 : MV RL 77 7 yX7_holds 1 := ⟨⟨by decide +kernel, by decide +kernel, by decide +kernel⟩, tb13 (mem_i 21 rfl), tb0 (mem_i 1 rfl), Or.inl (tb13 (mem_i 20 rfl)), RX7, TX7, 9, rfl, rfl, tb13 (mem_i 22 rfl)⟩
theorem ctb_L_holds_4_1 : CTb RL (tableOf hh_L_holds) 4 1 19 := ⟨[], ⟨0, 16, 19, 13⟩, [⟨0, 16, 22, 69⟩], "java/lang/IndexOutOfBoundsException", rfl, (fun z hz => by
    cases hz), rfl, by decide, exin (mem_i 46 (by decide +kernel)), nf2 (mem_i 22 (by decide +kernel)), rfl⟩
theorem ctb_L_holds_4_4 : CTb RL (tableOf hh_L_holds) 4 4 22 := ⟨[⟨0, 16, 19, 13⟩], ⟨0, 16, 22, 69⟩, [], "java/util/NoSuchElementException", rfl, (fun z hz => by
    rcases List.mem_cons.mp hz with rfl | hz
    · exact Or.inr ⟨by decide, "java/lang/IndexOutOfBoundsException", exin (mem_i 46 (by decide +kernel)), mem_i 9 (by decide +kernel)⟩
    cases hz), rfl, by decide, exin (mem_i 152 (by decide +kernel)), nf3 (mem_i 1 (by decide +kernel)), rfl⟩
def hh_L_isInForce : List (Nat × Nat × Nat × Nat) := [(0, 16, 19, 13)]
theorem ml_RL_74 : MV RL 74 7 yX7_isInForce 1 := ⟨⟨by decide +kernel, by decide +kernel, by decide +kernel⟩, tb13 (mem_i 15 rfl), tb0 (mem_i 1 rfl), Or.inl (tb13 (mem_i 14 rfl)), RX7, TX7, 9, rfl, rfl, tb13 (mem_i 16 rfl)⟩
theorem ctb_L_isInForce_4_1 : CTb RL (tableOf hh_L_isInForce) 4 1 19 := ⟨[], ⟨0, 16, 19, 13⟩, [], "java/lang/IndexOutOfBoundsException", rfl, (fun z hz => by
    cases hz), rfl, by decide, exin (mem_i 46 (by decide +kernel)), nf2 (mem_i 22 (by decide +kernel)), rfl⟩
def hh_L_isThere : List (Nat × Nat × Nat × Nat) := [(0, 16, 19, 13)]
theorem ml_RL_63 : MV RL 63 7 yX7_isThere 1 := ⟨⟨by decide +kernel, by decide +kernel, by decide +kernel⟩, tb12 (mem_i 21 rfl), tb0 (mem_i 1 rfl), Or.inl (tb12 (mem_i 20 rfl)), RX7, TX7, 9, rfl, rfl, tb12 (mem_i 22 rfl)⟩
theorem ctb_L_isThere_4_1 : CTb RL (tableOf hh_L_isThere) 4 1 19 := ⟨[], ⟨0, 16, 19, 13⟩, [], "java/lang/IndexOutOfBoundsException", rfl, (fun z hz => by
    cases hz), rfl, by decide, exin (mem_i 46 (by decide +kernel)), nf2 (mem_i 22 (by decide +kernel)), rfl⟩
def hh_L_isVoid : List (Nat × Nat × Nat × Nat) := [(0, 16, 19, 13)]
theorem ml_RL_60 : MV RL 60 7 yX7_isVoid 1 := ⟨⟨by decide +kernel, by decide +kernel, by decide +kernel⟩, tb12 (mem_i 15 rfl), tb0 (mem_i 1 rfl), Or.inl (tb12 (mem_i 14 rfl)), RX7, TX7, 9, rfl, rfl, tb12 (mem_i 16 rfl)⟩
theorem ctb_L_isVoid_4_1 : CTb RL (tableOf hh_L_isVoid) 4 1 19 := ⟨[], ⟨0, 16, 19, 13⟩, [], "java/lang/IndexOutOfBoundsException", rfl, (fun z hz => by
    cases hz), rfl, by decide, exin (mem_i 46 (by decide +kernel)), nf2 (mem_i 22 (by decide +kernel)), rfl⟩
def hh_L_lay : List (Nat × Nat × Nat × Nat) := [(0, 14, 17, 13), (0, 14, 21, 21), (0, 14, 25, 15)]
theorem ml_RL_34 : MV RL 34 7 yX7_lay 4 := ⟨⟨by decide +kernel, by decide +kernel, by decide +kernel⟩, tb9 (mem_i 15 rfl), tb0 (mem_i 1 rfl), Or.inl (tb9 (mem_i 14 rfl)), RX7, TX7, 9, rfl, rfl, tb9 (mem_i 16 rfl)⟩
theorem ctb_L_lay_9_1 : CTb RL (tableOf hh_L_lay) 9 1 17 := ⟨[], ⟨0, 14, 17, 13⟩, [⟨0, 14, 21, 21⟩, ⟨0, 14, 25, 15⟩], "java/lang/IndexOutOfBoundsException", rfl, (fun z hz => by
    cases hz), rfl, by decide, exin (mem_i 46 (by decide +kernel)), nf2 (mem_i 22 (by decide +kernel)), rfl⟩
theorem ctb_L_lay_9_2 : CTb RL (tableOf hh_L_lay) 9 2 21 := ⟨[⟨0, 14, 17, 13⟩], ⟨0, 14, 21, 21⟩, [⟨0, 14, 25, 15⟩], "java/lang/IllegalArgumentException", rfl, (fun z hz => by
    rcases List.mem_cons.mp hz with rfl | hz
    · exact Or.inr ⟨by decide, "java/lang/IndexOutOfBoundsException", exin (mem_i 46 (by decide +kernel)), mem_i 3 (by decide +kernel)⟩
    cases hz), rfl, by decide, exin (mem_i 114 (by decide +kernel)), nf3 (mem_i 0 (by decide +kernel)), rfl⟩
theorem ctb_L_lay_9_3 : CTb RL (tableOf hh_L_lay) 9 3 25 := ⟨[⟨0, 14, 17, 13⟩, ⟨0, 14, 21, 21⟩], ⟨0, 14, 25, 15⟩, [], "java/lang/IllegalStateException", rfl, (fun z hz => by
    rcases List.mem_cons.mp hz with rfl | hz
    · exact Or.inr ⟨by decide, "java/lang/IndexOutOfBoundsException", exin (mem_i 46 (by decide +kernel)), mem_i 6 (by decide +kernel)⟩
    rcases List.mem_cons.mp hz with rfl | hz
    · exact Or.inr ⟨by decide, "java/lang/IllegalArgumentException", exin (mem_i 114 (by decide +kernel)), mem_i 7 (by decide +kernel)⟩
    cases hz), rfl, by decide, exin (mem_i 47 (by decide +kernel)), nf2 (mem_i 29 (by decide +kernel)), rfl⟩
def hh_L_length : List (Nat × Nat × Nat × Nat) := [(0, 9, 12, 13), (0, 9, 15, 69)]
theorem ml_RL_88 : MV RL 88 7 yX7_length 1 := ⟨⟨by decide +kernel, by decide +kernel, by decide +kernel⟩, tb15 (mem_i 7 rfl), tb0 (mem_i 1 rfl), Or.inl (tb15 (mem_i 6 rfl)), RX7, TX7, 9, rfl, rfl, tb15 (mem_i 8 rfl)⟩
theorem ctb_L_length_4_1 : CTb RL (tableOf hh_L_length) 4 1 12 := ⟨[], ⟨0, 9, 12, 13⟩, [⟨0, 9, 15, 69⟩], "java/lang/IndexOutOfBoundsException", rfl, (fun z hz => by
    cases hz), rfl, by decide, exin (mem_i 46 (by decide +kernel)), nf2 (mem_i 22 (by decide +kernel)), rfl⟩
theorem ctb_L_length_4_4 : CTb RL (tableOf hh_L_length) 4 4 15 := ⟨[⟨0, 9, 12, 13⟩], ⟨0, 9, 15, 69⟩, [], "java/util/NoSuchElementException", rfl, (fun z hz => by
    rcases List.mem_cons.mp hz with rfl | hz
    · exact Or.inr ⟨by decide, "java/lang/IndexOutOfBoundsException", exin (mem_i 46 (by decide +kernel)), mem_i 9 (by decide +kernel)⟩
    cases hz), rfl, by decide, exin (mem_i 152 (by decide +kernel)), nf3 (mem_i 1 (by decide +kernel)), rfl⟩
def hh_L_move : List (Nat × Nat × Nat × Nat) := [(0, 14, 17, 13), (0, 14, 21, 21), (0, 14, 25, 15)]
theorem ml_RL_27 : MV RL 27 7 yX7_move 4 := ⟨⟨by decide +kernel, by decide +kernel, by decide +kernel⟩, tb8 (mem_i 26 rfl), tb0 (mem_i 1 rfl), Or.inl (tb8 (mem_i 25 rfl)), RX7, TX7, 9, rfl, rfl, tb8 (mem_i 27 rfl)⟩
theorem ctb_L_move_9_1 : CTb RL (tableOf hh_L_move) 9 1 17 := ⟨[], ⟨0, 14, 17, 13⟩, [⟨0, 14, 21, 21⟩, ⟨0, 14, 25, 15⟩], "java/lang/IndexOutOfBoundsException", rfl, (fun z hz => by
    cases hz), rfl, by decide, exin (mem_i 46 (by decide +kernel)), nf2 (mem_i 22 (by decide +kernel)), rfl⟩
theorem ctb_L_move_9_2 : CTb RL (tableOf hh_L_move) 9 2 21 := ⟨[⟨0, 14, 17, 13⟩], ⟨0, 14, 21, 21⟩, [⟨0, 14, 25, 15⟩], "java/lang/IllegalArgumentException", rfl, (fun z hz => by
    rcases List.mem_cons.mp hz with rfl | hz
    · exact Or.inr ⟨by decide, "java/lang/IndexOutOfBoundsException", exin (mem_i 46 (by decide +kernel)), mem_i 3 (by decide +kernel)⟩
    cases hz), rfl, by decide, exin (mem_i 114 (by decide +kernel)), nf3 (mem_i 0 (by decide +kernel)), rfl⟩
theorem ctb_L_move_9_3 : CTb RL (tableOf hh_L_move) 9 3 25 := ⟨[⟨0, 14, 17, 13⟩, ⟨0, 14, 21, 21⟩], ⟨0, 14, 25, 15⟩, [], "java/lang/IllegalStateException", rfl, (fun z hz => by
    rcases List.mem_cons.mp hz with rfl | hz
    · exact Or.inr ⟨by decide, "java/lang/IndexOutOfBoundsException", exin (mem_i 46 (by decide +kernel)), mem_i 6 (by decide +kernel)⟩
    rcases List.mem_cons.mp hz with rfl | hz
    · exact Or.inr ⟨by decide, "java/lang/IllegalArgumentException", exin (mem_i 114 (by decide +kernel)), mem_i 7 (by decide +kernel)⟩
    cases hz), rfl, by decide, exin (mem_i 47 (by decide +kernel)), nf2 (mem_i 29 (by decide +kernel)), rfl⟩
def hh_L_number : List (Nat × Nat × Nat × Nat) := [(0, 10, 13, 13), (0, 10, 17, 21), (0, 10, 21, 69)]
theorem ml_RL_66 : MV RL 66 7 yX7_number 2 := ⟨⟨by decide +kernel, by decide +kernel, by decide +kernel⟩, tb12 (mem_i 27 rfl), tb0 (mem_i 1 rfl), Or.inl (tb12 (mem_i 26 rfl)), RX7, TX7, 9, rfl, rfl, tb12 (mem_i 28 rfl)⟩
theorem ctb_L_number_5_1 : CTb RL (tableOf hh_L_number) 5 1 13 := ⟨[], ⟨0, 10, 13, 13⟩, [⟨0, 10, 17, 21⟩, ⟨0, 10, 21, 69⟩], "java/lang/IndexOutOfBoundsException", rfl, (fun z hz => by
    cases hz), rfl, by decide, exin (mem_i 46 (by decide +kernel)), nf2 (mem_i 22 (by decide +kernel)), rfl⟩
theorem ctb_L_number_5_2 : CTb RL (tableOf hh_L_number) 5 2 17 := ⟨[⟨0, 10, 13, 13⟩], ⟨0, 10, 17, 21⟩, [⟨0, 10, 21, 69⟩], "java/lang/IllegalArgumentException", rfl, (fun z hz => by
    rcases List.mem_cons.mp hz with rfl | hz
    · exact Or.inr ⟨by decide, "java/lang/IndexOutOfBoundsException", exin (mem_i 46 (by decide +kernel)), mem_i 3 (by decide +kernel)⟩
    cases hz), rfl, by decide, exin (mem_i 114 (by decide +kernel)), nf3 (mem_i 0 (by decide +kernel)), rfl⟩
theorem ctb_L_number_5_4 : CTb RL (tableOf hh_L_number) 5 4 21 := ⟨[⟨0, 10, 13, 13⟩, ⟨0, 10, 17, 21⟩], ⟨0, 10, 21, 69⟩, [], "java/util/NoSuchElementException", rfl, (fun z hz => by
    rcases List.mem_cons.mp hz with rfl | hz
    · exact Or.inr ⟨by decide, "java/lang/IndexOutOfBoundsException", exin (mem_i 46 (by decide +kernel)), mem_i 9 (by decide +kernel)⟩
    rcases List.mem_cons.mp hz with rfl | hz
    · exact Or.inr ⟨by decide, "java/lang/IllegalArgumentException", exin (mem_i 114 (by decide +kernel)), mem_i 10 (by decide +kernel)⟩
    cases hz), rfl, by decide, exin (mem_i 152 (by decide +kernel)), nf3 (mem_i 1 (by decide +kernel)), rfl⟩
def hh_L_numberAnew : List (Nat × Nat × Nat × Nat) := [(0, 10, 13, 13), (0, 10, 17, 21), (0, 10, 21, 69)]
theorem ml_RL_71 : MV RL 71 7 yX7_numberAnew 2 := ⟨⟨by decide +kernel, by decide +kernel, by decide +kernel⟩, tb13 (mem_i 9 rfl), tb0 (mem_i 1 rfl), Or.inl (tb13 (mem_i 8 rfl)), RX7, TX7, 9, rfl, rfl, tb13 (mem_i 10 rfl)⟩
theorem ctb_L_numberAnew_5_1 : CTb RL (tableOf hh_L_numberAnew) 5 1 13 := ⟨[], ⟨0, 10, 13, 13⟩, [⟨0, 10, 17, 21⟩, ⟨0, 10, 21, 69⟩], "java/lang/IndexOutOfBoundsException", rfl, (fun z hz => by
    cases hz), rfl, by decide, exin (mem_i 46 (by decide +kernel)), nf2 (mem_i 22 (by decide +kernel)), rfl⟩
theorem ctb_L_numberAnew_5_2 : CTb RL (tableOf hh_L_numberAnew) 5 2 17 := ⟨[⟨0, 10, 13, 13⟩], ⟨0, 10, 17, 21⟩, [⟨0, 10, 21, 69⟩], "java/lang/IllegalArgumentException", rfl, (fun z hz => by
    rcases List.mem_cons.mp hz with rfl | hz
    · exact Or.inr ⟨by decide, "java/lang/IndexOutOfBoundsException", exin (mem_i 46 (by decide +kernel)), mem_i 3 (by decide +kernel)⟩
    cases hz), rfl, by decide, exin (mem_i 114 (by decide +kernel)), nf3 (mem_i 0 (by decide +kernel)), rfl⟩
theorem ctb_L_numberAnew_5_4 : CTb RL (tableOf hh_L_numberAnew) 5 4 21 := ⟨[⟨0, 10, 13, 13⟩, ⟨0, 10, 17, 21⟩], ⟨0, 10, 21, 69⟩, [], "java/util/NoSuchElementException", rfl, (fun z hz => by
    rcases List.mem_cons.mp hz with rfl | hz
    · exact Or.inr ⟨by decide, "java/lang/IndexOutOfBoundsException", exin (mem_i 46 (by decide +kernel)), mem_i 9 (by decide +kernel)⟩
    rcases List.mem_cons.mp hz with rfl | hz
    · exact Or.inr ⟨by decide, "java/lang/IllegalArgumentException", exin (mem_i 114 (by decide +kernel)), mem_i 10 (by decide +kernel)⟩
    cases hz), rfl, by decide, exin (mem_i 152 (by decide +kernel)), nf3 (mem_i 1 (by decide +kernel)), rfl⟩
def hh_L_on : List (Nat × Nat × Nat × Nat) := [(0, 10, 13, 13)]
theorem ml_RL_44 : MV RL 44 7 yX7_on 2 := ⟨⟨by decide +kernel, by decide +kernel, by decide +kernel⟩, tb11 (mem_i 2 rfl), tb0 (mem_i 1 rfl), Or.inl (tb11 (mem_i 1 rfl)), RX7, TX7, 9, rfl, rfl, tb11 (mem_i 3 rfl)⟩
theorem ctb_L_on_5_1 : CTb RL (tableOf hh_L_on) 5 1 13 := ⟨[], ⟨0, 10, 13, 13⟩, [], "java/lang/IndexOutOfBoundsException", rfl, (fun z hz => by
    cases hz), rfl, by decide, exin (mem_i 46 (by decide +kernel)), nf2 (mem_i 22 (by decide +kernel)), rfl⟩
def hh_L_part : List (Nat × Nat × Nat × Nat) := [(0, 10, 13, 13), (0, 10, 17, 69)]
theorem ml_RL_80 : MV RL 80 7 yX7_part 2 := ⟨⟨by decide +kernel, by decide +kernel, by decide +kernel⟩, tb13 (mem_i 29 rfl), tb0 (mem_i 1 rfl), Or.inl (tb13 (mem_i 28 rfl)), RX7, TX7, 9, rfl, rfl, tb14 (mem_i 0 rfl)⟩
theorem ctb_L_part_5_1 : CTb RL (tableOf hh_L_part) 5 1 13 := ⟨[], ⟨0, 10, 13, 13⟩, [⟨0, 10, 17, 69⟩], "java/lang/IndexOutOfBoundsException", rfl, (fun z hz => by
    cases hz), rfl, by decide, exin (mem_i 46 (by decide +kernel)), nf2 (mem_i 22 (by decide +kernel)), rfl⟩
theorem ctb_L_part_5_4 : CTb RL (tableOf hh_L_part) 5 4 17 := ⟨[⟨0, 10, 13, 13⟩], ⟨0, 10, 17, 69⟩, [], "java/util/NoSuchElementException", rfl, (fun z hz => by
    rcases List.mem_cons.mp hz with rfl | hz
    · exact Or.inr ⟨by decide, "java/lang/IndexOutOfBoundsException", exin (mem_i 46 (by decide +kernel)), mem_i 9 (by decide +kernel)⟩
    cases hz), rfl, by decide, exin (mem_i 152 (by decide +kernel)), nf3 (mem_i 1 (by decide +kernel)), rfl⟩
def hh_L_resize : List (Nat × Nat × Nat × Nat) := [(0, 14, 17, 13), (0, 14, 21, 21), (0, 14, 25, 15)]
theorem ml_RL_31 : MV RL 31 7 yX7_resize 4 := ⟨⟨by decide +kernel, by decide +kernel, by decide +kernel⟩, tb9 (mem_i 9 rfl), tb0 (mem_i 1 rfl), Or.inl (tb9 (mem_i 8 rfl)), RX7, TX7, 9, rfl, rfl, tb9 (mem_i 10 rfl)⟩
theorem ctb_L_resize_9_1 : CTb RL (tableOf hh_L_resize) 9 1 17 := ⟨[], ⟨0, 14, 17, 13⟩, [⟨0, 14, 21, 21⟩, ⟨0, 14, 25, 15⟩], "java/lang/IndexOutOfBoundsException", rfl, (fun z hz => by
    cases hz), rfl, by decide, exin (mem_i 46 (by decide +kernel)), nf2 (mem_i 22 (by decide +kernel)), rfl⟩
theorem ctb_L_resize_9_2 : CTb RL (tableOf hh_L_resize) 9 2 21 := ⟨[⟨0, 14, 17, 13⟩], ⟨0, 14, 21, 21⟩, [⟨0, 14, 25, 15⟩], "java/lang/IllegalArgumentException", rfl, (fun z hz => by
    rcases List.mem_cons.mp hz with rfl | hz
    · exact Or.inr ⟨by decide, "java/lang/IndexOutOfBoundsException", exin (mem_i 46 (by decide +kernel)), mem_i 3 (by decide +kernel)⟩
    cases hz), rfl, by decide, exin (mem_i 114 (by decide +kernel)), nf3 (mem_i 0 (by decide +kernel)), rfl⟩
theorem ctb_L_resize_9_3 : CTb RL (tableOf hh_L_resize) 9 3 25 := ⟨[⟨0, 14, 17, 13⟩, ⟨0, 14, 21, 21⟩], ⟨0, 14, 25, 15⟩, [], "java/lang/IllegalStateException", rfl, (fun z hz => by
    rcases List.mem_cons.mp hz with rfl | hz
    · exact Or.inr ⟨by decide, "java/lang/IndexOutOfBoundsException", exin (mem_i 46 (by decide +kernel)), mem_i 6 (by decide +kernel)⟩
    rcases List.mem_cons.mp hz with rfl | hz
    · exact Or.inr ⟨by decide, "java/lang/IllegalArgumentException", exin (mem_i 114 (by decide +kernel)), mem_i 7 (by decide +kernel)⟩
    cases hz), rfl, by decide, exin (mem_i 47 (by decide +kernel)), nf2 (mem_i 29 (by decide +kernel)), rfl⟩
def hh_L_spell : List (Nat × Nat × Nat × Nat) := [(0, 9, 12, 13), (0, 9, 15, 15)]
theorem ml_RL_7 : MV RL 7 7 yX7_spell 1 := ⟨⟨by decide +kernel, by decide +kernel, by decide +kernel⟩, tb5 (mem_i 10 rfl), tb0 (mem_i 1 rfl), Or.inl (tb5 (mem_i 9 rfl)), RX7, TX7, 9, rfl, rfl, tb5 (mem_i 11 rfl)⟩
theorem ctb_L_spell_4_1 : CTb RL (tableOf hh_L_spell) 4 1 12 := ⟨[], ⟨0, 9, 12, 13⟩, [⟨0, 9, 15, 15⟩], "java/lang/IndexOutOfBoundsException", rfl, (fun z hz => by
    cases hz), rfl, by decide, exin (mem_i 46 (by decide +kernel)), nf2 (mem_i 22 (by decide +kernel)), rfl⟩
theorem ctb_L_spell_4_3 : CTb RL (tableOf hh_L_spell) 4 3 15 := ⟨[⟨0, 9, 12, 13⟩], ⟨0, 9, 15, 15⟩, [], "java/lang/IllegalStateException", rfl, (fun z hz => by
    rcases List.mem_cons.mp hz with rfl | hz
    · exact Or.inr ⟨by decide, "java/lang/IndexOutOfBoundsException", exin (mem_i 46 (by decide +kernel)), mem_i 6 (by decide +kernel)⟩
    cases hz), rfl, by decide, exin (mem_i 47 (by decide +kernel)), nf2 (mem_i 29 (by decide +kernel)), rfl⟩
def hh_L_standsAt : List (Nat × Nat × Nat × Nat) := [(0, 9, 12, 13)]
theorem ml_RL_53 : MV RL 53 7 yX7_standsAt 1 := ⟨⟨by decide +kernel, by decide +kernel, by decide +kernel⟩, tb12 (mem_i 0 rfl), tb0 (mem_i 1 rfl), Or.inl (tb11 (mem_i 29 rfl)), RX7, TX7, 9, rfl, rfl, tb12 (mem_i 1 rfl)⟩
theorem ctb_L_standsAt_4_1 : CTb RL (tableOf hh_L_standsAt) 4 1 12 := ⟨[], ⟨0, 9, 12, 13⟩, [], "java/lang/IndexOutOfBoundsException", rfl, (fun z hz => by
    cases hz), rfl, by decide, exin (mem_i 46 (by decide +kernel)), nf2 (mem_i 22 (by decide +kernel)), rfl⟩
def f_L_addBox (p1 : Int32) (p2 : Int32) (p3 : Int32) (p4 : Int32) (p5 : Int32) (S : HS) : Option (HS × Int32) :=
(f_X7_addBox p1 p2 p3 p4 p5 S).bind (fun o11 => if o11.2.1 = 0 then
(fun (o11 : XO) =>
if ib (0 : Int32) (1) = true then
some ((sL o11.1 60 (0 : Int32).toNatClampNeg o11.2.2.toInt64), (0 : Int32))
else none) o11
else (fun (o11 : XO) => if o11.2.1 = 1 then some (o11.1, (1 : Int32)) else if o11.2.1 = 2 then some (o11.1, (2 : Int32)) else if o11.2.1 = 3 then some (o11.1, (3 : Int32)) else none) o11)
def rm_L_addBox : Room := { frames := 8, cells := 1, slots := 6, locals := 210 }
set_option maxRecDepth 100000 in
set_option maxHeartbeats 4000000 in
theorem c_L_addBox (l : Launch) (hl9 : l.stackTraces = false) (p1 : Int32) (p2 : Int32) (p3 : Int32) (p4 : Int32) (p5 : Int32)  (S : HS) (out : HS × Int32) (h : f_L_addBox p1 p2 p3 p4 p5 S = some out) : CtW l yL_addBox cL_addBox 8 (some .int) hh_L_addBox rm_L_addBox [vR 0, vI p1, vI p2, vI p3, vI p4, vI p5, vR 60] S (some (vI out.2)) out.1 := by
  refine CtW.intro (own := RL) (lv := [(0, vR 0), (1, vI p1), (2, vI p2), (3, vI p3), (4, vI p4), (5, vI p5), (6, vR 60)]) (by decide +kernel) rfl ⟨rfl, rfl⟩ rfl (Nat.le_of_ble_eq_true rfl) ?_
  intro G Gx hGT hR
  have hG := hGT.ok
  revert h
  unfold f_L_addBox
  refine s_aload hG dL_addBox_0 rfl ?_
  refine s_iconst hG (v := (0 : Int32)) dL_addBox_2 (by decide) ?_
  refine s_aload_n hG dL_addBox_3 rfl ?_
  refine s_iload_n hG dL_addBox_4 rfl ?_
  refine s_iload_n hG dL_addBox_5 rfl ?_
  refine s_iload_n hG dL_addBox_6 rfl ?_
  refine s_iload hG dL_addBox_7 rfl ?_
  refine s_iload hG dL_addBox_9 rfl ?_
  refine s_wx hGT (as := [vI p1, vI p2, vI p3, vI p4, vI p5]) (st := [vI (0 : Int32), vR 60]) (rm := rm_X7_addBox) (rmT := rmT_X7_addBox) (by decide) dL_addBox_11 ml_RL_17 (tb5 (mem_i 20 rfl)) (rfl) (tb5 (mem_i 23 rfl)) rfl ⟨rfl, rfl⟩ ⟨rfl, rfl, rfl, rfl⟩ ⟨by decide, by decide⟩ ⟨rfl, rfl⟩ (Nat.le_of_ble_eq_true rfl) rfl (fun o h => c_X7_addBox l hl9 _ _ _ _ _ _ o h) (fun o11 => ?_) (fun o11 => ?_)
  · refine s_i2l hG dL_addBox_14 ?_
    refine s_lastore hG dL_addBox_15 (rfl) ?_
    refine s_goto hG (tgt := 31) dL_addBox_16 (by decide) ?_
    refine s_iconst hG (v := (0 : Int32)) dL_addBox_31 (by decide) ?_
    exact s_wri hR (by decide) (by decide) dL_addBox_32
  · refine s_cx1 ?_ ?_
    · refine s_catchA hGT (lv' := [(0, vR 0), (1, vI p1), (2, vI p2), (3, vI p3), (4, vI p4), (5, vI p5), (6, vR 60)]) ctb_L_addBox_11_1 dL_addBox_19 (by decide) rfl ?_
      refine s_iconst hG (v := (1 : Int32)) dL_addBox_21 (by decide) ?_
      exact s_wri hR (by decide) (by decide) dL_addBox_22
    refine s_cx1 ?_ ?_
    · refine s_catchA hGT (lv' := [(0, vR 0), (1, vI p1), (2, vI p2), (3, vI p3), (4, vI p4), (5, vI p5), (6, vR 60)]) ctb_L_addBox_11_2 dL_addBox_23 (by decide) rfl ?_
      refine s_iconst hG (v := (2 : Int32)) dL_addBox_25 (by decide) ?_
      exact s_wri hR (by decide) (by decide) dL_addBox_26
    refine s_cx1 ?_ ?_
    · refine s_catchA hGT (lv' := [(0, vR 0), (1, vI p1), (2, vI p2), (3, vI p3), (4, vI p4), (5, vI p5), (6, vR 60)]) ctb_L_addBox_11_3 dL_addBox_27 (by decide) rfl ?_
      refine s_iconst hG (v := (3 : Int32)) dL_addBox_29 (by decide) ?_
      exact s_wri hR (by decide) (by decide) dL_addBox_30
    exact s_cx0

def f_L_addLabel (p1 : Int32) (p2 : Int32) (p3 : Int32) (p4 : Int32) (S : HS) : Option (HS × Int32) :=
(f_X7_addLabel p1 p2 p3 p4 S).bind (fun o9 => if o9.2.1 = 0 then
(fun (o9 : XO) =>
if ib (0 : Int32) (1) = true then
some ((sL o9.1 60 (0 : Int32).toNatClampNeg o9.2.2.toInt64), (0 : Int32))
else none) o9
else (fun (o9 : XO) => if o9.2.1 = 1 then some (o9.1, (1 : Int32)) else if o9.2.1 = 2 then some (o9.1, (2 : Int32)) else if o9.2.1 = 3 then some (o9.1, (3 : Int32)) else none) o9)
def rm_L_addLabel : Room := { frames := 8, cells := 1, slots := 6, locals := 209 }
set_option maxRecDepth 100000 in
set_option maxHeartbeats 4000000 in
theorem c_L_addLabel (l : Launch) (hl9 : l.stackTraces = false) (p1 : Int32) (p2 : Int32) (p3 : Int32) (p4 : Int32)  (S : HS) (out : HS × Int32) (h : f_L_addLabel p1 p2 p3 p4 S = some out) : CtW l yL_addLabel cL_addLabel 7 (some .int) hh_L_addLabel rm_L_addLabel [vR 0, vI p1, vI p2, vI p3, vI p4, vR 60] S (some (vI out.2)) out.1 := by
  refine CtW.intro (own := RL) (lv := [(0, vR 0), (1, vI p1), (2, vI p2), (3, vI p3), (4, vI p4), (5, vR 60)]) (by decide +kernel) rfl ⟨rfl, rfl⟩ rfl (Nat.le_of_ble_eq_true rfl) ?_
  intro G Gx hGT hR
  have hG := hGT.ok
  revert h
  unfold f_L_addLabel
  refine s_aload hG dL_addLabel_0 rfl ?_
  refine s_iconst hG (v := (0 : Int32)) dL_addLabel_2 (by decide) ?_
  refine s_aload_n hG dL_addLabel_3 rfl ?_
  refine s_iload_n hG dL_addLabel_4 rfl ?_
  refine s_iload_n hG dL_addLabel_5 rfl ?_
  refine s_iload_n hG dL_addLabel_6 rfl ?_
  refine s_iload hG dL_addLabel_7 rfl ?_
  refine s_wx hGT (as := [vI p1, vI p2, vI p3, vI p4]) (st := [vI (0 : Int32), vR 60]) (rm := rm_X7_addLabel) (rmT := rmT_X7_addLabel) (by decide) dL_addLabel_9 ml_RL_23 (tb8 (mem_i 19 rfl)) (rfl) (tb8 (mem_i 22 rfl)) rfl ⟨rfl, rfl⟩ ⟨rfl, rfl, rfl, rfl⟩ ⟨by decide, by decide⟩ ⟨rfl, rfl⟩ (Nat.le_of_ble_eq_true rfl) rfl (fun o h => c_X7_addLabel l hl9 _ _ _ _ _ o h) (fun o9 => ?_) (fun o9 => ?_)
  · refine s_i2l hG dL_addLabel_12 ?_
    refine s_lastore hG dL_addLabel_13 (rfl) ?_
    refine s_goto hG (tgt := 29) dL_addLabel_14 (by decide) ?_
    refine s_iconst hG (v := (0 : Int32)) dL_addLabel_29 (by decide) ?_
    exact s_wri hR (by decide) (by decide) dL_addLabel_30
  · refine s_cx1 ?_ ?_
    · refine s_catchA hGT (lv' := [(0, vR 0), (1, vI p1), (2, vI p2), (3, vI p3), (4, vI p4), (5, vR 60)]) ctb_L_addLabel_9_1 dL_addLabel_17 (by decide) rfl ?_
      refine s_iconst hG (v := (1 : Int32)) dL_addLabel_19 (by decide) ?_
      exact s_wri hR (by decide) (by decide) dL_addLabel_20
    refine s_cx1 ?_ ?_
    · refine s_catchA hGT (lv' := [(0, vR 0), (1, vI p1), (2, vI p2), (3, vI p3), (4, vI p4), (5, vR 60)]) ctb_L_addLabel_9_2 dL_addLabel_21 (by decide) rfl ?_
      refine s_iconst hG (v := (2 : Int32)) dL_addLabel_23 (by decide) ?_
      exact s_wri hR (by decide) (by decide) dL_addLabel_24
    refine s_cx1 ?_ ?_
    · refine s_catchA hGT (lv' := [(0, vR 0), (1, vI p1), (2, vI p2), (3, vI p3), (4, vI p4), (5, vR 60)]) ctb_L_addLabel_9_3 dL_addLabel_25 (by decide) rfl ?_
      refine s_iconst hG (v := (3 : Int32)) dL_addLabel_27 (by decide) ?_
      exact s_wri hR (by decide) (by decide) dL_addLabel_28
    exact s_cx0

def f_L_ask  (S : HS) : Option (HS × Int32) :=
(f_X7_ask S).bind (fun o3 => if o3.2.1 = 0 then
(fun (o3 : XO) =>
if ib (0 : Int32) (1) = true then
some ((sL o3.1 60 (0 : Int32).toNatClampNeg o3.2.2.toInt64), (0 : Int32))
else none) o3
else (fun (o3 : XO) => if o3.2.1 = 3 then some (o3.1, (1 : Int32)) else none) o3)
def rm_L_ask : Room := { frames := 7, cells := 1, slots := 6, locals := 134 }
set_option maxRecDepth 100000 in
set_option maxHeartbeats 4000000 in
theorem c_L_ask (l : Launch) (hl9 : l.stackTraces = false)   (S : HS) (out : HS × Int32) (h : f_L_ask  S = some out) : CtW l yL_ask cL_ask 3 (some .int) hh_L_ask rm_L_ask [vR 0, vR 60] S (some (vI out.2)) out.1 := by
  refine CtW.intro (own := RL) (lv := [(0, vR 0), (1, vR 60)]) (by decide +kernel) rfl ⟨rfl, rfl⟩ rfl (Nat.le_of_ble_eq_true rfl) ?_
  intro G Gx hGT hR
  have hG := hGT.ok
  revert h
  unfold f_L_ask
  refine s_aload_n hG dL_ask_0 rfl ?_
  refine s_iconst hG (v := (0 : Int32)) dL_ask_1 (by decide) ?_
  refine s_aload_n hG dL_ask_2 rfl ?_
  refine s_wx hGT (as := []) (st := [vI (0 : Int32), vR 60]) (rm := rm_X7_ask) (rmT := rmT_X7_ask) (by decide) dL_ask_3 ml_RL_84 (tb14 (mem_i 4 rfl)) (rfl) (tb14 (mem_i 7 rfl)) rfl ⟨rfl, rfl⟩ ⟨rfl, rfl, rfl, rfl⟩ ⟨by decide, by decide⟩ ⟨rfl, rfl⟩ (Nat.le_of_ble_eq_true rfl) rfl (fun o h => c_X7_ask l hl9  _ o h) (fun o3 => ?_) (fun o3 => ?_)
  · refine s_i2l hG dL_ask_6 ?_
    refine s_lastore hG dL_ask_7 (rfl) ?_
    refine s_goto hG (tgt := 14) dL_ask_8 (by decide) ?_
    refine s_iconst hG (v := (0 : Int32)) dL_ask_14 (by decide) ?_
    exact s_wri hR (by decide) (by decide) dL_ask_15
  · refine s_cx1 ?_ ?_
    · refine s_catchN hGT (lv' := [(0, vR 0), (1, vR 60)]) ctb_L_ask_3_3 dL_ask_11 (by decide) rfl ?_
      refine s_iconst hG (v := (1 : Int32)) dL_ask_12 (by decide) ?_
      exact s_wri hR (by decide) (by decide) dL_ask_13
    exact s_cx0

def f_L_back (p1 : Int32) (S : HS) : Option (HS × Int32) :=
(f_X7_back p1 S).bind (fun o4 => if o4.2.1 = 0 then
(fun (o4 : XO) =>
if ib (0 : Int32) (1) = true then
some ((sL o4.1 60 (0 : Int32).toNatClampNeg o4.2.2.toInt64), (0 : Int32))
else none) o4
else (fun (o4 : XO) => if o4.2.1 = 1 then some (o4.1, (1 : Int32)) else if o4.2.1 = 3 then some (o4.1, (2 : Int32)) else none) o4)
def rm_L_back : Room := { frames := 8, cells := 1, slots := 6, locals := 208 }
set_option maxRecDepth 100000 in
set_option maxHeartbeats 4000000 in
theorem c_L_back (l : Launch) (hl9 : l.stackTraces = false) (p1 : Int32)  (S : HS) (out : HS × Int32) (h : f_L_back p1 S = some out) : CtW l yL_back cL_back 4 (some .int) hh_L_back rm_L_back [vR 0, vI p1, vR 60] S (some (vI out.2)) out.1 := by
  refine CtW.intro (own := RL) (lv := [(0, vR 0), (1, vI p1), (2, vR 60)]) (by decide +kernel) rfl ⟨rfl, rfl⟩ rfl (Nat.le_of_ble_eq_true rfl) ?_
  intro G Gx hGT hR
  have hG := hGT.ok
  revert h
  unfold f_L_back
  refine s_aload_n hG dL_back_0 rfl ?_
  refine s_iconst hG (v := (0 : Int32)) dL_back_1 (by decide) ?_
  refine s_aload_n hG dL_back_2 rfl ?_
  refine s_iload_n hG dL_back_3 rfl ?_
  refine s_wx hGT (as := [vI p1]) (st := [vI (0 : Int32), vR 60]) (rm := rm_X7_back) (rmT := rmT_X7_back) (by decide) dL_back_4 ml_RL_41 (tb10 (mem_i 7 rfl)) (rfl) (tb10 (mem_i 10 rfl)) rfl ⟨rfl, rfl⟩ ⟨rfl, rfl, rfl, rfl⟩ ⟨by decide, by decide⟩ ⟨rfl, rfl⟩ (Nat.le_of_ble_eq_true rfl) rfl (fun o h => c_X7_back l hl9 _ _ o h) (fun o4 => ?_) (fun o4 => ?_)
  · refine s_i2l hG dL_back_7 ?_
    refine s_lastore hG dL_back_8 (rfl) ?_
    refine s_goto hG (tgt := 18) dL_back_9 (by decide) ?_
    refine s_iconst hG (v := (0 : Int32)) dL_back_18 (by decide) ?_
    exact s_wri hR (by decide) (by decide) dL_back_19
  · refine s_cx1 ?_ ?_
    · refine s_catchN hGT (lv' := [(0, vR 0), (1, vI p1), (2, vR 60)]) ctb_L_back_4_1 dL_back_12 (by decide) rfl ?_
      refine s_iconst hG (v := (1 : Int32)) dL_back_13 (by decide) ?_
      exact s_wri hR (by decide) (by decide) dL_back_14
    refine s_cx1 ?_ ?_
    · refine s_catchN hGT (lv' := [(0, vR 0), (1, vI p1), (2, vR 60)]) ctb_L_back_4_3 dL_back_15 (by decide) rfl ?_
      refine s_iconst hG (v := (2 : Int32)) dL_back_16 (by decide) ?_
      exact s_wri hR (by decide) (by decide) dL_back_17
    exact s_cx0

def f_L_below (p1 : Int32) (S : HS) : Option (HS × Int32) :=
(f_X7_below p1 S).bind (fun o4 => if o4.2.1 = 0 then
(fun (o4 : XO) =>
if ib (0 : Int32) (1) = true then
some ((sL o4.1 60 (0 : Int32).toNatClampNeg o4.2.2.toInt64), (0 : Int32))
else none) o4
else (fun (o4 : XO) => if o4.2.1 = 1 then some (o4.1, (1 : Int32)) else none) o4)
def rm_L_below : Room := { frames := 8, cells := 1, slots := 6, locals := 132 }
set_option maxRecDepth 100000 in
set_option maxHeartbeats 4000000 in
theorem c_L_below (l : Launch) (hl9 : l.stackTraces = false) (p1 : Int32)  (S : HS) (out : HS × Int32) (h : f_L_below p1 S = some out) : CtW l yL_below cL_below 4 (some .int) hh_L_below rm_L_below [vR 0, vI p1, vR 60] S (some (vI out.2)) out.1 := by
  refine CtW.intro (own := RL) (lv := [(0, vR 0), (1, vI p1), (2, vR 60)]) (by decide +kernel) rfl ⟨rfl, rfl⟩ rfl (Nat.le_of_ble_eq_true rfl) ?_
  intro G Gx hGT hR
  have hG := hGT.ok
  revert h
  unfold f_L_below
  refine s_aload_n hG dL_below_0 rfl ?_
  refine s_iconst hG (v := (0 : Int32)) dL_below_1 (by decide) ?_
  refine s_aload_n hG dL_below_2 rfl ?_
  refine s_iload_n hG dL_below_3 rfl ?_
  refine s_wx hGT (as := [vI p1]) (st := [vI (0 : Int32), vR 60]) (rm := rm_X7_below) (rmT := rmT_X7_below) (by decide) dL_below_4 ml_RL_50 (tb11 (mem_i 20 rfl)) (rfl) (tb11 (mem_i 23 rfl)) rfl ⟨rfl, rfl⟩ ⟨rfl, rfl, rfl, rfl⟩ ⟨by decide, by decide⟩ ⟨rfl, rfl⟩ (Nat.le_of_ble_eq_true rfl) rfl (fun o h => c_X7_below l hl9 _ _ o h) (fun o4 => ?_) (fun o4 => ?_)
  · refine s_i2l hG dL_below_7 ?_
    refine s_lastore hG dL_below_8 (rfl) ?_
    refine s_goto hG (tgt := 15) dL_below_9 (by decide) ?_
    refine s_iconst hG (v := (0 : Int32)) dL_below_15 (by decide) ?_
    exact s_wri hR (by decide) (by decide) dL_below_16
  · refine s_cx1 ?_ ?_
    · refine s_catchN hGT (lv' := [(0, vR 0), (1, vI p1), (2, vR 60)]) ctb_L_below_4_1 dL_below_12 (by decide) rfl ?_
      refine s_iconst hG (v := (1 : Int32)) dL_below_13 (by decide) ?_
      exact s_wri hR (by decide) (by decide) dL_below_14
    exact s_cx0

def f_L_branches (p1 : Int32) (S : HS) : Option (HS × Int32) :=
(f_X7_branches p1 S).bind (fun o4 => if o4.2.1 = 0 then
(fun (o4 : XO) =>
if ib (0 : Int32) (1) = true then
some ((sL o4.1 60 (0 : Int32).toNatClampNeg o4.2.2.toInt64), (0 : Int32))
else none) o4
else (fun (o4 : XO) => if o4.2.1 = 1 then some (o4.1, (1 : Int32)) else none) o4)
def rm_L_branches : Room := { frames := 8, cells := 1, slots := 6, locals := 132 }
set_option maxRecDepth 100000 in
set_option maxHeartbeats 4000000 in
theorem c_L_branches (l : Launch) (hl9 : l.stackTraces = false) (p1 : Int32)  (S : HS) (out : HS × Int32) (h : f_L_branches p1 S = some out) : CtW l yL_branches cL_branches 4 (some .int) hh_L_branches rm_L_branches [vR 0, vI p1, vR 60] S (some (vI out.2)) out.1 := by
  refine CtW.intro (own := RL) (lv := [(0, vR 0), (1, vI p1), (2, vR 60)]) (by decide +kernel) rfl ⟨rfl, rfl⟩ rfl (Nat.le_of_ble_eq_true rfl) ?_
  intro G Gx hGT hR
  have hG := hGT.ok
  revert h
  unfold f_L_branches
  refine s_aload_n hG dL_branches_0 rfl ?_
  refine s_iconst hG (v := (0 : Int32)) dL_branches_1 (by decide) ?_
  refine s_aload_n hG dL_branches_2 rfl ?_
  refine s_iload_n hG dL_branches_3 rfl ?_
  refine s_wx hGT (as := [vI p1]) (st := [vI (0 : Int32), vR 60]) (rm := rm_X7_branches) (rmT := rmT_X7_branches) (by decide) dL_branches_4 ml_RL_47 (tb11 (mem_i 12 rfl)) (rfl) (tb11 (mem_i 15 rfl)) rfl ⟨rfl, rfl⟩ ⟨rfl, rfl, rfl, rfl⟩ ⟨by decide, by decide⟩ ⟨rfl, rfl⟩ (Nat.le_of_ble_eq_true rfl) rfl (fun o h => c_X7_branches l hl9 _ _ o h) (fun o4 => ?_) (fun o4 => ?_)
  · refine s_i2l hG dL_branches_7 ?_
    refine s_lastore hG dL_branches_8 (rfl) ?_
    refine s_goto hG (tgt := 15) dL_branches_9 (by decide) ?_
    refine s_iconst hG (v := (0 : Int32)) dL_branches_15 (by decide) ?_
    exact s_wri hR (by decide) (by decide) dL_branches_16
  · refine s_cx1 ?_ ?_
    · refine s_catchN hGT (lv' := [(0, vR 0), (1, vI p1), (2, vR 60)]) ctb_L_branches_4_1 dL_branches_12 (by decide) rfl ?_
      refine s_iconst hG (v := (1 : Int32)) dL_branches_13 (by decide) ?_
      exact s_wri hR (by decide) (by decide) dL_branches_14
    exact s_cx0

def f_L_charAnew (p1 : Int32) (p2 : Int32) (S : HS) : Option (HS × Int32) :=
(f_X7_charAnew p1 p2 S).bind (fun o5 => if o5.2.1 = 0 then
(fun (o5 : XO) =>
if ib (0 : Int32) (1) = true then
some ((sL o5.1 60 (0 : Int32).toNatClampNeg o5.2.2.toInt64), (0 : Int32))
else none) o5
else (fun (o5 : XO) => if o5.2.1 = 1 then some (o5.1, (1 : Int32)) else if o5.2.1 = 4 then some (o5.1, (2 : Int32)) else none) o5)
def rm_L_charAnew : Room := { frames := 8, cells := 1, slots := 6, locals := 208 }
set_option maxRecDepth 100000 in
set_option maxHeartbeats 4000000 in
theorem c_L_charAnew (l : Launch) (hl9 : l.stackTraces = false) (p1 : Int32) (p2 : Int32)  (S : HS) (out : HS × Int32) (h : f_L_charAnew p1 p2 S = some out) : CtW l yL_charAnew cL_charAnew 5 (some .int) hh_L_charAnew rm_L_charAnew [vR 0, vI p1, vI p2, vR 60] S (some (vI out.2)) out.1 := by
  refine CtW.intro (own := RL) (lv := [(0, vR 0), (1, vI p1), (2, vI p2), (3, vR 60)]) (by decide +kernel) rfl ⟨rfl, rfl⟩ rfl (Nat.le_of_ble_eq_true rfl) ?_
  intro G Gx hGT hR
  have hG := hGT.ok
  revert h
  unfold f_L_charAnew
  refine s_aload_n hG dL_charAnew_0 rfl ?_
  refine s_iconst hG (v := (0 : Int32)) dL_charAnew_1 (by decide) ?_
  refine s_aload_n hG dL_charAnew_2 rfl ?_
  refine s_iload_n hG dL_charAnew_3 rfl ?_
  refine s_iload_n hG dL_charAnew_4 rfl ?_
  refine s_wx hGT (as := [vI p1, vI p2]) (st := [vI (0 : Int32), vR 60]) (rm := rm_X7_charAnew) (rmT := rmT_X7_charAnew) (by decide) dL_charAnew_5 ml_RL_95 (tb15 (mem_i 25 rfl)) (rfl) (tb15 (mem_i 28 rfl)) rfl ⟨rfl, rfl⟩ ⟨rfl, rfl, rfl, rfl⟩ ⟨by decide, by decide⟩ ⟨rfl, rfl⟩ (Nat.le_of_ble_eq_true rfl) rfl (fun o h => c_X7_charAnew l hl9 _ _ _ o h) (fun o5 => ?_) (fun o5 => ?_)
  · refine s_i2l hG dL_charAnew_8 ?_
    refine s_lastore hG dL_charAnew_9 (rfl) ?_
    refine s_goto hG (tgt := 21) dL_charAnew_10 (by decide) ?_
    refine s_iconst hG (v := (0 : Int32)) dL_charAnew_21 (by decide) ?_
    exact s_wri hR (by decide) (by decide) dL_charAnew_22
  · refine s_cx1 ?_ ?_
    · refine s_catchA hGT (lv' := [(0, vR 0), (1, vI p1), (2, vI p2), (3, vR 60)]) ctb_L_charAnew_5_1 dL_charAnew_13 (by decide) rfl ?_
      refine s_iconst hG (v := (1 : Int32)) dL_charAnew_15 (by decide) ?_
      exact s_wri hR (by decide) (by decide) dL_charAnew_16
    refine s_cx1 ?_ ?_
    · refine s_catchA hGT (lv' := [(0, vR 0), (1, vI p1), (2, vI p2), (3, vR 60)]) ctb_L_charAnew_5_4 dL_charAnew_17 (by decide) rfl ?_
      refine s_iconst hG (v := (2 : Int32)) dL_charAnew_19 (by decide) ?_
      exact s_wri hR (by decide) (by decide) dL_charAnew_20
    exact s_cx0

def f_L_charAt (p1 : Int32) (p2 : Int32) (S : HS) : Option (HS × Int32) :=
(f_X7_charAt p1 p2 S).bind (fun o5 => if o5.2.1 = 0 then
(fun (o5 : XO) =>
if ib (0 : Int32) (1) = true then
some ((sL o5.1 60 (0 : Int32).toNatClampNeg o5.2.2.toInt64), (0 : Int32))
else none) o5
else (fun (o5 : XO) => if o5.2.1 = 1 then some (o5.1, (1 : Int32)) else if o5.2.1 = 4 then some (o5.1, (2 : Int32)) else none) o5)
def rm_L_charAt : Room := { frames := 8, cells := 1, slots := 6, locals := 133 }
set_option maxRecDepth 100000 in
set_option maxHeartbeats 4000000 in
theorem c_L_charAt (l : Launch) (hl9 : l.stackTraces = false) (p1 : Int32) (p2 : Int32)  (S : HS) (out : HS × Int32) (h : f_L_charAt p1 p2 S = some out) : CtW l yL_charAt cL_charAt 5 (some .int) hh_L_charAt rm_L_charAt [vR 0, vI p1, vI p2, vR 60] S (some (vI out.2)) out.1 := by
  refine CtW.intro (own := RL) (lv := [(0, vR 0), (1, vI p1), (2, vI p2), (3, vR 60)]) (by decide +kernel) rfl ⟨rfl, rfl⟩ rfl (Nat.le_of_ble_eq_true rfl) ?_
  intro G Gx hGT hR
  have hG := hGT.ok
  revert h
  unfold f_L_charAt
  refine s_aload_n hG dL_charAt_0 rfl ?_
  refine s_iconst hG (v := (0 : Int32)) dL_charAt_1 (by decide) ?_
  refine s_aload_n hG dL_charAt_2 rfl ?_
  refine s_iload_n hG dL_charAt_3 rfl ?_
  refine s_iload_n hG dL_charAt_4 rfl ?_
  refine s_wx hGT (as := [vI p1, vI p2]) (st := [vI (0 : Int32), vR 60]) (rm := rm_X7_charAt) (rmT := rmT_X7_charAt) (by decide) dL_charAt_5 ml_RL_91 (tb15 (mem_i 17 rfl)) (rfl) (tb15 (mem_i 20 rfl)) rfl ⟨rfl, rfl⟩ ⟨rfl, rfl, rfl, rfl⟩ ⟨by decide, by decide⟩ ⟨rfl, rfl⟩ (Nat.le_of_ble_eq_true rfl) rfl (fun o h => c_X7_charAt l hl9 _ _ _ o h) (fun o5 => ?_) (fun o5 => ?_)
  · refine s_i2l hG dL_charAt_8 ?_
    refine s_lastore hG dL_charAt_9 (rfl) ?_
    refine s_goto hG (tgt := 21) dL_charAt_10 (by decide) ?_
    refine s_iconst hG (v := (0 : Int32)) dL_charAt_21 (by decide) ?_
    exact s_wri hR (by decide) (by decide) dL_charAt_22
  · refine s_cx1 ?_ ?_
    · refine s_catchA hGT (lv' := [(0, vR 0), (1, vI p1), (2, vI p2), (3, vR 60)]) ctb_L_charAt_5_1 dL_charAt_13 (by decide) rfl ?_
      refine s_iconst hG (v := (1 : Int32)) dL_charAt_15 (by decide) ?_
      exact s_wri hR (by decide) (by decide) dL_charAt_16
    refine s_cx1 ?_ ?_
    · refine s_catchA hGT (lv' := [(0, vR 0), (1, vI p1), (2, vI p2), (3, vR 60)]) ctb_L_charAt_5_4 dL_charAt_17 (by decide) rfl ?_
      refine s_iconst hG (v := (2 : Int32)) dL_charAt_19 (by decide) ?_
      exact s_wri hR (by decide) (by decide) dL_charAt_20
    exact s_cx0

def f_L_counts_b15 (p1 : Int32)  (S : HS) (t1 : Int32) (t2 : Int64) : Option (HS × Int32) :=
if ib t1 (1) = true then
some ((sL S 60 t1.toNatClampNeg t2), (0 : Int32))
else none
def f_L_counts (p1 : Int32) (S : HS) : Option (HS × Int32) :=
(f_X7_counts p1 S).bind (fun o4 => if o4.2.1 = 0 then
(fun (o4 : XO) =>
if o4.2.2 = 0 then
f_L_counts_b15 p1  o4.1 (0 : Int32) (0 : Int64)
else
f_L_counts_b15 p1  o4.1 (0 : Int32) (1 : Int64)) o4
else (fun (o4 : XO) => if o4.2.1 = 1 then some (o4.1, (1 : Int32)) else none) o4)
def rm_L_counts : Room := { frames := 8, cells := 1, slots := 6, locals := 132 }
set_option maxRecDepth 100000 in
set_option maxHeartbeats 4000000 in
theorem c_L_counts (l : Launch) (hl9 : l.stackTraces = false) (p1 : Int32)  (S : HS) (out : HS × Int32) (h : f_L_counts p1 S = some out) : CtW l yL_counts cL_counts 4 (some .int) hh_L_counts rm_L_counts [vR 0, vI p1, vR 60] S (some (vI out.2)) out.1 := by
  refine CtW.intro (own := RL) (lv := [(0, vR 0), (1, vI p1), (2, vR 60)]) (by decide +kernel) rfl ⟨rfl, rfl⟩ rfl (Nat.le_of_ble_eq_true rfl) ?_
  intro G Gx hGT hR
  have hG := hGT.ok
  revert h
  have hb15 : ∀ (S : HS) (t1 : Int32) (t2 : Int64), f_L_counts_b15 p1 S t1 t2 = some out → G 0 0 S [] 15 [vL t2, vI t1, vR 60] := by
    intro S t1 t2
    unfold f_L_counts_b15
    refine s_lastore hG dL_counts_15 (rfl) ?_
    refine s_goto hG (tgt := 22) dL_counts_16 (by decide) ?_
    refine s_iconst hG (v := (0 : Int32)) dL_counts_22 (by decide) ?_
    exact s_wri hR (by decide) (by decide) dL_counts_23
  unfold f_L_counts
  refine s_aload_n hG dL_counts_0 rfl ?_
  refine s_iconst hG (v := (0 : Int32)) dL_counts_1 (by decide) ?_
  refine s_aload_n hG dL_counts_2 rfl ?_
  refine s_iload_n hG dL_counts_3 rfl ?_
  refine s_wx hGT (as := [vI p1]) (st := [vI (0 : Int32), vR 60]) (rm := rm_X7_counts) (rmT := rmT_X7_counts) (by decide) dL_counts_4 ml_RL_56 (tb12 (mem_i 5 rfl)) (rfl) (tb12 (mem_i 8 rfl)) rfl ⟨rfl, rfl⟩ ⟨rfl, rfl, rfl, rfl⟩ ⟨by decide, by decide⟩ ⟨rfl, rfl⟩ (Nat.le_of_ble_eq_true rfl) rfl (fun o h => c_X7_counts l hl9 _ _ o h) (fun o4 => ?_) (fun o4 => ?_)
  · refine s_if_eq hG (tgt := 14) dL_counts_7 (by decide) ?_ ?_
    · refine s_lconst hG (v := (0 : Int64)) dL_counts_14 (by decide) ?_
      refine s_lv hG [] rfl ?_
      exact hb15 _ _ _
    · refine s_lconst hG (v := (1 : Int64)) dL_counts_10 (by decide) ?_
      refine s_goto hG (tgt := 15) dL_counts_11 (by decide) ?_
      refine s_lv hG [] rfl ?_
      exact hb15 _ _ _
  · refine s_cx1 ?_ ?_
    · refine s_catchN hGT (lv' := [(0, vR 0), (1, vI p1), (2, vR 60)]) ctb_L_counts_4_1 dL_counts_19 (by decide) rfl ?_
      refine s_iconst hG (v := (1 : Int32)) dL_counts_20 (by decide) ?_
      exact s_wri hR (by decide) (by decide) dL_counts_21
    exact s_cx0

def f_L_drop (p1 : Int32) (p2 : Int32) (S : HS) : Option (HS × Int32) :=
(f_X7_drop p1 p2 S).bind (fun o5 => if o5.2.1 = 0 then
(fun (o5 : XO) =>
if ib (0 : Int32) (1) = true then
some ((sL o5.1 60 (0 : Int32).toNatClampNeg o5.2.2.toInt64), (0 : Int32))
else none) o5
else (fun (o5 : XO) => if o5.2.1 = 1 then some (o5.1, (1 : Int32)) else if o5.2.1 = 3 then some (o5.1, (2 : Int32)) else none) o5)
def rm_L_drop : Room := { frames := 8, cells := 1, slots := 6, locals := 206 }
set_option maxRecDepth 100000 in
set_option maxHeartbeats 4000000 in
theorem c_L_drop (l : Launch) (hl9 : l.stackTraces = false) (p1 : Int32) (p2 : Int32)  (S : HS) (out : HS × Int32) (h : f_L_drop p1 p2 S = some out) : CtW l yL_drop cL_drop 5 (some .int) hh_L_drop rm_L_drop [vR 0, vI p1, vI p2, vR 60] S (some (vI out.2)) out.1 := by
  refine CtW.intro (own := RL) (lv := [(0, vR 0), (1, vI p1), (2, vI p2), (3, vR 60)]) (by decide +kernel) rfl ⟨rfl, rfl⟩ rfl (Nat.le_of_ble_eq_true rfl) ?_
  intro G Gx hGT hR
  have hG := hGT.ok
  revert h
  unfold f_L_drop
  refine s_aload_n hG dL_drop_0 rfl ?_
  refine s_iconst hG (v := (0 : Int32)) dL_drop_1 (by decide) ?_
  refine s_aload_n hG dL_drop_2 rfl ?_
  refine s_iload_n hG dL_drop_3 rfl ?_
  refine s_iload_n hG dL_drop_4 rfl ?_
  refine s_wx hGT (as := [vI p1, vI p2]) (st := [vI (0 : Int32), vR 60]) (rm := rm_X7_drop) (rmT := rmT_X7_drop) (by decide) dL_drop_5 ml_RL_37 (tb9 (mem_i 22 rfl)) (rfl) (tb9 (mem_i 25 rfl)) rfl ⟨rfl, rfl⟩ ⟨rfl, rfl, rfl, rfl⟩ ⟨by decide, by decide⟩ ⟨rfl, rfl⟩ (Nat.le_of_ble_eq_true rfl) rfl (fun o h => c_X7_drop l hl9 _ _ _ o h) (fun o5 => ?_) (fun o5 => ?_)
  · refine s_i2l hG dL_drop_8 ?_
    refine s_lastore hG dL_drop_9 (rfl) ?_
    refine s_goto hG (tgt := 21) dL_drop_10 (by decide) ?_
    refine s_iconst hG (v := (0 : Int32)) dL_drop_21 (by decide) ?_
    exact s_wri hR (by decide) (by decide) dL_drop_22
  · refine s_cx1 ?_ ?_
    · refine s_catchA hGT (lv' := [(0, vR 0), (1, vI p1), (2, vI p2), (3, vR 60)]) ctb_L_drop_5_1 dL_drop_13 (by decide) rfl ?_
      refine s_iconst hG (v := (1 : Int32)) dL_drop_15 (by decide) ?_
      exact s_wri hR (by decide) (by decide) dL_drop_16
    refine s_cx1 ?_ ?_
    · refine s_catchA hGT (lv' := [(0, vR 0), (1, vI p1), (2, vI p2), (3, vR 60)]) ctb_L_drop_5_3 dL_drop_17 (by decide) rfl ?_
      refine s_iconst hG (v := (2 : Int32)) dL_drop_19 (by decide) ?_
      exact s_wri hR (by decide) (by decide) dL_drop_20
    exact s_cx0

def f_L_holds_b15 (p1 : Int32)  (S : HS) (t1 : Int32) (t2 : Int64) : Option (HS × Int32) :=
if ib t1 (1) = true then
some ((sL S 60 t1.toNatClampNeg t2), (0 : Int32))
else none
def f_L_holds (p1 : Int32) (S : HS) : Option (HS × Int32) :=
(f_X7_holds p1 S).bind (fun o4 => if o4.2.1 = 0 then
(fun (o4 : XO) =>
if o4.2.2 = 0 then
f_L_holds_b15 p1  o4.1 (0 : Int32) (0 : Int64)
else
f_L_holds_b15 p1  o4.1 (0 : Int32) (1 : Int64)) o4
else (fun (o4 : XO) => if o4.2.1 = 1 then some (o4.1, (1 : Int32)) else if o4.2.1 = 4 then some (o4.1, (2 : Int32)) else none) o4)
def rm_L_holds : Room := { frames := 8, cells := 1, slots := 6, locals := 133 }
set_option maxRecDepth 100000 in
set_option maxHeartbeats 4000000 in
theorem c_L_holds (l : Launch) (hl9 : l.stackTraces = false) (p1 : Int32)  (S : HS) (out : HS × Int32) (h : f_L_holds p1 S = some out) : CtW l yL_holds cL_holds 4 (some .int) hh_L_holds rm_L_holds [vR 0, vI p1, vR 60] S (some (vI out.2)) out.1 := by
  refine CtW.intro (own := RL) (lv := [(0, vR 0), (1, vI p1), (2, vR 60)]) (by decide +kernel) rfl ⟨rfl, rfl⟩ rfl (Nat.le_of_ble_eq_true rfl) ?_
  intro G Gx hGT hR
  have hG := hGT.ok
  revert h
  have hb15 : ∀ (S : HS) (t1 : Int32) (t2 : Int64), f_L_holds_b15 p1 S t1 t2 = some out → G 0 0 S [] 15 [vL t2, vI t1, vR 60] := by
    intro S t1 t2
    unfold f_L_holds_b15
    refine s_lastore hG dL_holds_15 (rfl) ?_
    refine s_goto hG (tgt := 25) dL_holds_16 (by decide) ?_
    refine s_iconst hG (v := (0 : Int32)) dL_holds_25 (by decide) ?_
    exact s_wri hR (by decide) (by decide) dL_holds_26
  unfold f_L_holds
  refine s_aload_n hG dL_holds_0 rfl ?_
  refine s_iconst hG (v := (0 : Int32)) dL_holds_1 (by decide) ?_
  refine s_aload_n hG dL_holds_2 rfl ?_
  refine s_iload_n hG dL_holds_3 rfl ?_
  refine s_wx hGT (as := [vI p1]) (st := [vI (0 : Int32), vR 60]) (rm := rm_X7_holds) (rmT := rmT_X7_holds) (by decide) dL_holds_4 ml_RL_77 (tb13 (mem_i 20 rfl)) (rfl) (tb13 (mem_i 23 rfl)) rfl ⟨rfl, rfl⟩ ⟨rfl, rfl, rfl, rfl⟩ ⟨by decide, by decide⟩ ⟨rfl, rfl⟩ (Nat.le_of_ble_eq_true rfl) rfl (fun o h => c_X7_holds l hl9 _ _ o h) (fun o4 => ?_) (fun o4 => ?_)
  · refine s_if_eq hG (tgt := 14) dL_holds_7 (by decide) ?_ ?_
    · refine s_lconst hG (v := (0 : Int64)) dL_holds_14 (by decide) ?_
      refine s_lv hG [] rfl ?_
      exact hb15 _ _ _
    · refine s_lconst hG (v := (1 : Int64)) dL_holds_10 (by decide) ?_
      refine s_goto hG (tgt := 15) dL_holds_11 (by decide) ?_
      refine s_lv hG [] rfl ?_
      exact hb15 _ _ _
  · refine s_cx1 ?_ ?_
    · refine s_catchN hGT (lv' := [(0, vR 0), (1, vI p1), (2, vR 60)]) ctb_L_holds_4_1 dL_holds_19 (by decide) rfl ?_
      refine s_iconst hG (v := (1 : Int32)) dL_holds_20 (by decide) ?_
      exact s_wri hR (by decide) (by decide) dL_holds_21
    refine s_cx1 ?_ ?_
    · refine s_catchN hGT (lv' := [(0, vR 0), (1, vI p1), (2, vR 60)]) ctb_L_holds_4_4 dL_holds_22 (by decide) rfl ?_
      refine s_iconst hG (v := (2 : Int32)) dL_holds_23 (by decide) ?_
      exact s_wri hR (by decide) (by decide) dL_holds_24
    exact s_cx0

def f_L_isInForce_b15 (p1 : Int32)  (S : HS) (t1 : Int32) (t2 : Int64) : Option (HS × Int32) :=
if ib t1 (1) = true then
some ((sL S 60 t1.toNatClampNeg t2), (0 : Int32))
else none
def f_L_isInForce (p1 : Int32) (S : HS) : Option (HS × Int32) :=
(f_X7_isInForce p1 S).bind (fun o4 => if o4.2.1 = 0 then
(fun (o4 : XO) =>
if o4.2.2 = 0 then
f_L_isInForce_b15 p1  o4.1 (0 : Int32) (0 : Int64)
else
f_L_isInForce_b15 p1  o4.1 (0 : Int32) (1 : Int64)) o4
else (fun (o4 : XO) => if o4.2.1 = 1 then some (o4.1, (1 : Int32)) else none) o4)
def rm_L_isInForce : Room := { frames := 8, cells := 1, slots := 6, locals := 132 }
set_option maxRecDepth 100000 in
set_option maxHeartbeats 4000000 in
theorem c_L_isInForce (l : Launch) (hl9 : l.stackTraces = false) (p1 : Int32)  (S : HS) (out : HS × Int32) (h : f_L_isInForce p1 S = some out) : CtW l yL_isInForce cL_isInForce 4 (some .int) hh_L_isInForce rm_L_isInForce [vR 0, vI p1, vR 60] S (some (vI out.2)) out.1 := by
  refine CtW.intro (own := RL) (lv := [(0, vR 0), (1, vI p1), (2, vR 60)]) (by decide +kernel) rfl ⟨rfl, rfl⟩ rfl (Nat.le_of_ble_eq_true rfl) ?_
  intro G Gx hGT hR
  have hG := hGT.ok
  revert h
  have hb15 : ∀ (S : HS) (t1 : Int32) (t2 : Int64), f_L_isInForce_b15 p1 S t1 t2 = some out → G 0 0 S [] 15 [vL t2, vI t1, vR 60] := by
    intro S t1 t2
    unfold f_L_isInForce_b15
    refine s_lastore hG dL_isInForce_15 (rfl) ?_
    refine s_goto hG (tgt := 22) dL_isInForce_16 (by decide) ?_
    refine s_iconst hG (v := (0 : Int32)) dL_isInForce_22 (by decide) ?_
    exact s_wri hR (by decide) (by decide) dL_isInForce_23
  unfold f_L_isInForce
  refine s_aload_n hG dL_isInForce_0 rfl ?_
  refine s_iconst hG (v := (0 : Int32)) dL_isInForce_1 (by decide) ?_
  refine s_aload_n hG dL_isInForce_2 rfl ?_
  refine s_iload_n hG dL_isInForce_3 rfl ?_
  refine s_wx hGT (as := [vI p1]) (st := [vI (0 : Int32), vR 60]) (rm := rm_X7_isInForce) (rmT := rmT_X7_isInForce) (by decide) dL_isInForce_4 ml_RL_74 (tb13 (mem_i 14 rfl)) (rfl) (tb13 (mem_i 17 rfl)) rfl ⟨rfl, rfl⟩ ⟨rfl, rfl, rfl, rfl⟩ ⟨by decide, by decide⟩ ⟨rfl, rfl⟩ (Nat.le_of_ble_eq_true rfl) rfl (fun o h => c_X7_isInForce l hl9 _ _ o h) (fun o4 => ?_) (fun o4 => ?_)
  · refine s_if_eq hG (tgt := 14) dL_isInForce_7 (by decide) ?_ ?_
    · refine s_lconst hG (v := (0 : Int64)) dL_isInForce_14 (by decide) ?_
      refine s_lv hG [] rfl ?_
      exact hb15 _ _ _
    · refine s_lconst hG (v := (1 : Int64)) dL_isInForce_10 (by decide) ?_
      refine s_goto hG (tgt := 15) dL_isInForce_11 (by decide) ?_
      refine s_lv hG [] rfl ?_
      exact hb15 _ _ _
  · refine s_cx1 ?_ ?_
    · refine s_catchN hGT (lv' := [(0, vR 0), (1, vI p1), (2, vR 60)]) ctb_L_isInForce_4_1 dL_isInForce_19 (by decide) rfl ?_
      refine s_iconst hG (v := (1 : Int32)) dL_isInForce_20 (by decide) ?_
      exact s_wri hR (by decide) (by decide) dL_isInForce_21
    exact s_cx0

def f_L_isThere_b15 (p1 : Int32)  (S : HS) (t1 : Int32) (t2 : Int64) : Option (HS × Int32) :=
if ib t1 (1) = true then
some ((sL S 60 t1.toNatClampNeg t2), (0 : Int32))
else none
def f_L_isThere (p1 : Int32) (S : HS) : Option (HS × Int32) :=
(f_X7_isThere p1 S).bind (fun o4 => if o4.2.1 = 0 then
(fun (o4 : XO) =>
if o4.2.2 = 0 then
f_L_isThere_b15 p1  o4.1 (0 : Int32) (0 : Int64)
else
f_L_isThere_b15 p1  o4.1 (0 : Int32) (1 : Int64)) o4
else (fun (o4 : XO) => if o4.2.1 = 1 then some (o4.1, (1 : Int32)) else none) o4)
def rm_L_isThere : Room := { frames := 8, cells := 1, slots := 6, locals := 132 }
set_option maxRecDepth 100000 in
set_option maxHeartbeats 4000000 in
theorem c_L_isThere (l : Launch) (hl9 : l.stackTraces = false) (p1 : Int32)  (S : HS) (out : HS × Int32) (h : f_L_isThere p1 S = some out) : CtW l yL_isThere cL_isThere 4 (some .int) hh_L_isThere rm_L_isThere [vR 0, vI p1, vR 60] S (some (vI out.2)) out.1 := by
  refine CtW.intro (own := RL) (lv := [(0, vR 0), (1, vI p1), (2, vR 60)]) (by decide +kernel) rfl ⟨rfl, rfl⟩ rfl (Nat.le_of_ble_eq_true rfl) ?_
  intro G Gx hGT hR
  have hG := hGT.ok
  revert h
  have hb15 : ∀ (S : HS) (t1 : Int32) (t2 : Int64), f_L_isThere_b15 p1 S t1 t2 = some out → G 0 0 S [] 15 [vL t2, vI t1, vR 60] := by
    intro S t1 t2
    unfold f_L_isThere_b15
    refine s_lastore hG dL_isThere_15 (rfl) ?_
    refine s_goto hG (tgt := 22) dL_isThere_16 (by decide) ?_
    refine s_iconst hG (v := (0 : Int32)) dL_isThere_22 (by decide) ?_
    exact s_wri hR (by decide) (by decide) dL_isThere_23
  unfold f_L_isThere
  refine s_aload_n hG dL_isThere_0 rfl ?_
  refine s_iconst hG (v := (0 : Int32)) dL_isThere_1 (by decide) ?_
  refine s_aload_n hG dL_isThere_2 rfl ?_
  refine s_iload_n hG dL_isThere_3 rfl ?_
  refine s_wx hGT (as := [vI p1]) (st := [vI (0 : Int32), vR 60]) (rm := rm_X7_isThere) (rmT := rmT_X7_isThere) (by decide) dL_isThere_4 ml_RL_63 (tb12 (mem_i 20 rfl)) (rfl) (tb12 (mem_i 23 rfl)) rfl ⟨rfl, rfl⟩ ⟨rfl, rfl, rfl, rfl⟩ ⟨by decide, by decide⟩ ⟨rfl, rfl⟩ (Nat.le_of_ble_eq_true rfl) rfl (fun o h => c_X7_isThere l hl9 _ _ o h) (fun o4 => ?_) (fun o4 => ?_)
  · refine s_if_eq hG (tgt := 14) dL_isThere_7 (by decide) ?_ ?_
    · refine s_lconst hG (v := (0 : Int64)) dL_isThere_14 (by decide) ?_
      refine s_lv hG [] rfl ?_
      exact hb15 _ _ _
    · refine s_lconst hG (v := (1 : Int64)) dL_isThere_10 (by decide) ?_
      refine s_goto hG (tgt := 15) dL_isThere_11 (by decide) ?_
      refine s_lv hG [] rfl ?_
      exact hb15 _ _ _
  · refine s_cx1 ?_ ?_
    · refine s_catchN hGT (lv' := [(0, vR 0), (1, vI p1), (2, vR 60)]) ctb_L_isThere_4_1 dL_isThere_19 (by decide) rfl ?_
      refine s_iconst hG (v := (1 : Int32)) dL_isThere_20 (by decide) ?_
      exact s_wri hR (by decide) (by decide) dL_isThere_21
    exact s_cx0

def f_L_isVoid_b15 (p1 : Int32)  (S : HS) (t1 : Int32) (t2 : Int64) : Option (HS × Int32) :=
if ib t1 (1) = true then
some ((sL S 60 t1.toNatClampNeg t2), (0 : Int32))
else none
def f_L_isVoid (p1 : Int32) (S : HS) : Option (HS × Int32) :=
(f_X7_isVoid p1 S).bind (fun o4 => if o4.2.1 = 0 then
(fun (o4 : XO) =>
if o4.2.2 = 0 then
f_L_isVoid_b15 p1  o4.1 (0 : Int32) (0 : Int64)
else
f_L_isVoid_b15 p1  o4.1 (0 : Int32) (1 : Int64)) o4
else (fun (o4 : XO) => if o4.2.1 = 1 then some (o4.1, (1 : Int32)) else none) o4)
def rm_L_isVoid : Room := { frames := 8, cells := 1, slots := 6, locals := 132 }
set_option maxRecDepth 100000 in
set_option maxHeartbeats 4000000 in
theorem c_L_isVoid (l : Launch) (hl9 : l.stackTraces = false) (p1 : Int32)  (S : HS) (out : HS × Int32) (h : f_L_isVoid p1 S = some out) : CtW l yL_isVoid cL_isVoid 4 (some .int) hh_L_isVoid rm_L_isVoid [vR 0, vI p1, vR 60] S (some (vI out.2)) out.1 := by
  refine CtW.intro (own := RL) (lv := [(0, vR 0), (1, vI p1), (2, vR 60)]) (by decide +kernel) rfl ⟨rfl, rfl⟩ rfl (Nat.le_of_ble_eq_true rfl) ?_
  intro G Gx hGT hR
  have hG := hGT.ok
  revert h
  have hb15 : ∀ (S : HS) (t1 : Int32) (t2 : Int64), f_L_isVoid_b15 p1 S t1 t2 = some out → G 0 0 S [] 15 [vL t2, vI t1, vR 60] := by
    intro S t1 t2
    unfold f_L_isVoid_b15
    refine s_lastore hG dL_isVoid_15 (rfl) ?_
    refine s_goto hG (tgt := 22) dL_isVoid_16 (by decide) ?_
    refine s_iconst hG (v := (0 : Int32)) dL_isVoid_22 (by decide) ?_
    exact s_wri hR (by decide) (by decide) dL_isVoid_23
  unfold f_L_isVoid
  refine s_aload_n hG dL_isVoid_0 rfl ?_
  refine s_iconst hG (v := (0 : Int32)) dL_isVoid_1 (by decide) ?_
  refine s_aload_n hG dL_isVoid_2 rfl ?_
  refine s_iload_n hG dL_isVoid_3 rfl ?_
  refine s_wx hGT (as := [vI p1]) (st := [vI (0 : Int32), vR 60]) (rm := rm_X7_isVoid) (rmT := rmT_X7_isVoid) (by decide) dL_isVoid_4 ml_RL_60 (tb12 (mem_i 14 rfl)) (rfl) (tb12 (mem_i 17 rfl)) rfl ⟨rfl, rfl⟩ ⟨rfl, rfl, rfl, rfl⟩ ⟨by decide, by decide⟩ ⟨rfl, rfl⟩ (Nat.le_of_ble_eq_true rfl) rfl (fun o h => c_X7_isVoid l hl9 _ _ o h) (fun o4 => ?_) (fun o4 => ?_)
  · refine s_if_eq hG (tgt := 14) dL_isVoid_7 (by decide) ?_ ?_
    · refine s_lconst hG (v := (0 : Int64)) dL_isVoid_14 (by decide) ?_
      refine s_lv hG [] rfl ?_
      exact hb15 _ _ _
    · refine s_lconst hG (v := (1 : Int64)) dL_isVoid_10 (by decide) ?_
      refine s_goto hG (tgt := 15) dL_isVoid_11 (by decide) ?_
      refine s_lv hG [] rfl ?_
      exact hb15 _ _ _
  · refine s_cx1 ?_ ?_
    · refine s_catchN hGT (lv' := [(0, vR 0), (1, vI p1), (2, vR 60)]) ctb_L_isVoid_4_1 dL_isVoid_19 (by decide) rfl ?_
      refine s_iconst hG (v := (1 : Int32)) dL_isVoid_20 (by decide) ?_
      exact s_wri hR (by decide) (by decide) dL_isVoid_21
    exact s_cx0

def f_L_lay (p1 : Int32) (p2 : Int32) (p3 : Int32) (p4 : Int32) (S : HS) : Option (HS × Int32) :=
(f_X7_lay p1 p2 p3 p4 S).bind (fun o9 => if o9.2.1 = 0 then
(fun (o9 : XO) =>
if ib (0 : Int32) (1) = true then
some ((sL o9.1 60 (0 : Int32).toNatClampNeg o9.2.2.toInt64), (0 : Int32))
else none) o9
else (fun (o9 : XO) => if o9.2.1 = 1 then some (o9.1, (1 : Int32)) else if o9.2.1 = 2 then some (o9.1, (2 : Int32)) else if o9.2.1 = 3 then some (o9.1, (3 : Int32)) else none) o9)
def rm_L_lay : Room := { frames := 8, cells := 1, slots := 6, locals := 209 }
set_option maxRecDepth 100000 in
set_option maxHeartbeats 4000000 in
theorem c_L_lay (l : Launch) (hl9 : l.stackTraces = false) (p1 : Int32) (p2 : Int32) (p3 : Int32) (p4 : Int32)  (S : HS) (out : HS × Int32) (h : f_L_lay p1 p2 p3 p4 S = some out) : CtW l yL_lay cL_lay 7 (some .int) hh_L_lay rm_L_lay [vR 0, vI p1, vI p2, vI p3, vI p4, vR 60] S (some (vI out.2)) out.1 := by
  refine CtW.intro (own := RL) (lv := [(0, vR 0), (1, vI p1), (2, vI p2), (3, vI p3), (4, vI p4), (5, vR 60)]) (by decide +kernel) rfl ⟨rfl, rfl⟩ rfl (Nat.le_of_ble_eq_true rfl) ?_
  intro G Gx hGT hR
  have hG := hGT.ok
  revert h
  unfold f_L_lay
  refine s_aload hG dL_lay_0 rfl ?_
  refine s_iconst hG (v := (0 : Int32)) dL_lay_2 (by decide) ?_
  refine s_aload_n hG dL_lay_3 rfl ?_
  refine s_iload_n hG dL_lay_4 rfl ?_
  refine s_iload_n hG dL_lay_5 rfl ?_
  refine s_iload_n hG dL_lay_6 rfl ?_
  refine s_iload hG dL_lay_7 rfl ?_
  refine s_wx hGT (as := [vI p1, vI p2, vI p3, vI p4]) (st := [vI (0 : Int32), vR 60]) (rm := rm_X7_lay) (rmT := rmT_X7_lay) (by decide) dL_lay_9 ml_RL_34 (tb9 (mem_i 14 rfl)) (rfl) (tb9 (mem_i 17 rfl)) rfl ⟨rfl, rfl⟩ ⟨rfl, rfl, rfl, rfl⟩ ⟨by decide, by decide⟩ ⟨rfl, rfl⟩ (Nat.le_of_ble_eq_true rfl) rfl (fun o h => c_X7_lay l hl9 _ _ _ _ _ o h) (fun o9 => ?_) (fun o9 => ?_)
  · refine s_i2l hG dL_lay_12 ?_
    refine s_lastore hG dL_lay_13 (rfl) ?_
    refine s_goto hG (tgt := 29) dL_lay_14 (by decide) ?_
    refine s_iconst hG (v := (0 : Int32)) dL_lay_29 (by decide) ?_
    exact s_wri hR (by decide) (by decide) dL_lay_30
  · refine s_cx1 ?_ ?_
    · refine s_catchA hGT (lv' := [(0, vR 0), (1, vI p1), (2, vI p2), (3, vI p3), (4, vI p4), (5, vR 60)]) ctb_L_lay_9_1 dL_lay_17 (by decide) rfl ?_
      refine s_iconst hG (v := (1 : Int32)) dL_lay_19 (by decide) ?_
      exact s_wri hR (by decide) (by decide) dL_lay_20
    refine s_cx1 ?_ ?_
    · refine s_catchA hGT (lv' := [(0, vR 0), (1, vI p1), (2, vI p2), (3, vI p3), (4, vI p4), (5, vR 60)]) ctb_L_lay_9_2 dL_lay_21 (by decide) rfl ?_
      refine s_iconst hG (v := (2 : Int32)) dL_lay_23 (by decide) ?_
      exact s_wri hR (by decide) (by decide) dL_lay_24
    refine s_cx1 ?_ ?_
    · refine s_catchA hGT (lv' := [(0, vR 0), (1, vI p1), (2, vI p2), (3, vI p3), (4, vI p4), (5, vR 60)]) ctb_L_lay_9_3 dL_lay_25 (by decide) rfl ?_
      refine s_iconst hG (v := (3 : Int32)) dL_lay_27 (by decide) ?_
      exact s_wri hR (by decide) (by decide) dL_lay_28
    exact s_cx0

def f_L_length (p1 : Int32) (S : HS) : Option (HS × Int32) :=
(f_X7_length p1 S).bind (fun o4 => if o4.2.1 = 0 then
(fun (o4 : XO) =>
if ib (0 : Int32) (1) = true then
some ((sL o4.1 60 (0 : Int32).toNatClampNeg o4.2.2.toInt64), (0 : Int32))
else none) o4
else (fun (o4 : XO) => if o4.2.1 = 1 then some (o4.1, (1 : Int32)) else if o4.2.1 = 4 then some (o4.1, (2 : Int32)) else none) o4)
def rm_L_length : Room := { frames := 8, cells := 1, slots := 6, locals := 132 }
set_option maxRecDepth 100000 in
set_option maxHeartbeats 4000000 in
theorem c_L_length (l : Launch) (hl9 : l.stackTraces = false) (p1 : Int32)  (S : HS) (out : HS × Int32) (h : f_L_length p1 S = some out) : CtW l yL_length cL_length 4 (some .int) hh_L_length rm_L_length [vR 0, vI p1, vR 60] S (some (vI out.2)) out.1 := by
  refine CtW.intro (own := RL) (lv := [(0, vR 0), (1, vI p1), (2, vR 60)]) (by decide +kernel) rfl ⟨rfl, rfl⟩ rfl (Nat.le_of_ble_eq_true rfl) ?_
  intro G Gx hGT hR
  have hG := hGT.ok
  revert h
  unfold f_L_length
  refine s_aload_n hG dL_length_0 rfl ?_
  refine s_iconst hG (v := (0 : Int32)) dL_length_1 (by decide) ?_
  refine s_aload_n hG dL_length_2 rfl ?_
  refine s_iload_n hG dL_length_3 rfl ?_
  refine s_wx hGT (as := [vI p1]) (st := [vI (0 : Int32), vR 60]) (rm := rm_X7_length) (rmT := rmT_X7_length) (by decide) dL_length_4 ml_RL_88 (tb15 (mem_i 6 rfl)) (rfl) (tb15 (mem_i 9 rfl)) rfl ⟨rfl, rfl⟩ ⟨rfl, rfl, rfl, rfl⟩ ⟨by decide, by decide⟩ ⟨rfl, rfl⟩ (Nat.le_of_ble_eq_true rfl) rfl (fun o h => c_X7_length l hl9 _ _ o h) (fun o4 => ?_) (fun o4 => ?_)
  · refine s_i2l hG dL_length_7 ?_
    refine s_lastore hG dL_length_8 (rfl) ?_
    refine s_goto hG (tgt := 18) dL_length_9 (by decide) ?_
    refine s_iconst hG (v := (0 : Int32)) dL_length_18 (by decide) ?_
    exact s_wri hR (by decide) (by decide) dL_length_19
  · refine s_cx1 ?_ ?_
    · refine s_catchN hGT (lv' := [(0, vR 0), (1, vI p1), (2, vR 60)]) ctb_L_length_4_1 dL_length_12 (by decide) rfl ?_
      refine s_iconst hG (v := (1 : Int32)) dL_length_13 (by decide) ?_
      exact s_wri hR (by decide) (by decide) dL_length_14
    refine s_cx1 ?_ ?_
    · refine s_catchN hGT (lv' := [(0, vR 0), (1, vI p1), (2, vR 60)]) ctb_L_length_4_4 dL_length_15 (by decide) rfl ?_
      refine s_iconst hG (v := (2 : Int32)) dL_length_16 (by decide) ?_
      exact s_wri hR (by decide) (by decide) dL_length_17
    exact s_cx0

def f_L_move (p1 : Int32) (p2 : Int32) (p3 : Int32) (p4 : Int32) (S : HS) : Option (HS × Int32) :=
(f_X7_move p1 p2 p3 p4 S).bind (fun o9 => if o9.2.1 = 0 then
(fun (o9 : XO) =>
if ib (0 : Int32) (1) = true then
some ((sL o9.1 60 (0 : Int32).toNatClampNeg o9.2.2.toInt64), (0 : Int32))
else none) o9
else (fun (o9 : XO) => if o9.2.1 = 1 then some (o9.1, (1 : Int32)) else if o9.2.1 = 2 then some (o9.1, (2 : Int32)) else if o9.2.1 = 3 then some (o9.1, (3 : Int32)) else none) o9)
def rm_L_move : Room := { frames := 8, cells := 1, slots := 6, locals := 208 }
set_option maxRecDepth 100000 in
set_option maxHeartbeats 4000000 in
theorem c_L_move (l : Launch) (hl9 : l.stackTraces = false) (p1 : Int32) (p2 : Int32) (p3 : Int32) (p4 : Int32)  (S : HS) (out : HS × Int32) (h : f_L_move p1 p2 p3 p4 S = some out) : CtW l yL_move cL_move 7 (some .int) hh_L_move rm_L_move [vR 0, vI p1, vI p2, vI p3, vI p4, vR 60] S (some (vI out.2)) out.1 := by
  refine CtW.intro (own := RL) (lv := [(0, vR 0), (1, vI p1), (2, vI p2), (3, vI p3), (4, vI p4), (5, vR 60)]) (by decide +kernel) rfl ⟨rfl, rfl⟩ rfl (Nat.le_of_ble_eq_true rfl) ?_
  intro G Gx hGT hR
  have hG := hGT.ok
  revert h
  unfold f_L_move
  refine s_aload hG dL_move_0 rfl ?_
  refine s_iconst hG (v := (0 : Int32)) dL_move_2 (by decide) ?_
  refine s_aload_n hG dL_move_3 rfl ?_
  refine s_iload_n hG dL_move_4 rfl ?_
  refine s_iload_n hG dL_move_5 rfl ?_
  refine s_iload_n hG dL_move_6 rfl ?_
  refine s_iload hG dL_move_7 rfl ?_
  refine s_wx hGT (as := [vI p1, vI p2, vI p3, vI p4]) (st := [vI (0 : Int32), vR 60]) (rm := rm_X7_move) (rmT := rmT_X7_move) (by decide) dL_move_9 ml_RL_27 (tb8 (mem_i 25 rfl)) (rfl) (tb8 (mem_i 28 rfl)) rfl ⟨rfl, rfl⟩ ⟨rfl, rfl, rfl, rfl⟩ ⟨by decide, by decide⟩ ⟨rfl, rfl⟩ (Nat.le_of_ble_eq_true rfl) rfl (fun o h => c_X7_move l hl9 _ _ _ _ _ o h) (fun o9 => ?_) (fun o9 => ?_)
  · refine s_i2l hG dL_move_12 ?_
    refine s_lastore hG dL_move_13 (rfl) ?_
    refine s_goto hG (tgt := 29) dL_move_14 (by decide) ?_
    refine s_iconst hG (v := (0 : Int32)) dL_move_29 (by decide) ?_
    exact s_wri hR (by decide) (by decide) dL_move_30
  · refine s_cx1 ?_ ?_
    · refine s_catchA hGT (lv' := [(0, vR 0), (1, vI p1), (2, vI p2), (3, vI p3), (4, vI p4), (5, vR 60)]) ctb_L_move_9_1 dL_move_17 (by decide) rfl ?_
      refine s_iconst hG (v := (1 : Int32)) dL_move_19 (by decide) ?_
      exact s_wri hR (by decide) (by decide) dL_move_20
    refine s_cx1 ?_ ?_
    · refine s_catchA hGT (lv' := [(0, vR 0), (1, vI p1), (2, vI p2), (3, vI p3), (4, vI p4), (5, vR 60)]) ctb_L_move_9_2 dL_move_21 (by decide) rfl ?_
      refine s_iconst hG (v := (2 : Int32)) dL_move_23 (by decide) ?_
      exact s_wri hR (by decide) (by decide) dL_move_24
    refine s_cx1 ?_ ?_
    · refine s_catchA hGT (lv' := [(0, vR 0), (1, vI p1), (2, vI p2), (3, vI p3), (4, vI p4), (5, vR 60)]) ctb_L_move_9_3 dL_move_25 (by decide) rfl ?_
      refine s_iconst hG (v := (3 : Int32)) dL_move_27 (by decide) ?_
      exact s_wri hR (by decide) (by decide) dL_move_28
    exact s_cx0

def f_L_number (p1 : Int32) (p2 : Int32) (S : HS) : Option (HS × Int32) :=
(f_X7_number p1 p2 S).bind (fun o5 => if o5.2.1 = 0 then
(fun (o5 : XO) =>
if ib (0 : Int32) (1) = true then
some ((sL o5.1 60 (0 : Int32).toNatClampNeg o5.2.2.toInt64), (0 : Int32))
else none) o5
else (fun (o5 : XO) => if o5.2.1 = 1 then some (o5.1, (1 : Int32)) else if o5.2.1 = 2 then some (o5.1, (2 : Int32)) else if o5.2.1 = 4 then some (o5.1, (3 : Int32)) else none) o5)
def rm_L_number : Room := { frames := 8, cells := 1, slots := 6, locals := 134 }
set_option maxRecDepth 100000 in
set_option maxHeartbeats 4000000 in
theorem c_L_number (l : Launch) (hl9 : l.stackTraces = false) (p1 : Int32) (p2 : Int32)  (S : HS) (out : HS × Int32) (h : f_L_number p1 p2 S = some out) : CtW l yL_number cL_number 5 (some .int) hh_L_number rm_L_number [vR 0, vI p1, vI p2, vR 60] S (some (vI out.2)) out.1 := by
  refine CtW.intro (own := RL) (lv := [(0, vR 0), (1, vI p1), (2, vI p2), (3, vR 60)]) (by decide +kernel) rfl ⟨rfl, rfl⟩ rfl (Nat.le_of_ble_eq_true rfl) ?_
  intro G Gx hGT hR
  have hG := hGT.ok
  revert h
  unfold f_L_number
  refine s_aload_n hG dL_number_0 rfl ?_
  refine s_iconst hG (v := (0 : Int32)) dL_number_1 (by decide) ?_
  refine s_aload_n hG dL_number_2 rfl ?_
  refine s_iload_n hG dL_number_3 rfl ?_
  refine s_iload_n hG dL_number_4 rfl ?_
  refine s_wx hGT (as := [vI p1, vI p2]) (st := [vI (0 : Int32), vR 60]) (rm := rm_X7_number) (rmT := rmT_X7_number) (by decide) dL_number_5 ml_RL_66 (tb12 (mem_i 26 rfl)) (rfl) (tb12 (mem_i 29 rfl)) rfl ⟨rfl, rfl⟩ ⟨rfl, rfl, rfl, rfl⟩ ⟨by decide, by decide⟩ ⟨rfl, rfl⟩ (Nat.le_of_ble_eq_true rfl) rfl (fun o h => c_X7_number l hl9 _ _ _ o h) (fun o5 => ?_) (fun o5 => ?_)
  · refine s_i2l hG dL_number_8 ?_
    refine s_lastore hG dL_number_9 (rfl) ?_
    refine s_goto hG (tgt := 25) dL_number_10 (by decide) ?_
    refine s_iconst hG (v := (0 : Int32)) dL_number_25 (by decide) ?_
    exact s_wri hR (by decide) (by decide) dL_number_26
  · refine s_cx1 ?_ ?_
    · refine s_catchA hGT (lv' := [(0, vR 0), (1, vI p1), (2, vI p2), (3, vR 60)]) ctb_L_number_5_1 dL_number_13 (by decide) rfl ?_
      refine s_iconst hG (v := (1 : Int32)) dL_number_15 (by decide) ?_
      exact s_wri hR (by decide) (by decide) dL_number_16
    refine s_cx1 ?_ ?_
    · refine s_catchA hGT (lv' := [(0, vR 0), (1, vI p1), (2, vI p2), (3, vR 60)]) ctb_L_number_5_2 dL_number_17 (by decide) rfl ?_
      refine s_iconst hG (v := (2 : Int32)) dL_number_19 (by decide) ?_
      exact s_wri hR (by decide) (by decide) dL_number_20
    refine s_cx1 ?_ ?_
    · refine s_catchA hGT (lv' := [(0, vR 0), (1, vI p1), (2, vI p2), (3, vR 60)]) ctb_L_number_5_4 dL_number_21 (by decide) rfl ?_
      refine s_iconst hG (v := (3 : Int32)) dL_number_23 (by decide) ?_
      exact s_wri hR (by decide) (by decide) dL_number_24
    exact s_cx0

def f_L_numberAnew (p1 : Int32) (p2 : Int32) (S : HS) : Option (HS × Int32) :=
(f_X7_numberAnew p1 p2 S).bind (fun o5 => if o5.2.1 = 0 then
(fun (o5 : XO) =>
if ib (0 : Int32) (1) = true then
some ((sL o5.1 60 (0 : Int32).toNatClampNeg o5.2.2.toInt64), (0 : Int32))
else none) o5
else (fun (o5 : XO) => if o5.2.1 = 1 then some (o5.1, (1 : Int32)) else if o5.2.1 = 2 then some (o5.1, (2 : Int32)) else if o5.2.1 = 4 then some (o5.1, (3 : Int32)) else none) o5)
def rm_L_numberAnew : Room := { frames := 8, cells := 1, slots := 6, locals := 208 }
set_option maxRecDepth 100000 in
set_option maxHeartbeats 4000000 in
theorem c_L_numberAnew (l : Launch) (hl9 : l.stackTraces = false) (p1 : Int32) (p2 : Int32)  (S : HS) (out : HS × Int32) (h : f_L_numberAnew p1 p2 S = some out) : CtW l yL_numberAnew cL_numberAnew 5 (some .int) hh_L_numberAnew rm_L_numberAnew [vR 0, vI p1, vI p2, vR 60] S (some (vI out.2)) out.1 := by
  refine CtW.intro (own := RL) (lv := [(0, vR 0), (1, vI p1), (2, vI p2), (3, vR 60)]) (by decide +kernel) rfl ⟨rfl, rfl⟩ rfl (Nat.le_of_ble_eq_true rfl) ?_
  intro G Gx hGT hR
  have hG := hGT.ok
  revert h
  unfold f_L_numberAnew
  refine s_aload_n hG dL_numberAnew_0 rfl ?_
  refine s_iconst hG (v := (0 : Int32)) dL_numberAnew_1 (by decide) ?_
  refine s_aload_n hG dL_numberAnew_2 rfl ?_
  refine s_iload_n hG dL_numberAnew_3 rfl ?_
  refine s_iload_n hG dL_numberAnew_4 rfl ?_
  refine s_wx hGT (as := [vI p1, vI p2]) (st := [vI (0 : Int32), vR 60]) (rm := rm_X7_numberAnew) (rmT := rmT_X7_numberAnew) (by decide) dL_numberAnew_5 ml_RL_71 (tb13 (mem_i 8 rfl)) (rfl) (tb13 (mem_i 11 rfl)) rfl ⟨rfl, rfl⟩ ⟨rfl, rfl, rfl, rfl⟩ ⟨by decide, by decide⟩ ⟨rfl, rfl⟩ (Nat.le_of_ble_eq_true rfl) rfl (fun o h => c_X7_numberAnew l hl9 _ _ _ o h) (fun o5 => ?_) (fun o5 => ?_)
  · refine s_i2l hG dL_numberAnew_8 ?_
    refine s_lastore hG dL_numberAnew_9 (rfl) ?_
    refine s_goto hG (tgt := 25) dL_numberAnew_10 (by decide) ?_
    refine s_iconst hG (v := (0 : Int32)) dL_numberAnew_25 (by decide) ?_
    exact s_wri hR (by decide) (by decide) dL_numberAnew_26
  · refine s_cx1 ?_ ?_
    · refine s_catchA hGT (lv' := [(0, vR 0), (1, vI p1), (2, vI p2), (3, vR 60)]) ctb_L_numberAnew_5_1 dL_numberAnew_13 (by decide) rfl ?_
      refine s_iconst hG (v := (1 : Int32)) dL_numberAnew_15 (by decide) ?_
      exact s_wri hR (by decide) (by decide) dL_numberAnew_16
    refine s_cx1 ?_ ?_
    · refine s_catchA hGT (lv' := [(0, vR 0), (1, vI p1), (2, vI p2), (3, vR 60)]) ctb_L_numberAnew_5_2 dL_numberAnew_17 (by decide) rfl ?_
      refine s_iconst hG (v := (2 : Int32)) dL_numberAnew_19 (by decide) ?_
      exact s_wri hR (by decide) (by decide) dL_numberAnew_20
    refine s_cx1 ?_ ?_
    · refine s_catchA hGT (lv' := [(0, vR 0), (1, vI p1), (2, vI p2), (3, vR 60)]) ctb_L_numberAnew_5_4 dL_numberAnew_21 (by decide) rfl ?_
      refine s_iconst hG (v := (3 : Int32)) dL_numberAnew_23 (by decide) ?_
      exact s_wri hR (by decide) (by decide) dL_numberAnew_24
    exact s_cx0

def f_L_on (p1 : Int32) (p2 : Int32) (S : HS) : Option (HS × Int32) :=
(f_X7_on p1 p2 S).bind (fun o5 => if o5.2.1 = 0 then
(fun (o5 : XO) =>
if ib (0 : Int32) (1) = true then
some ((sL o5.1 60 (0 : Int32).toNatClampNeg o5.2.2.toInt64), (0 : Int32))
else none) o5
else (fun (o5 : XO) => if o5.2.1 = 1 then some (o5.1, (1 : Int32)) else none) o5)
def rm_L_on : Room := { frames := 8, cells := 1, slots := 6, locals := 209 }
set_option maxRecDepth 100000 in
set_option maxHeartbeats 4000000 in
theorem c_L_on (l : Launch) (hl9 : l.stackTraces = false) (p1 : Int32) (p2 : Int32)  (S : HS) (out : HS × Int32) (h : f_L_on p1 p2 S = some out) : CtW l yL_on cL_on 5 (some .int) hh_L_on rm_L_on [vR 0, vI p1, vI p2, vR 60] S (some (vI out.2)) out.1 := by
  refine CtW.intro (own := RL) (lv := [(0, vR 0), (1, vI p1), (2, vI p2), (3, vR 60)]) (by decide +kernel) rfl ⟨rfl, rfl⟩ rfl (Nat.le_of_ble_eq_true rfl) ?_
  intro G Gx hGT hR
  have hG := hGT.ok
  revert h
  unfold f_L_on
  refine s_aload_n hG dL_on_0 rfl ?_
  refine s_iconst hG (v := (0 : Int32)) dL_on_1 (by decide) ?_
  refine s_aload_n hG dL_on_2 rfl ?_
  refine s_iload_n hG dL_on_3 rfl ?_
  refine s_iload_n hG dL_on_4 rfl ?_
  refine s_wx hGT (as := [vI p1, vI p2]) (st := [vI (0 : Int32), vR 60]) (rm := rm_X7_on) (rmT := rmT_X7_on) (by decide) dL_on_5 ml_RL_44 (tb11 (mem_i 1 rfl)) (rfl) (tb11 (mem_i 4 rfl)) rfl ⟨rfl, rfl⟩ ⟨rfl, rfl, rfl, rfl⟩ ⟨by decide, by decide⟩ ⟨rfl, rfl⟩ (Nat.le_of_ble_eq_true rfl) rfl (fun o h => c_X7_on l hl9 _ _ _ o h) (fun o5 => ?_) (fun o5 => ?_)
  · refine s_i2l hG dL_on_8 ?_
    refine s_lastore hG dL_on_9 (rfl) ?_
    refine s_goto hG (tgt := 17) dL_on_10 (by decide) ?_
    refine s_iconst hG (v := (0 : Int32)) dL_on_17 (by decide) ?_
    exact s_wri hR (by decide) (by decide) dL_on_18
  · refine s_cx1 ?_ ?_
    · refine s_catchA hGT (lv' := [(0, vR 0), (1, vI p1), (2, vI p2), (3, vR 60)]) ctb_L_on_5_1 dL_on_13 (by decide) rfl ?_
      refine s_iconst hG (v := (1 : Int32)) dL_on_15 (by decide) ?_
      exact s_wri hR (by decide) (by decide) dL_on_16
    exact s_cx0

def f_L_part (p1 : Int32) (p2 : Int32) (S : HS) : Option (HS × Int32) :=
(f_X7_part p1 p2 S).bind (fun o5 => if o5.2.1 = 0 then
(fun (o5 : XO) =>
if ib (0 : Int32) (1) = true then
some ((sL o5.1 60 (0 : Int32).toNatClampNeg o5.2.2.toInt64), (0 : Int32))
else none) o5
else (fun (o5 : XO) => if o5.2.1 = 1 then some (o5.1, (1 : Int32)) else if o5.2.1 = 4 then some (o5.1, (2 : Int32)) else none) o5)
def rm_L_part : Room := { frames := 8, cells := 1, slots := 6, locals := 134 }
set_option maxRecDepth 100000 in
set_option maxHeartbeats 4000000 in
theorem c_L_part (l : Launch) (hl9 : l.stackTraces = false) (p1 : Int32) (p2 : Int32)  (S : HS) (out : HS × Int32) (h : f_L_part p1 p2 S = some out) : CtW l yL_part cL_part 5 (some .int) hh_L_part rm_L_part [vR 0, vI p1, vI p2, vR 60] S (some (vI out.2)) out.1 := by
  refine CtW.intro (own := RL) (lv := [(0, vR 0), (1, vI p1), (2, vI p2), (3, vR 60)]) (by decide +kernel) rfl ⟨rfl, rfl⟩ rfl (Nat.le_of_ble_eq_true rfl) ?_
  intro G Gx hGT hR
  have hG := hGT.ok
  revert h
  unfold f_L_part
  refine s_aload_n hG dL_part_0 rfl ?_
  refine s_iconst hG (v := (0 : Int32)) dL_part_1 (by decide) ?_
  refine s_aload_n hG dL_part_2 rfl ?_
  refine s_iload_n hG dL_part_3 rfl ?_
  refine s_iload_n hG dL_part_4 rfl ?_
  refine s_wx hGT (as := [vI p1, vI p2]) (st := [vI (0 : Int32), vR 60]) (rm := rm_X7_part) (rmT := rmT_X7_part) (by decide) dL_part_5 ml_RL_80 (tb13 (mem_i 28 rfl)) (rfl) (tb14 (mem_i 1 rfl)) rfl ⟨rfl, rfl⟩ ⟨rfl, rfl, rfl, rfl⟩ ⟨by decide, by decide⟩ ⟨rfl, rfl⟩ (Nat.le_of_ble_eq_true rfl) rfl (fun o h => c_X7_part l hl9 _ _ _ o h) (fun o5 => ?_) (fun o5 => ?_)
  · refine s_i2l hG dL_part_8 ?_
    refine s_lastore hG dL_part_9 (rfl) ?_
    refine s_goto hG (tgt := 21) dL_part_10 (by decide) ?_
    refine s_iconst hG (v := (0 : Int32)) dL_part_21 (by decide) ?_
    exact s_wri hR (by decide) (by decide) dL_part_22
  · refine s_cx1 ?_ ?_
    · refine s_catchA hGT (lv' := [(0, vR 0), (1, vI p1), (2, vI p2), (3, vR 60)]) ctb_L_part_5_1 dL_part_13 (by decide) rfl ?_
      refine s_iconst hG (v := (1 : Int32)) dL_part_15 (by decide) ?_
      exact s_wri hR (by decide) (by decide) dL_part_16
    refine s_cx1 ?_ ?_
    · refine s_catchA hGT (lv' := [(0, vR 0), (1, vI p1), (2, vI p2), (3, vR 60)]) ctb_L_part_5_4 dL_part_17 (by decide) rfl ?_
      refine s_iconst hG (v := (2 : Int32)) dL_part_19 (by decide) ?_
      exact s_wri hR (by decide) (by decide) dL_part_20
    exact s_cx0

def f_L_resize (p1 : Int32) (p2 : Int32) (p3 : Int32) (p4 : Int32) (S : HS) : Option (HS × Int32) :=
(f_X7_resize p1 p2 p3 p4 S).bind (fun o9 => if o9.2.1 = 0 then
(fun (o9 : XO) =>
if ib (0 : Int32) (1) = true then
some ((sL o9.1 60 (0 : Int32).toNatClampNeg o9.2.2.toInt64), (0 : Int32))
else none) o9
else (fun (o9 : XO) => if o9.2.1 = 1 then some (o9.1, (1 : Int32)) else if o9.2.1 = 2 then some (o9.1, (2 : Int32)) else if o9.2.1 = 3 then some (o9.1, (3 : Int32)) else none) o9)
def rm_L_resize : Room := { frames := 8, cells := 1, slots := 6, locals := 208 }
set_option maxRecDepth 100000 in
set_option maxHeartbeats 4000000 in
theorem c_L_resize (l : Launch) (hl9 : l.stackTraces = false) (p1 : Int32) (p2 : Int32) (p3 : Int32) (p4 : Int32)  (S : HS) (out : HS × Int32) (h : f_L_resize p1 p2 p3 p4 S = some out) : CtW l yL_resize cL_resize 7 (some .int) hh_L_resize rm_L_resize [vR 0, vI p1, vI p2, vI p3, vI p4, vR 60] S (some (vI out.2)) out.1 := by
  refine CtW.intro (own := RL) (lv := [(0, vR 0), (1, vI p1), (2, vI p2), (3, vI p3), (4, vI p4), (5, vR 60)]) (by decide +kernel) rfl ⟨rfl, rfl⟩ rfl (Nat.le_of_ble_eq_true rfl) ?_
  intro G Gx hGT hR
  have hG := hGT.ok
  revert h
  unfold f_L_resize
  refine s_aload hG dL_resize_0 rfl ?_
  refine s_iconst hG (v := (0 : Int32)) dL_resize_2 (by decide) ?_
  refine s_aload_n hG dL_resize_3 rfl ?_
  refine s_iload_n hG dL_resize_4 rfl ?_
  refine s_iload_n hG dL_resize_5 rfl ?_
  refine s_iload_n hG dL_resize_6 rfl ?_
  refine s_iload hG dL_resize_7 rfl ?_
  refine s_wx hGT (as := [vI p1, vI p2, vI p3, vI p4]) (st := [vI (0 : Int32), vR 60]) (rm := rm_X7_resize) (rmT := rmT_X7_resize) (by decide) dL_resize_9 ml_RL_31 (tb9 (mem_i 8 rfl)) (rfl) (tb9 (mem_i 11 rfl)) rfl ⟨rfl, rfl⟩ ⟨rfl, rfl, rfl, rfl⟩ ⟨by decide, by decide⟩ ⟨rfl, rfl⟩ (Nat.le_of_ble_eq_true rfl) rfl (fun o h => c_X7_resize l hl9 _ _ _ _ _ o h) (fun o9 => ?_) (fun o9 => ?_)
  · refine s_i2l hG dL_resize_12 ?_
    refine s_lastore hG dL_resize_13 (rfl) ?_
    refine s_goto hG (tgt := 29) dL_resize_14 (by decide) ?_
    refine s_iconst hG (v := (0 : Int32)) dL_resize_29 (by decide) ?_
    exact s_wri hR (by decide) (by decide) dL_resize_30
  · refine s_cx1 ?_ ?_
    · refine s_catchA hGT (lv' := [(0, vR 0), (1, vI p1), (2, vI p2), (3, vI p3), (4, vI p4), (5, vR 60)]) ctb_L_resize_9_1 dL_resize_17 (by decide) rfl ?_
      refine s_iconst hG (v := (1 : Int32)) dL_resize_19 (by decide) ?_
      exact s_wri hR (by decide) (by decide) dL_resize_20
    refine s_cx1 ?_ ?_
    · refine s_catchA hGT (lv' := [(0, vR 0), (1, vI p1), (2, vI p2), (3, vI p3), (4, vI p4), (5, vR 60)]) ctb_L_resize_9_2 dL_resize_21 (by decide) rfl ?_
      refine s_iconst hG (v := (2 : Int32)) dL_resize_23 (by decide) ?_
      exact s_wri hR (by decide) (by decide) dL_resize_24
    refine s_cx1 ?_ ?_
    · refine s_catchA hGT (lv' := [(0, vR 0), (1, vI p1), (2, vI p2), (3, vI p3), (4, vI p4), (5, vR 60)]) ctb_L_resize_9_3 dL_resize_25 (by decide) rfl ?_
      refine s_iconst hG (v := (3 : Int32)) dL_resize_27 (by decide) ?_
      exact s_wri hR (by decide) (by decide) dL_resize_28
    exact s_cx0

def f_L_spell (p1 : Int32) (S : HS) : Option (HS × Int32) :=
(f_X7_spell p1 S).bind (fun o4 => if o4.2.1 = 0 then
(fun (o4 : XO) =>
if ib (0 : Int32) (1) = true then
some ((sL o4.1 60 (0 : Int32).toNatClampNeg o4.2.2.toInt64), (0 : Int32))
else none) o4
else (fun (o4 : XO) => if o4.2.1 = 1 then some (o4.1, (1 : Int32)) else if o4.2.1 = 3 then some (o4.1, (2 : Int32)) else none) o4)
def rm_L_spell : Room := { frames := 7, cells := 1, slots := 6, locals := 113 }
set_option maxRecDepth 100000 in
set_option maxHeartbeats 4000000 in
theorem c_L_spell (l : Launch) (hl9 : l.stackTraces = false) (p1 : Int32)  (S : HS) (out : HS × Int32) (h : f_L_spell p1 S = some out) : CtW l yL_spell cL_spell 4 (some .int) hh_L_spell rm_L_spell [vR 0, vI p1, vR 60] S (some (vI out.2)) out.1 := by
  refine CtW.intro (own := RL) (lv := [(0, vR 0), (1, vI p1), (2, vR 60)]) (by decide +kernel) rfl ⟨rfl, rfl⟩ rfl (Nat.le_of_ble_eq_true rfl) ?_
  intro G Gx hGT hR
  have hG := hGT.ok
  revert h
  unfold f_L_spell
  refine s_aload_n hG dL_spell_0 rfl ?_
  refine s_iconst hG (v := (0 : Int32)) dL_spell_1 (by decide) ?_
  refine s_aload_n hG dL_spell_2 rfl ?_
  refine s_iload_n hG dL_spell_3 rfl ?_
  refine s_wx hGT (as := [vI p1]) (st := [vI (0 : Int32), vR 60]) (rm := rm_X7_spell) (rmT := rmT_X7_spell) (by decide) dL_spell_4 ml_RL_7 (tb5 (mem_i 9 rfl)) (rfl) (tb5 (mem_i 12 rfl)) rfl ⟨rfl, rfl⟩ ⟨rfl, rfl, rfl, rfl⟩ ⟨by decide, by decide⟩ ⟨rfl, rfl⟩ (Nat.le_of_ble_eq_true rfl) rfl (fun o h => c_X7_spell l hl9 _ _ o h) (fun o4 => ?_) (fun o4 => ?_)
  · refine s_i2l hG dL_spell_7 ?_
    refine s_lastore hG dL_spell_8 (rfl) ?_
    refine s_goto hG (tgt := 18) dL_spell_9 (by decide) ?_
    refine s_iconst hG (v := (0 : Int32)) dL_spell_18 (by decide) ?_
    exact s_wri hR (by decide) (by decide) dL_spell_19
  · refine s_cx1 ?_ ?_
    · refine s_catchN hGT (lv' := [(0, vR 0), (1, vI p1), (2, vR 60)]) ctb_L_spell_4_1 dL_spell_12 (by decide) rfl ?_
      refine s_iconst hG (v := (1 : Int32)) dL_spell_13 (by decide) ?_
      exact s_wri hR (by decide) (by decide) dL_spell_14
    refine s_cx1 ?_ ?_
    · refine s_catchN hGT (lv' := [(0, vR 0), (1, vI p1), (2, vR 60)]) ctb_L_spell_4_3 dL_spell_15 (by decide) rfl ?_
      refine s_iconst hG (v := (2 : Int32)) dL_spell_16 (by decide) ?_
      exact s_wri hR (by decide) (by decide) dL_spell_17
    exact s_cx0

def f_L_standsAt (p1 : Int32) (S : HS) : Option (HS × Int32) :=
(f_X7_standsAt p1 S).bind (fun o4 => if o4.2.1 = 0 then
(fun (o4 : XO) =>
if ib (0 : Int32) (1) = true then
some ((sL o4.1 60 (0 : Int32).toNatClampNeg o4.2.2.toInt64), (0 : Int32))
else none) o4
else (fun (o4 : XO) => if o4.2.1 = 1 then some (o4.1, (1 : Int32)) else none) o4)
def rm_L_standsAt : Room := { frames := 8, cells := 1, slots := 6, locals := 132 }
set_option maxRecDepth 100000 in
set_option maxHeartbeats 4000000 in
theorem c_L_standsAt (l : Launch) (hl9 : l.stackTraces = false) (p1 : Int32)  (S : HS) (out : HS × Int32) (h : f_L_standsAt p1 S = some out) : CtW l yL_standsAt cL_standsAt 4 (some .int) hh_L_standsAt rm_L_standsAt [vR 0, vI p1, vR 60] S (some (vI out.2)) out.1 := by
  refine CtW.intro (own := RL) (lv := [(0, vR 0), (1, vI p1), (2, vR 60)]) (by decide +kernel) rfl ⟨rfl, rfl⟩ rfl (Nat.le_of_ble_eq_true rfl) ?_
  intro G Gx hGT hR
  have hG := hGT.ok
  revert h
  unfold f_L_standsAt
  refine s_aload_n hG dL_standsAt_0 rfl ?_
  refine s_iconst hG (v := (0 : Int32)) dL_standsAt_1 (by decide) ?_
  refine s_aload_n hG dL_standsAt_2 rfl ?_
  refine s_iload_n hG dL_standsAt_3 rfl ?_
  refine s_wx hGT (as := [vI p1]) (st := [vI (0 : Int32), vR 60]) (rm := rm_X7_standsAt) (rmT := rmT_X7_standsAt) (by decide) dL_standsAt_4 ml_RL_53 (tb11 (mem_i 29 rfl)) (rfl) (tb12 (mem_i 2 rfl)) rfl ⟨rfl, rfl⟩ ⟨rfl, rfl, rfl, rfl⟩ ⟨by decide, by decide⟩ ⟨rfl, rfl⟩ (Nat.le_of_ble_eq_true rfl) rfl (fun o h => c_X7_standsAt l hl9 _ _ o h) (fun o4 => ?_) (fun o4 => ?_)
  · refine s_i2l hG dL_standsAt_7 ?_
    refine s_lastore hG dL_standsAt_8 (rfl) ?_
    refine s_goto hG (tgt := 15) dL_standsAt_9 (by decide) ?_
    refine s_iconst hG (v := (0 : Int32)) dL_standsAt_15 (by decide) ?_
    exact s_wri hR (by decide) (by decide) dL_standsAt_16
  · refine s_cx1 ?_ ?_
    · refine s_catchN hGT (lv' := [(0, vR 0), (1, vI p1), (2, vR 60)]) ctb_L_standsAt_4_1 dL_standsAt_12 (by decide) rfl ?_
      refine s_iconst hG (v := (1 : Int32)) dL_standsAt_13 (by decide) ?_
      exact s_wri hR (by decide) (by decide) dL_standsAt_14
    exact s_cx0
