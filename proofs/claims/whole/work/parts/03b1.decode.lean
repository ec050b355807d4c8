theorem dX7_reckonLowChances_66 : decode cX7_reckonLowChances 66 = .ok (.iload 5, 2) := by decide +kernel
theorem dX7_reckonLowChances_68 : decode cX7_reckonLowChances 68 = .ok (.laload, 1) := by decide +kernel
theorem dX7_reckonLowChances_69 : decode cX7_reckonLowChances 69 = .ok (.bipush 10, 2) := by decide +kernel
theorem dX7_reckonLowChances_71 : decode cX7_reckonLowChances 71 = .ok (.iload_n 3, 1) := by decide +kernel
theorem dX7_reckonLowChances_72 : decode cX7_reckonLowChances 72 = .ok (.isub, 1) := by decide +kernel
theorem dX7_reckonLowChances_73 : decode cX7_reckonLowChances 73 = .ok (.i2l, 1) := by decide +kernel
theorem dX7_reckonLowChances_74 : decode cX7_reckonLowChances 74 = .ok (.lmul, 1) := by decide +kernel
theorem dX7_reckonLowChances_75 : decode cX7_reckonLowChances 75 = .ok (.lastore, 1) := by decide +kernel
theorem dX7_reckonLowChances_76 : decode cX7_reckonLowChances 76 = .ok (.iinc 5 1, 3) := by decide +kernel
theorem dX7_reckonLowChances_79 : decode cX7_reckonLowChances 79 = .ok (.goto (-50), 3) := by decide +kernel
theorem dX7_reckonLowChances_82 : decode cX7_reckonLowChances 82 = .ok (.iinc 2 1, 3) := by decide +kernel
theorem dX7_reckonLowChances_85 : decode cX7_reckonLowChances 85 = .ok (.goto (-76), 3) := by decide +kernel
theorem dX7_reckonLowChances_88 : decode cX7_reckonLowChances 88 = .ok (.return_, 1) := by decide +kernel
theorem dX7_chanceOfWord_0 : decode cX7_chanceOfWord 0 = .ok (.lconst 0, 1) := by decide +kernel
theorem dX7_chanceOfWord_1 : decode cX7_chanceOfWord 1 = .ok (.lstore_n 3, 1) := by decide +kernel
theorem dX7_chanceOfWord_2 : decode cX7_chanceOfWord 2 = .ok (.lload_n 1, 1) := by decide +kernel
theorem dX7_chanceOfWord_3 : decode cX7_chanceOfWord 3 = .ok (.lstore 5, 2) := by decide +kernel
theorem dX7_chanceOfWord_5 : decode cX7_chanceOfWord 5 = .ok (.iconst 0, 1) := by decide +kernel
theorem dX7_chanceOfWord_6 : decode cX7_chanceOfWord 6 = .ok (.istore 7, 2) := by decide +kernel
theorem dX7_chanceOfWord_8 : decode cX7_chanceOfWord 8 = .ok (.iload 7, 2) := by decide +kernel
theorem dX7_chanceOfWord_10 : decode cX7_chanceOfWord 10 = .ok (.bipush 64, 2) := by decide +kernel
theorem dX7_chanceOfWord_12 : decode cX7_chanceOfWord 12 = .ok (.if_icmp .ge 41, 3) := by decide +kernel
theorem dX7_chanceOfWord_15 : decode cX7_chanceOfWord 15 = .ok (.lload 5, 2) := by decide +kernel
theorem dX7_chanceOfWord_17 : decode cX7_chanceOfWord 17 = .ok (.lconst 0, 1) := by decide +kernel
theorem dX7_chanceOfWord_18 : decode cX7_chanceOfWord 18 = .ok (.lcmp, 1) := by decide +kernel
theorem dX7_chanceOfWord_19 : decode cX7_chanceOfWord 19 = .ok (.ifCond .eq 34, 3) := by decide +kernel
theorem dX7_chanceOfWord_22 : decode cX7_chanceOfWord 22 = .ok (.lload_n 3, 1) := by decide +kernel
theorem dX7_chanceOfWord_23 : decode cX7_chanceOfWord 23 = .ok (.aload_n 0, 1) := by decide +kernel
theorem dX7_chanceOfWord_24 : decode cX7_chanceOfWord 24 = .ok (.getfield 15, 3) := by decide +kernel
theorem dX7_chanceOfWord_27 : decode cX7_chanceOfWord 27 = .ok (.lload 5, 2) := by decide +kernel
theorem dX7_chanceOfWord_29 : decode cX7_chanceOfWord 29 = .ok (.invokestatic 55, 3) := by decide +kernel
theorem dX7_chanceOfWord_32 : decode cX7_chanceOfWord 32 = .ok (.bipush 63, 2) := by decide +kernel
theorem dX7_chanceOfWord_34 : decode cX7_chanceOfWord 34 = .ok (.iand, 1) := by decide +kernel
theorem dX7_chanceOfWord_35 : decode cX7_chanceOfWord 35 = .ok (.laload, 1) := by decide +kernel
theorem dX7_chanceOfWord_36 : decode cX7_chanceOfWord 36 = .ok (.ladd, 1) := by decide +kernel
theorem dX7_chanceOfWord_37 : decode cX7_chanceOfWord 37 = .ok (.lstore_n 3, 1) := by decide +kernel
theorem dX7_chanceOfWord_38 : decode cX7_chanceOfWord 38 = .ok (.lload 5, 2) := by decide +kernel
theorem dX7_chanceOfWord_40 : decode cX7_chanceOfWord 40 = .ok (.lload 5, 2) := by decide +kernel
theorem dX7_chanceOfWord_42 : decode cX7_chanceOfWord 42 = .ok (.lconst 1, 1) := by decide +kernel
theorem dX7_chanceOfWord_43 : decode cX7_chanceOfWord 43 = .ok (.lsub, 1) := by decide +kernel
theorem dX7_chanceOfWord_44 : decode cX7_chanceOfWord 44 = .ok (.land, 1) := by decide +kernel
theorem dX7_chanceOfWord_45 : decode cX7_chanceOfWord 45 = .ok (.lstore 5, 2) := by decide +kernel
theorem dX7_chanceOfWord_47 : decode cX7_chanceOfWord 47 = .ok (.iinc 7 1, 3) := by decide +kernel
theorem dX7_chanceOfWord_50 : decode cX7_chanceOfWord 50 = .ok (.goto (-42), 3) := by decide +kernel
theorem dX7_chanceOfWord_53 : decode cX7_chanceOfWord 53 = .ok (.lload_n 3, 1) := by decide +kernel
theorem dX7_chanceOfWord_54 : decode cX7_chanceOfWord 54 = .ok (.lreturn, 1) := by decide +kernel
theorem dX7_lowestBit_0 : decode cX7_lowestBit 0 = .ok (.lload_n 0, 1) := by decide +kernel
theorem dX7_lowestBit_1 : decode cX7_lowestBit 1 = .ok (.lload_n 0, 1) := by decide +kernel
theorem dX7_lowestBit_2 : decode cX7_lowestBit 2 = .ok (.lneg, 1) := by decide +kernel
theorem dX7_lowestBit_3 : decode cX7_lowestBit 3 = .ok (.land, 1) := by decide +kernel
theorem dX7_lowestBit_4 : decode cX7_lowestBit 4 = .ok (.lconst 1, 1) := by decide +kernel
theorem dX7_lowestBit_5 : decode cX7_lowestBit 5 = .ok (.lsub, 1) := by decide +kernel
theorem dX7_lowestBit_6 : decode cX7_lowestBit 6 = .ok (.invokestatic 59, 3) := by decide +kernel
theorem dX7_lowestBit_9 : decode cX7_lowestBit 9 = .ok (.ireturn, 1) := by decide +kernel
theorem dX7_closedWord_0 : decode cX7_closedWord 0 = .ok (.lload_n 0, 1) := by decide +kernel
theorem dX7_closedWord_1 : decode cX7_closedWord 1 = .ok (.lstore_n 2, 1) := by decide +kernel
theorem dX7_closedWord_2 : decode cX7_closedWord 2 = .ok (.iconst 0, 1) := by decide +kernel
theorem dX7_closedWord_3 : decode cX7_closedWord 3 = .ok (.istore 4, 2) := by decide +kernel
theorem dX7_closedWord_5 : decode cX7_closedWord 5 = .ok (.iload 4, 2) := by decide +kernel
theorem dX7_closedWord_7 : decode cX7_closedWord 7 = .ok (.bipush 6, 2) := by decide +kernel
theorem dX7_closedWord_9 : decode cX7_closedWord 9 = .ok (.if_icmp .ge 25, 3) := by decide +kernel
theorem dX7_closedWord_12 : decode cX7_closedWord 12 = .ok (.lload_n 2, 1) := by decide +kernel
theorem dX7_closedWord_13 : decode cX7_closedWord 13 = .ok (.lload_n 2, 1) := by decide +kernel
theorem dX7_closedWord_14 : decode cX7_closedWord 14 = .ok (.getstatic 91, 3) := by decide +kernel
theorem dX7_closedWord_17 : decode cX7_closedWord 17 = .ok (.iload 4, 2) := by decide +kernel
theorem dX7_closedWord_19 : decode cX7_closedWord 19 = .ok (.laload, 1) := by decide +kernel
theorem dX7_closedWord_20 : decode cX7_closedWord 20 = .ok (.land, 1) := by decide +kernel
theorem dX7_closedWord_21 : decode cX7_closedWord 21 = .ok (.iconst 1, 1) := by decide +kernel
theorem dX7_closedWord_22 : decode cX7_closedWord 22 = .ok (.iload 4, 2) := by decide +kernel
theorem dX7_closedWord_24 : decode cX7_closedWord 24 = .ok (.ishl, 1) := by decide +kernel
theorem dX7_closedWord_25 : decode cX7_closedWord 25 = .ok (.lshl, 1) := by decide +kernel
theorem dX7_closedWord_26 : decode cX7_closedWord 26 = .ok (.lor, 1) := by decide +kernel
theorem dX7_closedWord_27 : decode cX7_closedWord 27 = .ok (.lstore_n 2, 1) := by decide +kernel
theorem dX7_closedWord_28 : decode cX7_closedWord 28 = .ok (.iinc 4 1, 3) := by decide +kernel
theorem dX7_closedWord_31 : decode cX7_closedWord 31 = .ok (.goto (-26), 3) := by decide +kernel
theorem dX7_closedWord_34 : decode cX7_closedWord 34 = .ok (.lload_n 2, 1) := by decide +kernel
theorem dX7_closedWord_35 : decode cX7_closedWord 35 = .ok (.lreturn, 1) := by decide +kernel
theorem dX7_grownWord_0 : decode cX7_grownWord 0 = .ok (.lconst 0, 1) := by decide +kernel
theorem dX7_grownWord_1 : decode cX7_grownWord 1 = .ok (.lstore_n 2, 1) := by decide +kernel
theorem dX7_grownWord_2 : decode cX7_grownWord 2 = .ok (.iconst 0, 1) := by decide +kernel
theorem dX7_grownWord_3 : decode cX7_grownWord 3 = .ok (.istore 4, 2) := by decide +kernel
theorem dX7_grownWord_5 : decode cX7_grownWord 5 = .ok (.iload 4, 2) := by decide +kernel
theorem dX7_grownWord_7 : decode cX7_grownWord 7 = .ok (.bipush 6, 2) := by decide +kernel
theorem dX7_grownWord_9 : decode cX7_grownWord 9 = .ok (.if_icmp .ge 25, 3) := by decide +kernel
theorem dX7_grownWord_12 : decode cX7_grownWord 12 = .ok (.lload_n 2, 1) := by decide +kernel
theorem dX7_grownWord_13 : decode cX7_grownWord 13 = .ok (.lload_n 0, 1) := by decide +kernel
theorem dX7_grownWord_14 : decode cX7_grownWord 14 = .ok (.getstatic 91, 3) := by decide +kernel
theorem dX7_grownWord_17 : decode cX7_grownWord 17 = .ok (.iload 4, 2) := by decide +kernel
theorem dX7_grownWord_19 : decode cX7_grownWord 19 = .ok (.laload, 1) := by decide +kernel
theorem dX7_grownWord_20 : decode cX7_grownWord 20 = .ok (.land, 1) := by decide +kernel
theorem dX7_grownWord_21 : decode cX7_grownWord 21 = .ok (.iconst 1, 1) := by decide +kernel
theorem dX7_grownWord_22 : decode cX7_grownWord 22 = .ok (.iload 4, 2) := by decide +kernel
theorem dX7_grownWord_24 : decode cX7_grownWord 24 = .ok (.ishl, 1) := by decide +kernel
theorem dX7_grownWord_25 : decode cX7_grownWord 25 = .ok (.lshl, 1) := by decide +kernel
theorem dX7_grownWord_26 : decode cX7_grownWord 26 = .ok (.lor, 1) := by decide +kernel
theorem dX7_grownWord_27 : decode cX7_grownWord 27 = .ok (.lstore_n 2, 1) := by decide +kernel
theorem dX7_grownWord_28 : decode cX7_grownWord 28 = .ok (.iinc 4 1, 3) := by decide +kernel
theorem dX7_grownWord_31 : decode cX7_grownWord 31 = .ok (.goto (-26), 3) := by decide +kernel
theorem dX7_grownWord_34 : decode cX7_grownWord 34 = .ok (.lload_n 2, 1) := by decide +kernel
theorem dX7_grownWord_35 : decode cX7_grownWord 35 = .ok (.lreturn, 1) := by decide +kernel
theorem dX7_flippedWord_0 : decode cX7_flippedWord 0 = .ok (.lload_n 0, 1) := by decide +kernel
theorem dX7_flippedWord_1 : decode cX7_flippedWord 1 = .ok (.lstore_n 3, 1) := by decide +kernel
theorem dX7_flippedWord_2 : decode cX7_flippedWord 2 = .ok (.iconst 0, 1) := by decide +kernel
theorem dX7_flippedWord_3 : decode cX7_flippedWord 3 = .ok (.istore 5, 2) := by decide +kernel
theorem dX7_flippedWord_5 : decode cX7_flippedWord 5 = .ok (.iload 5, 2) := by decide +kernel
theorem dX7_flippedWord_7 : decode cX7_flippedWord 7 = .ok (.bipush 6, 2) := by decide +kernel
theorem dX7_flippedWord_9 : decode cX7_flippedWord 9 = .ok (.if_icmp .ge 48, 3) := by decide +kernel
theorem dX7_flippedWord_12 : decode cX7_flippedWord 12 = .ok (.iload_n 2, 1) := by decide +kernel
theorem dX7_flippedWord_13 : decode cX7_flippedWord 13 = .ok (.iload 5, 2) := by decide +kernel
theorem dX7_flippedWord_15 : decode cX7_flippedWord 15 = .ok (.ishr, 1) := by decide +kernel
theorem dX7_flippedWord_16 : decode cX7_flippedWord 16 = .ok (.iconst 1, 1) := by decide +kernel
theorem dX7_flippedWord_17 : decode cX7_flippedWord 17 = .ok (.iand, 1) := by decide +kernel
theorem dX7_flippedWord_18 : decode cX7_flippedWord 18 = .ok (.ifCond .eq 33, 3) := by decide +kernel
theorem dX7_flippedWord_21 : decode cX7_flippedWord 21 = .ok (.iconst 1, 1) := by decide +kernel
theorem dX7_flippedWord_22 : decode cX7_flippedWord 22 = .ok (.iload 5, 2) := by decide +kernel
theorem dX7_flippedWord_24 : decode cX7_flippedWord 24 = .ok (.ishl, 1) := by decide +kernel
theorem dX7_flippedWord_25 : decode cX7_flippedWord 25 = .ok (.istore 6, 2) := by decide +kernel
theorem dX7_flippedWord_27 : decode cX7_flippedWord 27 = .ok (.lload_n 3, 1) := by decide +kernel
theorem dX7_flippedWord_28 : decode cX7_flippedWord 28 = .ok (.getstatic 91, 3) := by decide +kernel
theorem dX7_flippedWord_31 : decode cX7_flippedWord 31 = .ok (.iload 5, 2) := by decide +kernel
theorem dX7_flippedWord_33 : decode cX7_flippedWord 33 = .ok (.laload, 1) := by decide +kernel
theorem dX7_flippedWord_34 : decode cX7_flippedWord 34 = .ok (.land, 1) := by decide +kernel
theorem dX7_flippedWord_35 : decode cX7_flippedWord 35 = .ok (.iload 6, 2) := by decide +kernel
theorem dX7_flippedWord_37 : decode cX7_flippedWord 37 = .ok (.lshl, 1) := by decide +kernel
theorem dX7_flippedWord_38 : decode cX7_flippedWord 38 = .ok (.lload_n 3, 1) := by decide +kernel
theorem dX7_flippedWord_39 : decode cX7_flippedWord 39 = .ok (.iload 6, 2) := by decide +kernel
theorem dX7_flippedWord_41 : decode cX7_flippedWord 41 = .ok (.lushr, 1) := by decide +kernel
theorem dX7_flippedWord_42 : decode cX7_flippedWord 42 = .ok (.getstatic 91, 3) := by decide +kernel
theorem dX7_flippedWord_45 : decode cX7_flippedWord 45 = .ok (.iload 5, 2) := by decide +kernel
theorem dX7_flippedWord_47 : decode cX7_flippedWord 47 = .ok (.laload, 1) := by decide +kernel
theorem dX7_flippedWord_48 : decode cX7_flippedWord 48 = .ok (.land, 1) := by decide +kernel
theorem dX7_flippedWord_49 : decode cX7_flippedWord 49 = .ok (.lor, 1) := by decide +kernel
theorem dX7_flippedWord_50 : decode cX7_flippedWord 50 = .ok (.lstore_n 3, 1) := by decide +kernel
theorem dX7_flippedWord_51 : decode cX7_flippedWord 51 = .ok (.iinc 5 1, 3) := by decide +kernel
theorem dX7_flippedWord_54 : decode cX7_flippedWord 54 = .ok (.goto (-49), 3) := by decide +kernel
theorem dX7_flippedWord_57 : decode cX7_flippedWord 57 = .ok (.lload_n 3, 1) := by decide +kernel
theorem dX7_flippedWord_58 : decode cX7_flippedWord 58 = .ok (.lreturn, 1) := by decide +kernel
theorem dX7_withinWord_0 : decode cX7_withinWord 0 = .ok (.ldc2_w 38, 3) := by decide +kernel
theorem dX7_withinWord_3 : decode cX7_withinWord 3 = .ok (.lstore_n 1, 1) := by decide +kernel
theorem dX7_withinWord_4 : decode cX7_withinWord 4 = .ok (.iconst 0, 1) := by decide +kernel
theorem dX7_withinWord_5 : decode cX7_withinWord 5 = .ok (.istore_n 3, 1) := by decide +kernel
theorem dX7_withinWord_6 : decode cX7_withinWord 6 = .ok (.iload_n 3, 1) := by decide +kernel
theorem dX7_withinWord_7 : decode cX7_withinWord 7 = .ok (.bipush 6, 2) := by decide +kernel
theorem dX7_withinWord_9 : decode cX7_withinWord 9 = .ok (.if_icmp .ge 25, 3) := by decide +kernel
theorem dX7_withinWord_12 : decode cX7_withinWord 12 = .ok (.iload_n 0, 1) := by decide +kernel
theorem dX7_withinWord_13 : decode cX7_withinWord 13 = .ok (.iload_n 3, 1) := by decide +kernel
theorem dX7_withinWord_14 : decode cX7_withinWord 14 = .ok (.ishr, 1) := by decide +kernel
theorem dX7_withinWord_15 : decode cX7_withinWord 15 = .ok (.iconst 1, 1) := by decide +kernel
theorem dX7_withinWord_16 : decode cX7_withinWord 16 = .ok (.iand, 1) := by decide +kernel
theorem dX7_withinWord_17 : decode cX7_withinWord 17 = .ok (.ifCond .ne 11, 3) := by decide +kernel
theorem dX7_withinWord_20 : decode cX7_withinWord 20 = .ok (.lload_n 1, 1) := by decide +kernel
theorem dX7_withinWord_21 : decode cX7_withinWord 21 = .ok (.getstatic 91, 3) := by decide +kernel
theorem dX7_withinWord_24 : decode cX7_withinWord 24 = .ok (.iload_n 3, 1) := by decide +kernel
theorem dX7_withinWord_25 : decode cX7_withinWord 25 = .ok (.laload, 1) := by decide +kernel
theorem dX7_withinWord_26 : decode cX7_withinWord 26 = .ok (.land, 1) := by decide +kernel
theorem dX7_withinWord_27 : decode cX7_withinWord 27 = .ok (.lstore_n 1, 1) := by decide +kernel
theorem dX7_withinWord_28 : decode cX7_withinWord 28 = .ok (.iinc 3 1, 3) := by decide +kernel
theorem dX7_withinWord_31 : decode cX7_withinWord 31 = .ok (.goto (-25), 3) := by decide +kernel
theorem dX7_withinWord_34 : decode cX7_withinWord 34 = .ok (.lload_n 1, 1) := by decide +kernel
theorem dX7_withinWord_35 : decode cX7_withinWord 35 = .ok (.lreturn, 1) := by decide +kernel
