theorem dX7_chanceOfWord_36 : decode cX7_chanceOfWord 36 = .ok (.ladd, 1) := by decide +kernel
theorem dX7_chanceOfWord_37 : decode cX7_chanceOfWord 37 = .ok (.lstore_n 3, 1) := by decide +kernel
theorem dX7_chanceOfWord_38 : decode cX7_chanceOfWord 38 = .ok (.lload 5, 2) := by decide +kernel
theorem dX7_chanceOfWord_40 : decode cX7_chanceOfWord 40 = .ok (.lload 5, 2) := by decide +kernel
theorem dX7_chanceOfWord_42 : decode cX7_chanceOfWord 42 = .ok (.lconst 1, 1) := by decide +kernel
theorem dX7_chanceOfWord_43 : decode cX7_chanceOfWord 43 = .ok (.lsub, 1) := by decide +kernel
theorem dX7_chanceOfWord_44 : decode cX7_chanceOfWord 44 = .ok (.land, 1) := by decide +kernel
theorem dX7_chanceOfWord_45 : decode cX7_chanceOfWord 45 = .ok (.lstore 5, 2) := by decide +kernel
theorem dX7_chanceOfWord_47 : decode cX7_chanceOfWord 47 = .ok (.iinc 7 1, 3) := by decide +kernel
theorem dX7_chanceOfWord_50 : decode cX7_chanceOfWord 50 = .ok (.goto (-42), 3) := by decide +kernel
theorem dX7_chanceOfWord_53 : decode cX7_chanceOfWord 53 = .ok (.lload_n 3, 1) := by decide +kernel
theorem dX7_chanceOfWord_54 : decode cX7_chanceOfWord 54 = .ok (.lreturn, 1) := by decide +kernel
theorem dX7_lowestBit_0 : decode cX7_lowestBit 0 = .ok (.lload_n 0, 1) := by decide +kernel
theorem dX7_lowestBit_1 : decode cX7_lowestBit 1 = .ok (.lload_n 0, 1) := by decide +kernel
theorem dX7_lowestBit_2 : decode cX7_lowestBit 2 = .ok (.lneg, 1) := by decide +kernel
theorem dX7_lowestBit_3 : decode cX7_lowestBit 3 = .ok (.land, 1) := by decide +kernel
theorem dX7_lowestBit_4 : decode cX7_lowestBit 4 = .ok (.lconst 1, 1) := by decide +kernel
theorem dX7_lowestBit_5 : decode cX7_lowestBit 5 = .ok (.lsub, 1) := by decide +kernel
theorem dX7_lowestBit_6 : decode cX7_lowestBit 6 = .ok (.invokestatic 55, 3) := by decide +kernel
theorem dX7_lowestBit_9 : decode cX7_lowestBit 9 = .ok (.ireturn, 1) := by decide +kernel
theorem dX7_closedWord_0 : decode cX7_closedWord 0 = .ok (.lload_n 0, 1) := by decide +kernel
theorem dX7_closedWord_1 : decode cX7_closedWord 1 = .ok (.lstore_n 2, 1) := by decide +kernel
theorem dX7_closedWord_2 : decode cX7_closedWord 2 = .ok (.iconst 0, 1) := by decide +kernel
theorem dX7_closedWord_3 : decode cX7_closedWord 3 = .ok (.istore 4, 2) := by decide +kernel
theorem dX7_closedWord_5 : decode cX7_closedWord 5 = .ok (.iload 4, 2) := by decide +kernel
theorem dX7_closedWord_7 : decode cX7_closedWord 7 = .ok (.bipush 6, 2) := by decide +kernel
theorem dX7_closedWord_9 : decode cX7_closedWord 9 = .ok (.if_icmp .ge 25, 3) := by decide +kernel
theorem dX7_closedWord_12 : decode cX7_closedWord 12 = .ok (.lload_n 2, 1) := by decide +kernel
theorem dX7_closedWord_13 : decode cX7_closedWord 13 = .ok (.lload_n 2, 1) := by decide +kernel
theorem dX7_closedWord_14 : decode cX7_closedWord 14 = .ok (.getstatic 86, 3) := by decide +kernel
theorem dX7_closedWord_17 : decode cX7_closedWord 17 = .ok (.iload 4, 2) := by decide +kernel
theorem dX7_closedWord_19 : decode cX7_closedWord 19 = .ok (.laload, 1) := by decide +kernel
theorem dX7_closedWord_20 : decode cX7_closedWord 20 = .ok (.land, 1) := by decide +kernel
theorem dX7_closedWord_21 : decode cX7_closedWord 21 = .ok (.iconst 1, 1) := by decide +kernel
theorem dX7_closedWord_22 : decode cX7_closedWord 22 = .ok (.iload 4, 2) := by decide +kernel
theorem dX7_closedWord_24 : decode cX7_closedWord 24 = .ok (.ishl, 1) := by decide +kernel
theorem dX7_closedWord_25 : decode cX7_closedWord 25 = .ok (.lshl, 1) := by decide +kernel
theorem dX7_closedWord_26 : decode cX7_closedWord 26 = .ok (.lor, 1) := by decide +kernel
theorem dX7_closedWord_27 : decode cX7_closedWord 27 = .ok (.lstore_n 2, 1) := by decide +kernel
theorem dX7_closedWord_28 : decode cX7_closedWord 28 = .ok (.iinc 4 1, 3) := by decide +kernel
theorem dX7_closedWord_31 : decode cX7_closedWord 31 = .ok (.goto (-26), 3) := by decide +kernel
theorem dX7_closedWord_34 : decode cX7_closedWord 34 = .ok (.lload_n 2, 1) := by decide +kernel
theorem dX7_closedWord_35 : decode cX7_closedWord 35 = .ok (.lreturn, 1) := by decide +kernel
theorem dX7_grownWord_0 : decode cX7_grownWord 0 = .ok (.lconst 0, 1) := by decide +kernel
theorem dX7_grownWord_1 : decode cX7_grownWord 1 = .ok (.lstore_n 2, 1) := by decide +kernel
theorem dX7_grownWord_2 : decode cX7_grownWord 2 = .ok (.iconst 0, 1) := by decide +kernel
theorem dX7_grownWord_3 : decode cX7_grownWord 3 = .ok (.istore 4, 2) := by decide +kernel
theorem dX7_grownWord_5 : decode cX7_grownWord 5 = .ok (.iload 4, 2) := by decide +kernel
theorem dX7_grownWord_7 : decode cX7_grownWord 7 = .ok (.bipush 6, 2) := by decide +kernel
theorem dX7_grownWord_9 : decode cX7_grownWord 9 = .ok (.if_icmp .ge 25, 3) := by decide +kernel
theorem dX7_grownWord_12 : decode cX7_grownWord 12 = .ok (.lload_n 2, 1) := by decide +kernel
theorem dX7_grownWord_13 : decode cX7_grownWord 13 = .ok (.lload_n 0, 1) := by decide +kernel
theorem dX7_grownWord_14 : decode cX7_grownWord 14 = .ok (.getstatic 86, 3) := by decide +kernel
theorem dX7_grownWord_17 : decode cX7_grownWord 17 = .ok (.iload 4, 2) := by decide +kernel
theorem dX7_grownWord_19 : decode cX7_grownWord 19 = .ok (.laload, 1) := by decide +kernel
theorem dX7_grownWord_20 : decode cX7_grownWord 20 = .ok (.land, 1) := by decide +kernel
theorem dX7_grownWord_21 : decode cX7_grownWord 21 = .ok (.iconst 1, 1) := by decide +kernel
theorem dX7_grownWord_22 : decode cX7_grownWord 22 = .ok (.iload 4, 2) := by decide +kernel
theorem dX7_grownWord_24 : decode cX7_grownWord 24 = .ok (.ishl, 1) := by decide +kernel
theorem dX7_grownWord_25 : decode cX7_grownWord 25 = .ok (.lshl, 1) := by decide +kernel
theorem dX7_grownWord_26 : decode cX7_grownWord 26 = .ok (.lor, 1) := by decide +kernel
theorem dX7_grownWord_27 : decode cX7_grownWord 27 = .ok (.lstore_n 2, 1) := by decide +kernel
theorem dX7_grownWord_28 : decode cX7_grownWord 28 = .ok (.iinc 4 1, 3) := by decide +kernel
theorem dX7_grownWord_31 : decode cX7_grownWord 31 = .ok (.goto (-26), 3) := by decide +kernel
theorem dX7_grownWord_34 : decode cX7_grownWord 34 = .ok (.lload_n 2, 1) := by decide +kernel
theorem dX7_grownWord_35 : decode cX7_grownWord 35 = .ok (.lreturn, 1) := by decide +kernel
theorem dX7_turnedWord_0 : decode cX7_turnedWord 0 = .ok (.lload_n 0, 1) := by decide +kernel
theorem dX7_turnedWord_1 : decode cX7_turnedWord 1 = .ok (.lstore_n 2, 1) := by decide +kernel
theorem dX7_turnedWord_2 : decode cX7_turnedWord 2 = .ok (.iconst 0, 1) := by decide +kernel
theorem dX7_turnedWord_3 : decode cX7_turnedWord 3 = .ok (.istore 4, 2) := by decide +kernel
theorem dX7_turnedWord_5 : decode cX7_turnedWord 5 = .ok (.iload 4, 2) := by decide +kernel
theorem dX7_turnedWord_7 : decode cX7_turnedWord 7 = .ok (.bipush 6, 2) := by decide +kernel
theorem dX7_turnedWord_9 : decode cX7_turnedWord 9 = .ok (.if_icmp .ge 39, 3) := by decide +kernel
theorem dX7_turnedWord_12 : decode cX7_turnedWord 12 = .ok (.iconst 1, 1) := by decide +kernel
theorem dX7_turnedWord_13 : decode cX7_turnedWord 13 = .ok (.iload 4, 2) := by decide +kernel
theorem dX7_turnedWord_15 : decode cX7_turnedWord 15 = .ok (.ishl, 1) := by decide +kernel
theorem dX7_turnedWord_16 : decode cX7_turnedWord 16 = .ok (.istore 5, 2) := by decide +kernel
theorem dX7_turnedWord_18 : decode cX7_turnedWord 18 = .ok (.lload_n 2, 1) := by decide +kernel
theorem dX7_turnedWord_19 : decode cX7_turnedWord 19 = .ok (.getstatic 86, 3) := by decide +kernel
theorem dX7_turnedWord_22 : decode cX7_turnedWord 22 = .ok (.iload 4, 2) := by decide +kernel
theorem dX7_turnedWord_24 : decode cX7_turnedWord 24 = .ok (.laload, 1) := by decide +kernel
theorem dX7_turnedWord_25 : decode cX7_turnedWord 25 = .ok (.land, 1) := by decide +kernel
theorem dX7_turnedWord_26 : decode cX7_turnedWord 26 = .ok (.iload 5, 2) := by decide +kernel
theorem dX7_turnedWord_28 : decode cX7_turnedWord 28 = .ok (.lshl, 1) := by decide +kernel
theorem dX7_turnedWord_29 : decode cX7_turnedWord 29 = .ok (.lload_n 2, 1) := by decide +kernel
theorem dX7_turnedWord_30 : decode cX7_turnedWord 30 = .ok (.iload 5, 2) := by decide +kernel
theorem dX7_turnedWord_32 : decode cX7_turnedWord 32 = .ok (.lushr, 1) := by decide +kernel
theorem dX7_turnedWord_33 : decode cX7_turnedWord 33 = .ok (.getstatic 86, 3) := by decide +kernel
theorem dX7_turnedWord_36 : decode cX7_turnedWord 36 = .ok (.iload 4, 2) := by decide +kernel
theorem dX7_turnedWord_38 : decode cX7_turnedWord 38 = .ok (.laload, 1) := by decide +kernel
theorem dX7_turnedWord_39 : decode cX7_turnedWord 39 = .ok (.land, 1) := by decide +kernel
theorem dX7_turnedWord_40 : decode cX7_turnedWord 40 = .ok (.lor, 1) := by decide +kernel
theorem dX7_turnedWord_41 : decode cX7_turnedWord 41 = .ok (.lstore_n 2, 1) := by decide +kernel
theorem dX7_turnedWord_42 : decode cX7_turnedWord 42 = .ok (.iinc 4 1, 3) := by decide +kernel
theorem dX7_turnedWord_45 : decode cX7_turnedWord 45 = .ok (.goto (-40), 3) := by decide +kernel
theorem dX7_turnedWord_48 : decode cX7_turnedWord 48 = .ok (.lload_n 2, 1) := by decide +kernel
theorem dX7_turnedWord_49 : decode cX7_turnedWord 49 = .ok (.lreturn, 1) := by decide +kernel
