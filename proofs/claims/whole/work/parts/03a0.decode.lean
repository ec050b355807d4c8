theorem dX0_init_0 : decode cX0_init 0 = .ok (.aload_n 0, 1) := by decide +kernel
theorem dX0_init_1 : decode cX0_init 1 = .ok (.invokespecial 3, 3) := by decide +kernel
theorem dX0_init_4 : decode cX0_init 4 = .ok (.aload_n 0, 1) := by decide +kernel
theorem dX0_init_5 : decode cX0_init 5 = .ok (.iconst 0, 1) := by decide +kernel
theorem dX0_init_6 : decode cX0_init 6 = .ok (.putfield 9, 3) := by decide +kernel
theorem dX0_init_9 : decode cX0_init 9 = .ok (.aload_n 0, 1) := by decide +kernel
theorem dX0_init_10 : decode cX0_init 10 = .ok (.iconst 0, 1) := by decide +kernel
theorem dX0_init_11 : decode cX0_init 11 = .ok (.putfield 15, 3) := by decide +kernel
theorem dX0_init_14 : decode cX0_init 14 = .ok (.aload_n 0, 1) := by decide +kernel
theorem dX0_init_15 : decode cX0_init 15 = .ok (.iconst 0, 1) := by decide +kernel
theorem dX0_init_16 : decode cX0_init 16 = .ok (.putfield 18, 3) := by decide +kernel
theorem dX0_init_19 : decode cX0_init 19 = .ok (.aload_n 0, 1) := by decide +kernel
theorem dX0_init_20 : decode cX0_init 20 = .ok (.new 21, 3) := by decide +kernel
theorem dX0_init_23 : decode cX0_init 23 = .ok (.dup, 1) := by decide +kernel
theorem dX0_init_24 : decode cX0_init 24 = .ok (.invokespecial 23, 3) := by decide +kernel
theorem dX0_init_27 : decode cX0_init 27 = .ok (.putfield 24, 3) := by decide +kernel
theorem dX0_init_30 : decode cX0_init 30 = .ok (.return_, 1) := by decide +kernel
theorem dX1_init_0 : decode cX1_init 0 = .ok (.aload_n 0, 1) := by decide +kernel
theorem dX1_init_1 : decode cX1_init 1 = .ok (.invokespecial 3, 3) := by decide +kernel
theorem dX1_init_4 : decode cX1_init 4 = .ok (.aload_n 0, 1) := by decide +kernel
theorem dX1_init_5 : decode cX1_init 5 = .ok (.iconst 0, 1) := by decide +kernel
theorem dX1_init_6 : decode cX1_init 6 = .ok (.putfield 9, 3) := by decide +kernel
theorem dX1_init_9 : decode cX1_init 9 = .ok (.aload_n 0, 1) := by decide +kernel
theorem dX1_init_10 : decode cX1_init 10 = .ok (.iconst 0, 1) := by decide +kernel
theorem dX1_init_11 : decode cX1_init 11 = .ok (.putfield 15, 3) := by decide +kernel
theorem dX1_init_14 : decode cX1_init 14 = .ok (.aload_n 0, 1) := by decide +kernel
theorem dX1_init_15 : decode cX1_init 15 = .ok (.bipush 120, 2) := by decide +kernel
theorem dX1_init_17 : decode cX1_init 17 = .ok (.newarray .int, 2) := by decide +kernel
theorem dX1_init_19 : decode cX1_init 19 = .ok (.putfield 18, 3) := by decide +kernel
theorem dX1_init_22 : decode cX1_init 22 = .ok (.return_, 1) := by decide +kernel
theorem dX1_take_0 : decode cX1_take 0 = .ok (.aload_n 0, 1) := by decide +kernel
theorem dX1_take_1 : decode cX1_take 1 = .ok (.iload_n 1, 1) := by decide +kernel
theorem dX1_take_2 : decode cX1_take 2 = .ok (.putfield 9, 3) := by decide +kernel
theorem dX1_take_5 : decode cX1_take 5 = .ok (.aload_n 0, 1) := by decide +kernel
theorem dX1_take_6 : decode cX1_take 6 = .ok (.iconst 0, 1) := by decide +kernel
theorem dX1_take_7 : decode cX1_take 7 = .ok (.putfield 15, 3) := by decide +kernel
theorem dX1_take_10 : decode cX1_take 10 = .ok (.aload_n 2, 1) := by decide +kernel
theorem dX1_take_11 : decode cX1_take 11 = .ok (.iconst 0, 1) := by decide +kernel
theorem dX1_take_12 : decode cX1_take 12 = .ok (.invokevirtual 22, 3) := by decide +kernel
theorem dX1_take_15 : decode cX1_take 15 = .ok (.istore_n 3, 1) := by decide +kernel
theorem dX1_take_16 : decode cX1_take 16 = .ok (.iload_n 3, 1) := by decide +kernel
theorem dX1_take_17 : decode cX1_take 17 = .ok (.ifCond .lt 43, 3) := by decide +kernel
theorem dX1_take_20 : decode cX1_take 20 = .ok (.aload_n 0, 1) := by decide +kernel
theorem dX1_take_21 : decode cX1_take 21 = .ok (.getfield 15, 3) := by decide +kernel
theorem dX1_take_24 : decode cX1_take 24 = .ok (.bipush 120, 2) := by decide +kernel
theorem dX1_take_26 : decode cX1_take 26 = .ok (.if_icmp .ge 34, 3) := by decide +kernel
theorem dX1_take_29 : decode cX1_take 29 = .ok (.aload_n 0, 1) := by decide +kernel
theorem dX1_take_30 : decode cX1_take 30 = .ok (.getfield 18, 3) := by decide +kernel
theorem dX1_take_33 : decode cX1_take 33 = .ok (.aload_n 0, 1) := by decide +kernel
theorem dX1_take_34 : decode cX1_take 34 = .ok (.getfield 15, 3) := by decide +kernel
theorem dX1_take_37 : decode cX1_take 37 = .ok (.iload_n 3, 1) := by decide +kernel
theorem dX1_take_38 : decode cX1_take 38 = .ok (.iastore, 1) := by decide +kernel
theorem dX1_take_39 : decode cX1_take 39 = .ok (.aload_n 0, 1) := by decide +kernel
theorem dX1_take_40 : decode cX1_take 40 = .ok (.dup, 1) := by decide +kernel
theorem dX1_take_41 : decode cX1_take 41 = .ok (.getfield 15, 3) := by decide +kernel
theorem dX1_take_44 : decode cX1_take 44 = .ok (.iconst 1, 1) := by decide +kernel
theorem dX1_take_45 : decode cX1_take 45 = .ok (.iadd, 1) := by decide +kernel
theorem dX1_take_46 : decode cX1_take 46 = .ok (.putfield 15, 3) := by decide +kernel
theorem dX1_take_49 : decode cX1_take 49 = .ok (.aload_n 2, 1) := by decide +kernel
theorem dX1_take_50 : decode cX1_take 50 = .ok (.iload_n 3, 1) := by decide +kernel
theorem dX1_take_51 : decode cX1_take 51 = .ok (.iconst 1, 1) := by decide +kernel
theorem dX1_take_52 : decode cX1_take 52 = .ok (.iadd, 1) := by decide +kernel
theorem dX1_take_53 : decode cX1_take 53 = .ok (.invokevirtual 22, 3) := by decide +kernel
theorem dX1_take_56 : decode cX1_take 56 = .ok (.istore_n 3, 1) := by decide +kernel
theorem dX1_take_57 : decode cX1_take 57 = .ok (.goto (-41), 3) := by decide +kernel
theorem dX1_take_60 : decode cX1_take 60 = .ok (.return_, 1) := by decide +kernel
theorem dX1_isHeldBy_0 : decode cX1_isHeldBy 0 = .ok (.iconst 0, 1) := by decide +kernel
theorem dX1_isHeldBy_1 : decode cX1_isHeldBy 1 = .ok (.istore_n 2, 1) := by decide +kernel
theorem dX1_isHeldBy_2 : decode cX1_isHeldBy 2 = .ok (.iload_n 2, 1) := by decide +kernel
theorem dX1_isHeldBy_3 : decode cX1_isHeldBy 3 = .ok (.aload_n 0, 1) := by decide +kernel
theorem dX1_isHeldBy_4 : decode cX1_isHeldBy 4 = .ok (.getfield 15, 3) := by decide +kernel
theorem dX1_isHeldBy_7 : decode cX1_isHeldBy 7 = .ok (.if_icmp .ge 24, 3) := by decide +kernel
theorem dX1_isHeldBy_10 : decode cX1_isHeldBy 10 = .ok (.aload_n 0, 1) := by decide +kernel
theorem dX1_isHeldBy_11 : decode cX1_isHeldBy 11 = .ok (.getfield 18, 3) := by decide +kernel
theorem dX1_isHeldBy_14 : decode cX1_isHeldBy 14 = .ok (.iload_n 2, 1) := by decide +kernel
theorem dX1_isHeldBy_15 : decode cX1_isHeldBy 15 = .ok (.iaload, 1) := by decide +kernel
theorem dX1_isHeldBy_16 : decode cX1_isHeldBy 16 = .ok (.iload_n 1, 1) := by decide +kernel
theorem dX1_isHeldBy_17 : decode cX1_isHeldBy 17 = .ok (.iconst (-1), 1) := by decide +kernel
theorem dX1_isHeldBy_18 : decode cX1_isHeldBy 18 = .ok (.ixor, 1) := by decide +kernel
theorem dX1_isHeldBy_19 : decode cX1_isHeldBy 19 = .ok (.iand, 1) := by decide +kernel
theorem dX1_isHeldBy_20 : decode cX1_isHeldBy 20 = .ok (.ifCond .ne 5, 3) := by decide +kernel
theorem dX1_isHeldBy_23 : decode cX1_isHeldBy 23 = .ok (.iconst 1, 1) := by decide +kernel
theorem dX1_isHeldBy_24 : decode cX1_isHeldBy 24 = .ok (.ireturn, 1) := by decide +kernel
theorem dX1_isHeldBy_25 : decode cX1_isHeldBy 25 = .ok (.iinc 2 1, 3) := by decide +kernel
theorem dX1_isHeldBy_28 : decode cX1_isHeldBy 28 = .ok (.goto (-26), 3) := by decide +kernel
theorem dX1_isHeldBy_31 : decode cX1_isHeldBy 31 = .ok (.iconst 0, 1) := by decide +kernel
theorem dX1_isHeldBy_32 : decode cX1_isHeldBy 32 = .ok (.ireturn, 1) := by decide +kernel
theorem dX1_allKeepers_0 : decode cX1_allKeepers 0 = .ok (.iconst 0, 1) := by decide +kernel
theorem dX1_allKeepers_1 : decode cX1_allKeepers 1 = .ok (.istore_n 1, 1) := by decide +kernel
theorem dX1_allKeepers_2 : decode cX1_allKeepers 2 = .ok (.iconst 0, 1) := by decide +kernel
theorem dX1_allKeepers_3 : decode cX1_allKeepers 3 = .ok (.istore_n 2, 1) := by decide +kernel
theorem dX1_allKeepers_4 : decode cX1_allKeepers 4 = .ok (.iload_n 2, 1) := by decide +kernel
theorem dX1_allKeepers_5 : decode cX1_allKeepers 5 = .ok (.aload_n 0, 1) := by decide +kernel
theorem dX1_allKeepers_6 : decode cX1_allKeepers 6 = .ok (.getfield 15, 3) := by decide +kernel
theorem dX1_allKeepers_9 : decode cX1_allKeepers 9 = .ok (.if_icmp .ge 18, 3) := by decide +kernel
theorem dX1_allKeepers_12 : decode cX1_allKeepers 12 = .ok (.iload_n 1, 1) := by decide +kernel
theorem dX1_allKeepers_13 : decode cX1_allKeepers 13 = .ok (.aload_n 0, 1) := by decide +kernel
theorem dX1_allKeepers_14 : decode cX1_allKeepers 14 = .ok (.getfield 18, 3) := by decide +kernel
theorem dX1_allKeepers_17 : decode cX1_allKeepers 17 = .ok (.iload_n 2, 1) := by decide +kernel
theorem dX1_allKeepers_18 : decode cX1_allKeepers 18 = .ok (.iaload, 1) := by decide +kernel
theorem dX1_allKeepers_19 : decode cX1_allKeepers 19 = .ok (.ior, 1) := by decide +kernel
theorem dX1_allKeepers_20 : decode cX1_allKeepers 20 = .ok (.istore_n 1, 1) := by decide +kernel
theorem dX1_allKeepers_21 : decode cX1_allKeepers 21 = .ok (.iinc 2 1, 3) := by decide +kernel
theorem dX1_allKeepers_24 : decode cX1_allKeepers 24 = .ok (.goto (-20), 3) := by decide +kernel
theorem dX1_allKeepers_27 : decode cX1_allKeepers 27 = .ok (.iload_n 1, 1) := by decide +kernel
theorem dX1_allKeepers_28 : decode cX1_allKeepers 28 = .ok (.ireturn, 1) := by decide +kernel
theorem dX1_fewestKeepers_0 : decode cX1_fewestKeepers 0 = .ok (.bipush 16, 2) := by decide +kernel
theorem dX1_fewestKeepers_2 : decode cX1_fewestKeepers 2 = .ok (.istore_n 1, 1) := by decide +kernel
theorem dX1_fewestKeepers_3 : decode cX1_fewestKeepers 3 = .ok (.iconst 0, 1) := by decide +kernel
theorem dX1_fewestKeepers_4 : decode cX1_fewestKeepers 4 = .ok (.istore_n 2, 1) := by decide +kernel
theorem dX1_fewestKeepers_5 : decode cX1_fewestKeepers 5 = .ok (.iload_n 2, 1) := by decide +kernel
theorem dX1_fewestKeepers_6 : decode cX1_fewestKeepers 6 = .ok (.aload_n 0, 1) := by decide +kernel
theorem dX1_fewestKeepers_7 : decode cX1_fewestKeepers 7 = .ok (.getfield 15, 3) := by decide +kernel
theorem dX1_fewestKeepers_10 : decode cX1_fewestKeepers 10 = .ok (.if_icmp .ge 23, 3) := by decide +kernel
theorem dX1_fewestKeepers_13 : decode cX1_fewestKeepers 13 = .ok (.iload_n 1, 1) := by decide +kernel
theorem dX1_fewestKeepers_14 : decode cX1_fewestKeepers 14 = .ok (.aload_n 0, 1) := by decide +kernel
theorem dX1_fewestKeepers_15 : decode cX1_fewestKeepers 15 = .ok (.getfield 18, 3) := by decide +kernel
theorem dX1_fewestKeepers_18 : decode cX1_fewestKeepers 18 = .ok (.iload_n 2, 1) := by decide +kernel
theorem dX1_fewestKeepers_19 : decode cX1_fewestKeepers 19 = .ok (.iaload, 1) := by decide +kernel
theorem dX1_fewestKeepers_20 : decode cX1_fewestKeepers 20 = .ok (.invokestatic 28, 3) := by decide +kernel
theorem dX1_fewestKeepers_23 : decode cX1_fewestKeepers 23 = .ok (.invokestatic 33, 3) := by decide +kernel
theorem dX1_fewestKeepers_26 : decode cX1_fewestKeepers 26 = .ok (.istore_n 1, 1) := by decide +kernel
theorem dX1_fewestKeepers_27 : decode cX1_fewestKeepers 27 = .ok (.iinc 2 1, 3) := by decide +kernel
theorem dX1_fewestKeepers_30 : decode cX1_fewestKeepers 30 = .ok (.goto (-25), 3) := by decide +kernel
theorem dX1_fewestKeepers_33 : decode cX1_fewestKeepers 33 = .ok (.iload_n 1, 1) := by decide +kernel
theorem dX1_fewestKeepers_34 : decode cX1_fewestKeepers 34 = .ok (.ireturn, 1) := by decide +kernel
theorem dX1_mostKeepers_0 : decode cX1_mostKeepers 0 = .ok (.iconst 0, 1) := by decide +kernel
theorem dX1_mostKeepers_1 : decode cX1_mostKeepers 1 = .ok (.istore_n 1, 1) := by decide +kernel
theorem dX1_mostKeepers_2 : decode cX1_mostKeepers 2 = .ok (.iconst 0, 1) := by decide +kernel
theorem dX1_mostKeepers_3 : decode cX1_mostKeepers 3 = .ok (.istore_n 2, 1) := by decide +kernel
theorem dX1_mostKeepers_4 : decode cX1_mostKeepers 4 = .ok (.iload_n 2, 1) := by decide +kernel
theorem dX1_mostKeepers_5 : decode cX1_mostKeepers 5 = .ok (.aload_n 0, 1) := by decide +kernel
theorem dX1_mostKeepers_6 : decode cX1_mostKeepers 6 = .ok (.getfield 15, 3) := by decide +kernel
theorem dX1_mostKeepers_9 : decode cX1_mostKeepers 9 = .ok (.if_icmp .ge 23, 3) := by decide +kernel
theorem dX1_mostKeepers_12 : decode cX1_mostKeepers 12 = .ok (.iload_n 1, 1) := by decide +kernel
theorem dX1_mostKeepers_13 : decode cX1_mostKeepers 13 = .ok (.aload_n 0, 1) := by decide +kernel
theorem dX1_mostKeepers_14 : decode cX1_mostKeepers 14 = .ok (.getfield 18, 3) := by decide +kernel
theorem dX1_mostKeepers_17 : decode cX1_mostKeepers 17 = .ok (.iload_n 2, 1) := by decide +kernel
theorem dX1_mostKeepers_18 : decode cX1_mostKeepers 18 = .ok (.iaload, 1) := by decide +kernel
theorem dX1_mostKeepers_19 : decode cX1_mostKeepers 19 = .ok (.invokestatic 28, 3) := by decide +kernel
theorem dX1_mostKeepers_22 : decode cX1_mostKeepers 22 = .ok (.invokestatic 39, 3) := by decide +kernel
theorem dX1_mostKeepers_25 : decode cX1_mostKeepers 25 = .ok (.istore_n 1, 1) := by decide +kernel
theorem dX1_mostKeepers_26 : decode cX1_mostKeepers 26 = .ok (.iinc 2 1, 3) := by decide +kernel
theorem dX1_mostKeepers_29 : decode cX1_mostKeepers 29 = .ok (.goto (-25), 3) := by decide +kernel
theorem dX1_mostKeepers_32 : decode cX1_mostKeepers 32 = .ok (.iload_n 1, 1) := by decide +kernel
theorem dX1_mostKeepers_33 : decode cX1_mostKeepers 33 = .ok (.ireturn, 1) := by decide +kernel
theorem dX1_fewestShared_0 : decode cX1_fewestShared 0 = .ok (.aload_n 0, 1) := by decide +kernel
theorem dX1_fewestShared_1 : decode cX1_fewestShared 1 = .ok (.getfield 15, 3) := by decide +kernel
theorem dX1_fewestShared_4 : decode cX1_fewestShared 4 = .ok (.iconst 1, 1) := by decide +kernel
theorem dX1_fewestShared_5 : decode cX1_fewestShared 5 = .ok (.if_icmp .ne 13, 3) := by decide +kernel
theorem dX1_fewestShared_8 : decode cX1_fewestShared 8 = .ok (.aload_n 0, 1) := by decide +kernel
theorem dX1_fewestShared_9 : decode cX1_fewestShared 9 = .ok (.getfield 18, 3) := by decide +kernel
theorem dX1_fewestShared_12 : decode cX1_fewestShared 12 = .ok (.iconst 0, 1) := by decide +kernel
theorem dX1_fewestShared_13 : decode cX1_fewestShared 13 = .ok (.iaload, 1) := by decide +kernel
theorem dX1_fewestShared_14 : decode cX1_fewestShared 14 = .ok (.invokestatic 28, 3) := by decide +kernel
theorem dX1_fewestShared_17 : decode cX1_fewestShared 17 = .ok (.ireturn, 1) := by decide +kernel
theorem dX1_fewestShared_18 : decode cX1_fewestShared 18 = .ok (.bipush 16, 2) := by decide +kernel
theorem dX1_fewestShared_20 : decode cX1_fewestShared 20 = .ok (.istore_n 1, 1) := by decide +kernel
theorem dX1_fewestShared_21 : decode cX1_fewestShared 21 = .ok (.iconst 0, 1) := by decide +kernel
theorem dX1_fewestShared_22 : decode cX1_fewestShared 22 = .ok (.istore_n 2, 1) := by decide +kernel
theorem dX1_fewestShared_23 : decode cX1_fewestShared 23 = .ok (.iload_n 2, 1) := by decide +kernel
theorem dX1_fewestShared_24 : decode cX1_fewestShared 24 = .ok (.aload_n 0, 1) := by decide +kernel
theorem dX1_fewestShared_25 : decode cX1_fewestShared 25 = .ok (.getfield 15, 3) := by decide +kernel
theorem dX1_fewestShared_28 : decode cX1_fewestShared 28 = .ok (.if_icmp .ge 48, 3) := by decide +kernel
theorem dX1_fewestShared_31 : decode cX1_fewestShared 31 = .ok (.iload_n 2, 1) := by decide +kernel
theorem dX1_fewestShared_32 : decode cX1_fewestShared 32 = .ok (.iconst 1, 1) := by decide +kernel
theorem dX1_fewestShared_33 : decode cX1_fewestShared 33 = .ok (.iadd, 1) := by decide +kernel
theorem dX1_fewestShared_34 : decode cX1_fewestShared 34 = .ok (.istore_n 3, 1) := by decide +kernel
theorem dX1_fewestShared_35 : decode cX1_fewestShared 35 = .ok (.iload_n 3, 1) := by decide +kernel
theorem dX1_fewestShared_36 : decode cX1_fewestShared 36 = .ok (.aload_n 0, 1) := by decide +kernel
theorem dX1_fewestShared_37 : decode cX1_fewestShared 37 = .ok (.getfield 15, 3) := by decide +kernel
theorem dX1_fewestShared_40 : decode cX1_fewestShared 40 = .ok (.if_icmp .ge 30, 3) := by decide +kernel
theorem dX1_fewestShared_43 : decode cX1_fewestShared 43 = .ok (.iload_n 1, 1) := by decide +kernel
theorem dX1_fewestShared_44 : decode cX1_fewestShared 44 = .ok (.aload_n 0, 1) := by decide +kernel
theorem dX1_fewestShared_45 : decode cX1_fewestShared 45 = .ok (.getfield 18, 3) := by decide +kernel
theorem dX1_fewestShared_48 : decode cX1_fewestShared 48 = .ok (.iload_n 2, 1) := by decide +kernel
theorem dX1_fewestShared_49 : decode cX1_fewestShared 49 = .ok (.iaload, 1) := by decide +kernel
theorem dX1_fewestShared_50 : decode cX1_fewestShared 50 = .ok (.aload_n 0, 1) := by decide +kernel
theorem dX1_fewestShared_51 : decode cX1_fewestShared 51 = .ok (.getfield 18, 3) := by decide +kernel
theorem dX1_fewestShared_54 : decode cX1_fewestShared 54 = .ok (.iload_n 3, 1) := by decide +kernel
theorem dX1_fewestShared_55 : decode cX1_fewestShared 55 = .ok (.iaload, 1) := by decide +kernel
theorem dX1_fewestShared_56 : decode cX1_fewestShared 56 = .ok (.iand, 1) := by decide +kernel
theorem dX1_fewestShared_57 : decode cX1_fewestShared 57 = .ok (.invokestatic 28, 3) := by decide +kernel
theorem dX1_fewestShared_60 : decode cX1_fewestShared 60 = .ok (.invokestatic 33, 3) := by decide +kernel
theorem dX1_fewestShared_63 : decode cX1_fewestShared 63 = .ok (.istore_n 1, 1) := by decide +kernel
theorem dX1_fewestShared_64 : decode cX1_fewestShared 64 = .ok (.iinc 3 1, 3) := by decide +kernel
theorem dX1_fewestShared_67 : decode cX1_fewestShared 67 = .ok (.goto (-32), 3) := by decide +kernel
theorem dX1_fewestShared_70 : decode cX1_fewestShared 70 = .ok (.iinc 2 1, 3) := by decide +kernel
theorem dX1_fewestShared_73 : decode cX1_fewestShared 73 = .ok (.goto (-50), 3) := by decide +kernel
theorem dX1_fewestShared_76 : decode cX1_fewestShared 76 = .ok (.iload_n 1, 1) := by decide +kernel
theorem dX1_fewestShared_77 : decode cX1_fewestShared 77 = .ok (.ireturn, 1) := by decide +kernel
theorem dX1_countPairs_0 : decode cX1_countPairs 0 = .ok (.aload_n 0, 1) := by decide +kernel
theorem dX1_countPairs_1 : decode cX1_countPairs 1 = .ok (.getfield 15, 3) := by decide +kernel
theorem dX1_countPairs_4 : decode cX1_countPairs 4 = .ok (.aload_n 0, 1) := by decide +kernel
theorem dX1_countPairs_5 : decode cX1_countPairs 5 = .ok (.getfield 15, 3) := by decide +kernel
theorem dX1_countPairs_8 : decode cX1_countPairs 8 = .ok (.iconst 1, 1) := by decide +kernel
theorem dX1_countPairs_9 : decode cX1_countPairs 9 = .ok (.isub, 1) := by decide +kernel
theorem dX1_countPairs_10 : decode cX1_countPairs 10 = .ok (.imul, 1) := by decide +kernel
theorem dX1_countPairs_11 : decode cX1_countPairs 11 = .ok (.iconst 2, 1) := by decide +kernel
theorem dX1_countPairs_12 : decode cX1_countPairs 12 = .ok (.idiv, 1) := by decide +kernel
theorem dX1_countPairs_13 : decode cX1_countPairs 13 = .ok (.ireturn, 1) := by decide +kernel
theorem dX2_init_0 : decode cX2_init 0 = .ok (.aload_n 0, 1) := by decide +kernel
theorem dX2_init_1 : decode cX2_init 1 = .ok (.invokespecial 1, 3) := by decide +kernel
theorem dX2_init_4 : decode cX2_init 4 = .ok (.aload_n 0, 1) := by decide +kernel
theorem dX2_init_5 : decode cX2_init 5 = .ok (.iconst 0, 1) := by decide +kernel
theorem dX2_init_6 : decode cX2_init 6 = .ok (.putfield 7, 3) := by decide +kernel
theorem dX2_init_9 : decode cX2_init 9 = .ok (.aload_n 0, 1) := by decide +kernel
theorem dX2_init_10 : decode cX2_init 10 = .ok (.iconst 1, 1) := by decide +kernel
theorem dX2_init_11 : decode cX2_init 11 = .ok (.putfield 13, 3) := by decide +kernel
theorem dX2_init_14 : decode cX2_init 14 = .ok (.return_, 1) := by decide +kernel
theorem dX2_become_0 : decode cX2_become 0 = .ok (.iload_n 1, 1) := by decide +kernel
theorem dX2_become_1 : decode cX2_become 1 = .ok (.iload_n 2, 1) := by decide +kernel
theorem dX2_become_2 : decode cX2_become 2 = .ok (.invokestatic 16, 3) := by decide +kernel
theorem dX2_become_5 : decode cX2_become 5 = .ok (.istore_n 3, 1) := by decide +kernel
theorem dX2_become_6 : decode cX2_become 6 = .ok (.iload_n 1, 1) := by decide +kernel
theorem dX2_become_7 : decode cX2_become 7 = .ok (.ifCond .le 11, 3) := by decide +kernel
theorem dX2_become_10 : decode cX2_become 10 = .ok (.iload_n 2, 1) := by decide +kernel
theorem dX2_become_11 : decode cX2_become 11 = .ok (.ifCond .le 7, 3) := by decide +kernel
theorem dX2_become_14 : decode cX2_become 14 = .ok (.iload_n 3, 1) := by decide +kernel
theorem dX2_become_15 : decode cX2_become 15 = .ok (.ifCond .gt 14, 3) := by decide +kernel
theorem dX2_become_18 : decode cX2_become 18 = .ok (.aload_n 0, 1) := by decide +kernel
theorem dX2_become_19 : decode cX2_become 19 = .ok (.iconst 0, 1) := by decide +kernel
theorem dX2_become_20 : decode cX2_become 20 = .ok (.putfield 7, 3) := by decide +kernel
theorem dX2_become_23 : decode cX2_become 23 = .ok (.aload_n 0, 1) := by decide +kernel
theorem dX2_become_24 : decode cX2_become 24 = .ok (.iconst 1, 1) := by decide +kernel
theorem dX2_become_25 : decode cX2_become 25 = .ok (.putfield 13, 3) := by decide +kernel
theorem dX2_become_28 : decode cX2_become 28 = .ok (.return_, 1) := by decide +kernel
theorem dX2_become_29 : decode cX2_become 29 = .ok (.aload_n 0, 1) := by decide +kernel
theorem dX2_become_30 : decode cX2_become 30 = .ok (.iload_n 1, 1) := by decide +kernel
theorem dX2_become_31 : decode cX2_become 31 = .ok (.iload_n 3, 1) := by decide +kernel
theorem dX2_become_32 : decode cX2_become 32 = .ok (.idiv, 1) := by decide +kernel
theorem dX2_become_33 : decode cX2_become 33 = .ok (.putfield 7, 3) := by decide +kernel
theorem dX2_become_36 : decode cX2_become 36 = .ok (.aload_n 0, 1) := by decide +kernel
theorem dX2_become_37 : decode cX2_become 37 = .ok (.iload_n 2, 1) := by decide +kernel
theorem dX2_become_38 : decode cX2_become 38 = .ok (.iload_n 3, 1) := by decide +kernel
theorem dX2_become_39 : decode cX2_become 39 = .ok (.idiv, 1) := by decide +kernel
theorem dX2_become_40 : decode cX2_become 40 = .ok (.putfield 13, 3) := by decide +kernel
theorem dX2_become_43 : decode cX2_become 43 = .ok (.return_, 1) := by decide +kernel
theorem dX2_side_0 : decode cX2_side 0 = .ok (.iload_n 1, 1) := by decide +kernel
theorem dX2_side_1 : decode cX2_side 1 = .ok (.ifCond .eq 10, 3) := by decide +kernel
theorem dX2_side_4 : decode cX2_side 4 = .ok (.aload_n 0, 1) := by decide +kernel
theorem dX2_side_5 : decode cX2_side 5 = .ok (.getfield 13, 3) := by decide +kernel
theorem dX2_side_8 : decode cX2_side 8 = .ok (.goto 7, 3) := by decide +kernel
theorem dX2_side_11 : decode cX2_side 11 = .ok (.aload_n 0, 1) := by decide +kernel
theorem dX2_side_12 : decode cX2_side 12 = .ok (.getfield 7, 3) := by decide +kernel
theorem dX2_side_15 : decode cX2_side 15 = .ok (.ireturn, 1) := by decide +kernel
theorem dX2_greatestCommon_0 : decode cX2_greatestCommon 0 = .ok (.iload_n 0, 1) := by decide +kernel
theorem dX2_greatestCommon_1 : decode cX2_greatestCommon 1 = .ok (.istore_n 2, 1) := by decide +kernel
theorem dX2_greatestCommon_2 : decode cX2_greatestCommon 2 = .ok (.iload_n 1, 1) := by decide +kernel
theorem dX2_greatestCommon_3 : decode cX2_greatestCommon 3 = .ok (.istore_n 3, 1) := by decide +kernel
theorem dX2_greatestCommon_4 : decode cX2_greatestCommon 4 = .ok (.iconst 0, 1) := by decide +kernel
theorem dX2_greatestCommon_5 : decode cX2_greatestCommon 5 = .ok (.istore 4, 2) := by decide +kernel
theorem dX2_greatestCommon_7 : decode cX2_greatestCommon 7 = .ok (.iload 4, 2) := by decide +kernel
theorem dX2_greatestCommon_9 : decode cX2_greatestCommon 9 = .ok (.bipush 64, 2) := by decide +kernel
theorem dX2_greatestCommon_11 : decode cX2_greatestCommon 11 = .ok (.if_icmp .ge 23, 3) := by decide +kernel
theorem dX2_greatestCommon_14 : decode cX2_greatestCommon 14 = .ok (.iload_n 3, 1) := by decide +kernel
theorem dX2_greatestCommon_15 : decode cX2_greatestCommon 15 = .ok (.ifCond .eq 19, 3) := by decide +kernel
theorem dX2_greatestCommon_18 : decode cX2_greatestCommon 18 = .ok (.iload_n 2, 1) := by decide +kernel
theorem dX2_greatestCommon_19 : decode cX2_greatestCommon 19 = .ok (.iload_n 3, 1) := by decide +kernel
theorem dX2_greatestCommon_20 : decode cX2_greatestCommon 20 = .ok (.irem, 1) := by decide +kernel
theorem dX2_greatestCommon_21 : decode cX2_greatestCommon 21 = .ok (.istore 5, 2) := by decide +kernel
theorem dX2_greatestCommon_23 : decode cX2_greatestCommon 23 = .ok (.iload_n 3, 1) := by decide +kernel
theorem dX2_greatestCommon_24 : decode cX2_greatestCommon 24 = .ok (.istore_n 2, 1) := by decide +kernel
theorem dX2_greatestCommon_25 : decode cX2_greatestCommon 25 = .ok (.iload 5, 2) := by decide +kernel
theorem dX2_greatestCommon_27 : decode cX2_greatestCommon 27 = .ok (.istore_n 3, 1) := by decide +kernel
theorem dX2_greatestCommon_28 : decode cX2_greatestCommon 28 = .ok (.iinc 4 1, 3) := by decide +kernel
theorem dX2_greatestCommon_31 : decode cX2_greatestCommon 31 = .ok (.goto (-24), 3) := by decide +kernel
theorem dX2_greatestCommon_34 : decode cX2_greatestCommon 34 = .ok (.iload_n 2, 1) := by decide +kernel
theorem dX2_greatestCommon_35 : decode cX2_greatestCommon 35 = .ok (.ireturn, 1) := by decide +kernel
theorem dX4_init_0 : decode cX4_init 0 = .ok (.aload_n 0, 1) := by decide +kernel
theorem dX4_init_1 : decode cX4_init 1 = .ok (.invokespecial 3, 3) := by decide +kernel
theorem dX4_init_4 : decode cX4_init 4 = .ok (.aload_n 0, 1) := by decide +kernel
theorem dX4_init_5 : decode cX4_init 5 = .ok (.bipush 60, 2) := by decide +kernel
theorem dX4_init_7 : decode cX4_init 7 = .ok (.anewarray 9, 3) := by decide +kernel
theorem dX4_init_10 : decode cX4_init 10 = .ok (.putfield 11, 3) := by decide +kernel
theorem dX4_init_13 : decode cX4_init 13 = .ok (.aload_n 0, 1) := by decide +kernel
theorem dX4_init_14 : decode cX4_init 14 = .ok (.iconst 0, 1) := by decide +kernel
theorem dX4_init_15 : decode cX4_init 15 = .ok (.putfield 17, 3) := by decide +kernel
theorem dX4_init_18 : decode cX4_init 18 = .ok (.aload_n 0, 1) := by decide +kernel
theorem dX4_init_19 : decode cX4_init 19 = .ok (.iconst 0, 1) := by decide +kernel
theorem dX4_init_20 : decode cX4_init 20 = .ok (.putfield 21, 3) := by decide +kernel
theorem dX4_init_23 : decode cX4_init 23 = .ok (.iconst 0, 1) := by decide +kernel
theorem dX4_init_24 : decode cX4_init 24 = .ok (.istore_n 1, 1) := by decide +kernel
theorem dX4_init_25 : decode cX4_init 25 = .ok (.iload_n 1, 1) := by decide +kernel
theorem dX4_init_26 : decode cX4_init 26 = .ok (.bipush 60, 2) := by decide +kernel
theorem dX4_init_28 : decode cX4_init 28 = .ok (.if_icmp .ge 22, 3) := by decide +kernel
theorem dX4_init_31 : decode cX4_init 31 = .ok (.aload_n 0, 1) := by decide +kernel
theorem dX4_init_32 : decode cX4_init 32 = .ok (.getfield 11, 3) := by decide +kernel
theorem dX4_init_35 : decode cX4_init 35 = .ok (.iload_n 1, 1) := by decide +kernel
theorem dX4_init_36 : decode cX4_init 36 = .ok (.new 9, 3) := by decide +kernel
theorem dX4_init_39 : decode cX4_init 39 = .ok (.dup, 1) := by decide +kernel
theorem dX4_init_40 : decode cX4_init 40 = .ok (.invokespecial 24, 3) := by decide +kernel
theorem dX4_init_43 : decode cX4_init 43 = .ok (.aastore, 1) := by decide +kernel
theorem dX4_init_44 : decode cX4_init 44 = .ok (.iinc 1 1, 3) := by decide +kernel
theorem dX4_init_47 : decode cX4_init 47 = .ok (.goto (-22), 3) := by decide +kernel
theorem dX4_init_50 : decode cX4_init 50 = .ok (.return_, 1) := by decide +kernel
theorem dX4_open_0 : decode cX4_open 0 = .ok (.aload_n 0, 1) := by decide +kernel
theorem dX4_open_1 : decode cX4_open 1 = .ok (.getfield 21, 3) := by decide +kernel
theorem dX4_open_4 : decode cX4_open 4 = .ok (.bipush 60, 2) := by decide +kernel
theorem dX4_open_6 : decode cX4_open 6 = .ok (.if_icmp .ge 16, 3) := by decide +kernel
theorem dX4_open_9 : decode cX4_open 9 = .ok (.aload_n 0, 1) := by decide +kernel
theorem dX4_open_10 : decode cX4_open 10 = .ok (.dup, 1) := by decide +kernel
theorem dX4_open_11 : decode cX4_open 11 = .ok (.getfield 21, 3) := by decide +kernel
theorem dX4_open_14 : decode cX4_open 14 = .ok (.iconst 1, 1) := by decide +kernel
theorem dX4_open_15 : decode cX4_open 15 = .ok (.iadd, 1) := by decide +kernel
theorem dX4_open_16 : decode cX4_open 16 = .ok (.putfield 21, 3) := by decide +kernel
theorem dX4_open_19 : decode cX4_open 19 = .ok (.goto 16, 3) := by decide +kernel
theorem dX4_open_22 : decode cX4_open 22 = .ok (.aload_n 0, 1) := by decide +kernel
theorem dX4_open_23 : decode cX4_open 23 = .ok (.aload_n 0, 1) := by decide +kernel
theorem dX4_open_24 : decode cX4_open 24 = .ok (.getfield 17, 3) := by decide +kernel
theorem dX4_open_27 : decode cX4_open 27 = .ok (.iconst 1, 1) := by decide +kernel
theorem dX4_open_28 : decode cX4_open 28 = .ok (.iadd, 1) := by decide +kernel
theorem dX4_open_29 : decode cX4_open 29 = .ok (.bipush 60, 2) := by decide +kernel
theorem dX4_open_31 : decode cX4_open 31 = .ok (.irem, 1) := by decide +kernel
theorem dX4_open_32 : decode cX4_open 32 = .ok (.putfield 17, 3) := by decide +kernel
theorem dX4_open_35 : decode cX4_open 35 = .ok (.aload_n 0, 1) := by decide +kernel
theorem dX4_open_36 : decode cX4_open 36 = .ok (.getfield 11, 3) := by decide +kernel
theorem dX4_open_39 : decode cX4_open 39 = .ok (.aload_n 0, 1) := by decide +kernel
theorem dX4_open_40 : decode cX4_open 40 = .ok (.getfield 17, 3) := by decide +kernel
theorem dX4_open_43 : decode cX4_open 43 = .ok (.aload_n 0, 1) := by decide +kernel
theorem dX4_open_44 : decode cX4_open 44 = .ok (.getfield 21, 3) := by decide +kernel
theorem dX4_open_47 : decode cX4_open 47 = .ok (.iadd, 1) := by decide +kernel
theorem dX4_open_48 : decode cX4_open 48 = .ok (.iconst 1, 1) := by decide +kernel
theorem dX4_open_49 : decode cX4_open 49 = .ok (.isub, 1) := by decide +kernel
theorem dX4_open_50 : decode cX4_open 50 = .ok (.bipush 60, 2) := by decide +kernel
theorem dX4_open_52 : decode cX4_open 52 = .ok (.irem, 1) := by decide +kernel
theorem dX4_open_53 : decode cX4_open 53 = .ok (.aaload, 1) := by decide +kernel
theorem dX4_open_54 : decode cX4_open 54 = .ok (.astore 4, 2) := by decide +kernel
theorem dX4_open_56 : decode cX4_open 56 = .ok (.aload 4, 2) := by decide +kernel
theorem dX4_open_58 : decode cX4_open 58 = .ok (.iload_n 1, 1) := by decide +kernel
theorem dX4_open_59 : decode cX4_open 59 = .ok (.putfield 25, 3) := by decide +kernel
theorem dX4_open_62 : decode cX4_open 62 = .ok (.aload 4, 2) := by decide +kernel
theorem dX4_open_64 : decode cX4_open 64 = .ok (.iload_n 2, 1) := by decide +kernel
theorem dX4_open_65 : decode cX4_open 65 = .ok (.putfield 28, 3) := by decide +kernel
theorem dX4_open_68 : decode cX4_open 68 = .ok (.aload 4, 2) := by decide +kernel
theorem dX4_open_70 : decode cX4_open 70 = .ok (.iload_n 3, 1) := by decide +kernel
theorem dX4_open_71 : decode cX4_open 71 = .ok (.putfield 31, 3) := by decide +kernel
theorem dX4_open_74 : decode cX4_open 74 = .ok (.aload 4, 2) := by decide +kernel
theorem dX4_open_76 : decode cX4_open 76 = .ok (.areturn, 1) := by decide +kernel
theorem dX4_closeLatest_0 : decode cX4_closeLatest 0 = .ok (.aload_n 0, 1) := by decide +kernel
theorem dX4_closeLatest_1 : decode cX4_closeLatest 1 = .ok (.getfield 21, 3) := by decide +kernel
theorem dX4_closeLatest_4 : decode cX4_closeLatest 4 = .ok (.ifCond .gt 5, 3) := by decide +kernel
theorem dX4_closeLatest_7 : decode cX4_closeLatest 7 = .ok (.aconst_null, 1) := by decide +kernel
theorem dX4_closeLatest_8 : decode cX4_closeLatest 8 = .ok (.areturn, 1) := by decide +kernel
theorem dX4_closeLatest_9 : decode cX4_closeLatest 9 = .ok (.aload_n 0, 1) := by decide +kernel
theorem dX4_closeLatest_10 : decode cX4_closeLatest 10 = .ok (.dup, 1) := by decide +kernel
theorem dX4_closeLatest_11 : decode cX4_closeLatest 11 = .ok (.getfield 21, 3) := by decide +kernel
theorem dX4_closeLatest_14 : decode cX4_closeLatest 14 = .ok (.iconst 1, 1) := by decide +kernel
theorem dX4_closeLatest_15 : decode cX4_closeLatest 15 = .ok (.isub, 1) := by decide +kernel
theorem dX4_closeLatest_16 : decode cX4_closeLatest 16 = .ok (.putfield 21, 3) := by decide +kernel
theorem dX4_closeLatest_19 : decode cX4_closeLatest 19 = .ok (.aload_n 0, 1) := by decide +kernel
theorem dX4_closeLatest_20 : decode cX4_closeLatest 20 = .ok (.getfield 11, 3) := by decide +kernel
theorem dX4_closeLatest_23 : decode cX4_closeLatest 23 = .ok (.aload_n 0, 1) := by decide +kernel
theorem dX4_closeLatest_24 : decode cX4_closeLatest 24 = .ok (.getfield 17, 3) := by decide +kernel
theorem dX4_closeLatest_27 : decode cX4_closeLatest 27 = .ok (.aload_n 0, 1) := by decide +kernel
theorem dX4_closeLatest_28 : decode cX4_closeLatest 28 = .ok (.getfield 21, 3) := by decide +kernel
theorem dX4_closeLatest_31 : decode cX4_closeLatest 31 = .ok (.iadd, 1) := by decide +kernel
theorem dX4_closeLatest_32 : decode cX4_closeLatest 32 = .ok (.bipush 60, 2) := by decide +kernel
theorem dX4_closeLatest_34 : decode cX4_closeLatest 34 = .ok (.irem, 1) := by decide +kernel
theorem dX4_closeLatest_35 : decode cX4_closeLatest 35 = .ok (.aaload, 1) := by decide +kernel
theorem dX4_closeLatest_36 : decode cX4_closeLatest 36 = .ok (.areturn, 1) := by decide +kernel
theorem dX5_init_0 : decode cX5_init 0 = .ok (.aload_n 0, 1) := by decide +kernel
theorem dX5_init_1 : decode cX5_init 1 = .ok (.invokespecial 3, 3) := by decide +kernel
theorem dX5_init_4 : decode cX5_init 4 = .ok (.aload_n 0, 1) := by decide +kernel
theorem dX5_init_5 : decode cX5_init 5 = .ok (.iconst 0, 1) := by decide +kernel
theorem dX5_init_6 : decode cX5_init 6 = .ok (.putfield 9, 3) := by decide +kernel
theorem dX5_init_9 : decode cX5_init 9 = .ok (.aload_n 0, 1) := by decide +kernel
theorem dX5_init_10 : decode cX5_init 10 = .ok (.bipush 16, 2) := by decide +kernel
theorem dX5_init_12 : decode cX5_init 12 = .ok (.newarray .int, 2) := by decide +kernel
theorem dX5_init_14 : decode cX5_init 14 = .ok (.putfield 15, 3) := by decide +kernel
theorem dX5_init_17 : decode cX5_init 17 = .ok (.aload_n 0, 1) := by decide +kernel
theorem dX5_init_18 : decode cX5_init 18 = .ok (.bipush 16, 2) := by decide +kernel
theorem dX5_init_20 : decode cX5_init 20 = .ok (.newarray .int, 2) := by decide +kernel
theorem dX5_init_22 : decode cX5_init 22 = .ok (.putfield 19, 3) := by decide +kernel
theorem dX5_init_25 : decode cX5_init 25 = .ok (.aload_n 0, 1) := by decide +kernel
theorem dX5_init_26 : decode cX5_init 26 = .ok (.bipush 16, 2) := by decide +kernel
theorem dX5_init_28 : decode cX5_init 28 = .ok (.newarray .int, 2) := by decide +kernel
theorem dX5_init_30 : decode cX5_init 30 = .ok (.putfield 22, 3) := by decide +kernel
theorem dX5_init_33 : decode cX5_init 33 = .ok (.return_, 1) := by decide +kernel
theorem dX5_isThere_0 : decode cX5_isThere 0 = .ok (.iload_n 1, 1) := by decide +kernel
theorem dX5_isThere_1 : decode cX5_isThere 1 = .ok (.ifCond .lt 21, 3) := by decide +kernel
theorem dX5_isThere_4 : decode cX5_isThere 4 = .ok (.iload_n 1, 1) := by decide +kernel
theorem dX5_isThere_5 : decode cX5_isThere 5 = .ok (.aload_n 0, 1) := by decide +kernel
theorem dX5_isThere_6 : decode cX5_isThere 6 = .ok (.getfield 9, 3) := by decide +kernel
theorem dX5_isThere_9 : decode cX5_isThere 9 = .ok (.if_icmp .ge 13, 3) := by decide +kernel
theorem dX5_isThere_12 : decode cX5_isThere 12 = .ok (.iload_n 1, 1) := by decide +kernel
theorem dX5_isThere_13 : decode cX5_isThere 13 = .ok (.bipush 16, 2) := by decide +kernel
theorem dX5_isThere_15 : decode cX5_isThere 15 = .ok (.if_icmp .ge 7, 3) := by decide +kernel
theorem dX5_isThere_18 : decode cX5_isThere 18 = .ok (.iconst 1, 1) := by decide +kernel
theorem dX5_isThere_19 : decode cX5_isThere 19 = .ok (.goto 4, 3) := by decide +kernel
theorem dX5_isThere_22 : decode cX5_isThere 22 = .ok (.iconst 0, 1) := by decide +kernel
theorem dX5_isThere_23 : decode cX5_isThere 23 = .ok (.ireturn, 1) := by decide +kernel
theorem dX5_areThere_0 : decode cX5_areThere 0 = .ok (.iload_n 1, 1) := by decide +kernel
theorem dX5_areThere_1 : decode cX5_areThere 1 = .ok (.ifCond .lt 29, 3) := by decide +kernel
theorem dX5_areThere_4 : decode cX5_areThere 4 = .ok (.iload_n 1, 1) := by decide +kernel
theorem dX5_areThere_5 : decode cX5_areThere 5 = .ok (.aload_n 0, 1) := by decide +kernel
theorem dX5_areThere_6 : decode cX5_areThere 6 = .ok (.getfield 9, 3) := by decide +kernel
theorem dX5_areThere_9 : decode cX5_areThere 9 = .ok (.if_icmp .ge 21, 3) := by decide +kernel
theorem dX5_areThere_12 : decode cX5_areThere 12 = .ok (.iload_n 2, 1) := by decide +kernel
theorem dX5_areThere_13 : decode cX5_areThere 13 = .ok (.ifCond .lt 17, 3) := by decide +kernel
theorem dX5_areThere_16 : decode cX5_areThere 16 = .ok (.iload_n 2, 1) := by decide +kernel
theorem dX5_areThere_17 : decode cX5_areThere 17 = .ok (.aload_n 0, 1) := by decide +kernel
theorem dX5_areThere_18 : decode cX5_areThere 18 = .ok (.getfield 9, 3) := by decide +kernel
theorem dX5_areThere_21 : decode cX5_areThere 21 = .ok (.iload_n 1, 1) := by decide +kernel
theorem dX5_areThere_22 : decode cX5_areThere 22 = .ok (.isub, 1) := by decide +kernel
theorem dX5_areThere_23 : decode cX5_areThere 23 = .ok (.if_icmp .gt 7, 3) := by decide +kernel
theorem dX5_areThere_26 : decode cX5_areThere 26 = .ok (.iconst 1, 1) := by decide +kernel
theorem dX5_areThere_27 : decode cX5_areThere 27 = .ok (.goto 4, 3) := by decide +kernel
theorem dX5_areThere_30 : decode cX5_areThere 30 = .ok (.iconst 0, 1) := by decide +kernel
theorem dX5_areThere_31 : decode cX5_areThere 31 = .ok (.ireturn, 1) := by decide +kernel
theorem dX5_areASet_0 : decode cX5_areASet 0 = .ok (.iconst 1, 1) := by decide +kernel
theorem dX5_areASet_1 : decode cX5_areASet 1 = .ok (.aload_n 0, 1) := by decide +kernel
theorem dX5_areASet_2 : decode cX5_areASet 2 = .ok (.getfield 9, 3) := by decide +kernel
theorem dX5_areASet_5 : decode cX5_areASet 5 = .ok (.ishl, 1) := by decide +kernel
theorem dX5_areASet_6 : decode cX5_areASet 6 = .ok (.iconst 1, 1) := by decide +kernel
theorem dX5_areASet_7 : decode cX5_areASet 7 = .ok (.isub, 1) := by decide +kernel
theorem dX5_areASet_8 : decode cX5_areASet 8 = .ok (.istore_n 2, 1) := by decide +kernel
theorem dX5_areASet_9 : decode cX5_areASet 9 = .ok (.iload_n 1, 1) := by decide +kernel
theorem dX5_areASet_10 : decode cX5_areASet 10 = .ok (.ifCond .eq 15, 3) := by decide +kernel
theorem dX5_areASet_13 : decode cX5_areASet 13 = .ok (.iload_n 1, 1) := by decide +kernel
theorem dX5_areASet_14 : decode cX5_areASet 14 = .ok (.iload_n 2, 1) := by decide +kernel
theorem dX5_areASet_15 : decode cX5_areASet 15 = .ok (.iconst (-1), 1) := by decide +kernel
theorem dX5_areASet_16 : decode cX5_areASet 16 = .ok (.ixor, 1) := by decide +kernel
theorem dX5_areASet_17 : decode cX5_areASet 17 = .ok (.iand, 1) := by decide +kernel
theorem dX5_areASet_18 : decode cX5_areASet 18 = .ok (.ifCond .ne 7, 3) := by decide +kernel
theorem dX5_areASet_21 : decode cX5_areASet 21 = .ok (.iconst 1, 1) := by decide +kernel
theorem dX5_areASet_22 : decode cX5_areASet 22 = .ok (.goto 4, 3) := by decide +kernel
theorem dX5_areASet_25 : decode cX5_areASet 25 = .ok (.iconst 0, 1) := by decide +kernel
theorem dX5_areASet_26 : decode cX5_areASet 26 = .ok (.ireturn, 1) := by decide +kernel
theorem dX5_strengthOf_0 : decode cX5_strengthOf 0 = .ok (.aload_n 0, 1) := by decide +kernel
theorem dX5_strengthOf_1 : decode cX5_strengthOf 1 = .ok (.getfield 15, 3) := by decide +kernel
theorem dX5_strengthOf_4 : decode cX5_strengthOf 4 = .ok (.iload_n 1, 1) := by decide +kernel
theorem dX5_strengthOf_5 : decode cX5_strengthOf 5 = .ok (.invokestatic 25, 3) := by decide +kernel
theorem dX5_strengthOf_8 : decode cX5_strengthOf 8 = .ok (.ireturn, 1) := by decide +kernel
theorem dX5_weightOf_0 : decode cX5_weightOf 0 = .ok (.aload_n 0, 1) := by decide +kernel
theorem dX5_weightOf_1 : decode cX5_weightOf 1 = .ok (.getfield 22, 3) := by decide +kernel
theorem dX5_weightOf_4 : decode cX5_weightOf 4 = .ok (.iload_n 1, 1) := by decide +kernel
theorem dX5_weightOf_5 : decode cX5_weightOf 5 = .ok (.invokestatic 25, 3) := by decide +kernel
theorem dX5_weightOf_8 : decode cX5_weightOf 8 = .ok (.ireturn, 1) := by decide +kernel
theorem dX5_sumOf_0 : decode cX5_sumOf 0 = .ok (.iconst 0, 1) := by decide +kernel
theorem dX5_sumOf_1 : decode cX5_sumOf 1 = .ok (.istore_n 2, 1) := by decide +kernel
theorem dX5_sumOf_2 : decode cX5_sumOf 2 = .ok (.iconst 0, 1) := by decide +kernel
theorem dX5_sumOf_3 : decode cX5_sumOf 3 = .ok (.istore_n 3, 1) := by decide +kernel
theorem dX5_sumOf_4 : decode cX5_sumOf 4 = .ok (.iload_n 3, 1) := by decide +kernel
theorem dX5_sumOf_5 : decode cX5_sumOf 5 = .ok (.bipush 16, 2) := by decide +kernel
theorem dX5_sumOf_7 : decode cX5_sumOf 7 = .ok (.if_icmp .ge 29, 3) := by decide +kernel
theorem dX5_sumOf_10 : decode cX5_sumOf 10 = .ok (.iload_n 3, 1) := by decide +kernel
theorem dX5_sumOf_11 : decode cX5_sumOf 11 = .ok (.aload_n 0, 1) := by decide +kernel
theorem dX5_sumOf_12 : decode cX5_sumOf 12 = .ok (.arraylength, 1) := by decide +kernel
theorem dX5_sumOf_13 : decode cX5_sumOf 13 = .ok (.if_icmp .ge 23, 3) := by decide +kernel
theorem dX5_sumOf_16 : decode cX5_sumOf 16 = .ok (.iload_n 1, 1) := by decide +kernel
theorem dX5_sumOf_17 : decode cX5_sumOf 17 = .ok (.iload_n 3, 1) := by decide +kernel
theorem dX5_sumOf_18 : decode cX5_sumOf 18 = .ok (.ishr, 1) := by decide +kernel
theorem dX5_sumOf_19 : decode cX5_sumOf 19 = .ok (.iconst 1, 1) := by decide +kernel
theorem dX5_sumOf_20 : decode cX5_sumOf 20 = .ok (.iand, 1) := by decide +kernel
theorem dX5_sumOf_21 : decode cX5_sumOf 21 = .ok (.ifCond .eq 9, 3) := by decide +kernel
theorem dX5_sumOf_24 : decode cX5_sumOf 24 = .ok (.iload_n 2, 1) := by decide +kernel
theorem dX5_sumOf_25 : decode cX5_sumOf 25 = .ok (.aload_n 0, 1) := by decide +kernel
theorem dX5_sumOf_26 : decode cX5_sumOf 26 = .ok (.iload_n 3, 1) := by decide +kernel
theorem dX5_sumOf_27 : decode cX5_sumOf 27 = .ok (.iaload, 1) := by decide +kernel
theorem dX5_sumOf_28 : decode cX5_sumOf 28 = .ok (.iadd, 1) := by decide +kernel
theorem dX5_sumOf_29 : decode cX5_sumOf 29 = .ok (.istore_n 2, 1) := by decide +kernel
theorem dX5_sumOf_30 : decode cX5_sumOf 30 = .ok (.iinc 3 1, 3) := by decide +kernel
theorem dX5_sumOf_33 : decode cX5_sumOf 33 = .ok (.goto (-29), 3) := by decide +kernel
theorem dX5_sumOf_36 : decode cX5_sumOf 36 = .ok (.iload_n 2, 1) := by decide +kernel
theorem dX5_sumOf_37 : decode cX5_sumOf 37 = .ok (.ireturn, 1) := by decide +kernel
theorem dX5_weightTimesStrength_0 : decode cX5_weightTimesStrength 0 = .ok (.iconst 0, 1) := by decide +kernel
theorem dX5_weightTimesStrength_1 : decode cX5_weightTimesStrength 1 = .ok (.istore_n 1, 1) := by decide +kernel
theorem dX5_weightTimesStrength_2 : decode cX5_weightTimesStrength 2 = .ok (.iconst 0, 1) := by decide +kernel
theorem dX5_weightTimesStrength_3 : decode cX5_weightTimesStrength 3 = .ok (.istore_n 2, 1) := by decide +kernel
theorem dX5_weightTimesStrength_4 : decode cX5_weightTimesStrength 4 = .ok (.iload_n 2, 1) := by decide +kernel
theorem dX5_weightTimesStrength_5 : decode cX5_weightTimesStrength 5 = .ok (.aload_n 0, 1) := by decide +kernel
theorem dX5_weightTimesStrength_6 : decode cX5_weightTimesStrength 6 = .ok (.getfield 9, 3) := by decide +kernel
theorem dX5_weightTimesStrength_9 : decode cX5_weightTimesStrength 9 = .ok (.if_icmp .ge 31, 3) := by decide +kernel
theorem dX5_weightTimesStrength_12 : decode cX5_weightTimesStrength 12 = .ok (.iload_n 2, 1) := by decide +kernel
theorem dX5_weightTimesStrength_13 : decode cX5_weightTimesStrength 13 = .ok (.bipush 16, 2) := by decide +kernel
theorem dX5_weightTimesStrength_15 : decode cX5_weightTimesStrength 15 = .ok (.if_icmp .ge 25, 3) := by decide +kernel
theorem dX5_weightTimesStrength_18 : decode cX5_weightTimesStrength 18 = .ok (.iload_n 1, 1) := by decide +kernel
theorem dX5_weightTimesStrength_19 : decode cX5_weightTimesStrength 19 = .ok (.aload_n 0, 1) := by decide +kernel
theorem dX5_weightTimesStrength_20 : decode cX5_weightTimesStrength 20 = .ok (.getfield 22, 3) := by decide +kernel
theorem dX5_weightTimesStrength_23 : decode cX5_weightTimesStrength 23 = .ok (.iload_n 2, 1) := by decide +kernel
theorem dX5_weightTimesStrength_24 : decode cX5_weightTimesStrength 24 = .ok (.iaload, 1) := by decide +kernel
theorem dX5_weightTimesStrength_25 : decode cX5_weightTimesStrength 25 = .ok (.aload_n 0, 1) := by decide +kernel
theorem dX5_weightTimesStrength_26 : decode cX5_weightTimesStrength 26 = .ok (.getfield 15, 3) := by decide +kernel
theorem dX5_weightTimesStrength_29 : decode cX5_weightTimesStrength 29 = .ok (.iload_n 2, 1) := by decide +kernel
theorem dX5_weightTimesStrength_30 : decode cX5_weightTimesStrength 30 = .ok (.iaload, 1) := by decide +kernel
theorem dX5_weightTimesStrength_31 : decode cX5_weightTimesStrength 31 = .ok (.imul, 1) := by decide +kernel
theorem dX5_weightTimesStrength_32 : decode cX5_weightTimesStrength 32 = .ok (.iadd, 1) := by decide +kernel
theorem dX5_weightTimesStrength_33 : decode cX5_weightTimesStrength 33 = .ok (.istore_n 1, 1) := by decide +kernel
theorem dX5_weightTimesStrength_34 : decode cX5_weightTimesStrength 34 = .ok (.iinc 2 1, 3) := by decide +kernel
theorem dX5_weightTimesStrength_37 : decode cX5_weightTimesStrength 37 = .ok (.goto (-33), 3) := by decide +kernel
theorem dX5_weightTimesStrength_40 : decode cX5_weightTimesStrength 40 = .ok (.iload_n 1, 1) := by decide +kernel
theorem dX5_weightTimesStrength_41 : decode cX5_weightTimesStrength 41 = .ok (.ireturn, 1) := by decide +kernel
theorem dX5_tenthsOrAll_0 : decode cX5_tenthsOrAll 0 = .ok (.aload_n 0, 1) := by decide +kernel
theorem dX5_tenthsOrAll_1 : decode cX5_tenthsOrAll 1 = .ok (.iload_n 1, 1) := by decide +kernel
theorem dX5_tenthsOrAll_2 : decode cX5_tenthsOrAll 2 = .ok (.invokevirtual 29, 3) := by decide +kernel
theorem dX5_tenthsOrAll_5 : decode cX5_tenthsOrAll 5 = .ok (.ifCond .eq 12, 3) := by decide +kernel
theorem dX5_tenthsOrAll_8 : decode cX5_tenthsOrAll 8 = .ok (.aload_n 0, 1) := by decide +kernel
theorem dX5_tenthsOrAll_9 : decode cX5_tenthsOrAll 9 = .ok (.getfield 19, 3) := by decide +kernel
theorem dX5_tenthsOrAll_12 : decode cX5_tenthsOrAll 12 = .ok (.iload_n 1, 1) := by decide +kernel
theorem dX5_tenthsOrAll_13 : decode cX5_tenthsOrAll 13 = .ok (.iaload, 1) := by decide +kernel
theorem dX5_tenthsOrAll_14 : decode cX5_tenthsOrAll 14 = .ok (.goto 5, 3) := by decide +kernel
theorem dX5_tenthsOrAll_17 : decode cX5_tenthsOrAll 17 = .ok (.bipush 10, 2) := by decide +kernel
theorem dX5_tenthsOrAll_19 : decode cX5_tenthsOrAll 19 = .ok (.ireturn, 1) := by decide +kernel
theorem dX6_init_0 : decode cX6_init 0 = .ok (.aload_n 0, 1) := by decide +kernel
theorem dX6_init_1 : decode cX6_init 1 = .ok (.invokespecial 3, 3) := by decide +kernel
theorem dX6_init_4 : decode cX6_init 4 = .ok (.aload_n 0, 1) := by decide +kernel
theorem dX6_init_5 : decode cX6_init 5 = .ok (.iconst (-1), 1) := by decide +kernel
theorem dX6_init_6 : decode cX6_init 6 = .ok (.putfield 9, 3) := by decide +kernel
theorem dX6_init_9 : decode cX6_init 9 = .ok (.aload_n 0, 1) := by decide +kernel
theorem dX6_init_10 : decode cX6_init 10 = .ok (.iconst 0, 1) := by decide +kernel
theorem dX6_init_11 : decode cX6_init 11 = .ok (.putfield 15, 3) := by decide +kernel
theorem dX6_init_14 : decode cX6_init 14 = .ok (.aload_n 0, 1) := by decide +kernel
theorem dX6_init_15 : decode cX6_init 15 = .ok (.bipush 120, 2) := by decide +kernel
theorem dX6_init_17 : decode cX6_init 17 = .ok (.newarray .int, 2) := by decide +kernel
theorem dX6_init_19 : decode cX6_init 19 = .ok (.putfield 18, 3) := by decide +kernel
theorem dX6_init_22 : decode cX6_init 22 = .ok (.return_, 1) := by decide +kernel
theorem dX6_isThere_0 : decode cX6_isThere 0 = .ok (.aload_n 0, 1) := by decide +kernel
theorem dX6_isThere_1 : decode cX6_isThere 1 = .ok (.getfield 9, 3) := by decide +kernel
theorem dX6_isThere_4 : decode cX6_isThere 4 = .ok (.iconst (-1), 1) := by decide +kernel
theorem dX6_isThere_5 : decode cX6_isThere 5 = .ok (.if_icmp .eq 7, 3) := by decide +kernel
theorem dX6_isThere_8 : decode cX6_isThere 8 = .ok (.iconst 1, 1) := by decide +kernel
theorem dX6_isThere_9 : decode cX6_isThere 9 = .ok (.goto 4, 3) := by decide +kernel
theorem dX6_isThere_12 : decode cX6_isThere 12 = .ok (.iconst 0, 1) := by decide +kernel
theorem dX6_isThere_13 : decode cX6_isThere 13 = .ok (.ireturn, 1) := by decide +kernel
theorem dX6_beEven_0 : decode cX6_beEven 0 = .ok (.aload_n 0, 1) := by decide +kernel
theorem dX6_beEven_1 : decode cX6_beEven 1 = .ok (.iload_n 1, 1) := by decide +kernel
theorem dX6_beEven_2 : decode cX6_beEven 2 = .ok (.putfield 9, 3) := by decide +kernel
theorem dX6_beEven_5 : decode cX6_beEven 5 = .ok (.aload_n 0, 1) := by decide +kernel
theorem dX6_beEven_6 : decode cX6_beEven 6 = .ok (.iload_n 2, 1) := by decide +kernel
theorem dX6_beEven_7 : decode cX6_beEven 7 = .ok (.bipush 120, 2) := by decide +kernel
theorem dX6_beEven_9 : decode cX6_beEven 9 = .ok (.invokestatic 22, 3) := by decide +kernel
theorem dX6_beEven_12 : decode cX6_beEven 12 = .ok (.putfield 15, 3) := by decide +kernel
theorem dX6_beEven_15 : decode cX6_beEven 15 = .ok (.iconst 0, 1) := by decide +kernel
theorem dX6_beEven_16 : decode cX6_beEven 16 = .ok (.istore_n 3, 1) := by decide +kernel
theorem dX6_beEven_17 : decode cX6_beEven 17 = .ok (.iload_n 3, 1) := by decide +kernel
theorem dX6_beEven_18 : decode cX6_beEven 18 = .ok (.aload_n 0, 1) := by decide +kernel
theorem dX6_beEven_19 : decode cX6_beEven 19 = .ok (.getfield 15, 3) := by decide +kernel
theorem dX6_beEven_22 : decode cX6_beEven 22 = .ok (.if_icmp .ge 16, 3) := by decide +kernel
theorem dX6_beEven_25 : decode cX6_beEven 25 = .ok (.aload_n 0, 1) := by decide +kernel
theorem dX6_beEven_26 : decode cX6_beEven 26 = .ok (.getfield 18, 3) := by decide +kernel
theorem dX6_beEven_29 : decode cX6_beEven 29 = .ok (.iload_n 3, 1) := by decide +kernel
theorem dX6_beEven_30 : decode cX6_beEven 30 = .ok (.iconst 1, 1) := by decide +kernel
theorem dX6_beEven_31 : decode cX6_beEven 31 = .ok (.iastore, 1) := by decide +kernel
theorem dX6_beEven_32 : decode cX6_beEven 32 = .ok (.iinc 3 1, 3) := by decide +kernel
theorem dX6_beEven_35 : decode cX6_beEven 35 = .ok (.goto (-18), 3) := by decide +kernel
theorem dX6_beEven_38 : decode cX6_beEven 38 = .ok (.return_, 1) := by decide +kernel
theorem dX6_become_0 : decode cX6_become 0 = .ok (.aload_n 0, 1) := by decide +kernel
theorem dX6_become_1 : decode cX6_become 1 = .ok (.aload_n 1, 1) := by decide +kernel
theorem dX6_become_2 : decode cX6_become 2 = .ok (.getfield 9, 3) := by decide +kernel
theorem dX6_become_5 : decode cX6_become 5 = .ok (.putfield 9, 3) := by decide +kernel
theorem dX6_become_8 : decode cX6_become 8 = .ok (.aload_n 0, 1) := by decide +kernel
theorem dX6_become_9 : decode cX6_become 9 = .ok (.aload_n 1, 1) := by decide +kernel
theorem dX6_become_10 : decode cX6_become 10 = .ok (.getfield 15, 3) := by decide +kernel
theorem dX6_become_13 : decode cX6_become 13 = .ok (.putfield 15, 3) := by decide +kernel
theorem dX6_become_16 : decode cX6_become 16 = .ok (.iconst 0, 1) := by decide +kernel
theorem dX6_become_17 : decode cX6_become 17 = .ok (.istore_n 2, 1) := by decide +kernel
theorem dX6_become_18 : decode cX6_become 18 = .ok (.iload_n 2, 1) := by decide +kernel
theorem dX6_become_19 : decode cX6_become 19 = .ok (.aload_n 0, 1) := by decide +kernel
theorem dX6_become_20 : decode cX6_become 20 = .ok (.getfield 15, 3) := by decide +kernel
theorem dX6_become_23 : decode cX6_become 23 = .ok (.if_icmp .ge 21, 3) := by decide +kernel
theorem dX6_become_26 : decode cX6_become 26 = .ok (.aload_n 0, 1) := by decide +kernel
theorem dX6_become_27 : decode cX6_become 27 = .ok (.getfield 18, 3) := by decide +kernel
theorem dX6_become_30 : decode cX6_become 30 = .ok (.iload_n 2, 1) := by decide +kernel
theorem dX6_become_31 : decode cX6_become 31 = .ok (.aload_n 1, 1) := by decide +kernel
theorem dX6_become_32 : decode cX6_become 32 = .ok (.getfield 18, 3) := by decide +kernel
theorem dX6_become_35 : decode cX6_become 35 = .ok (.iload_n 2, 1) := by decide +kernel
theorem dX6_become_36 : decode cX6_become 36 = .ok (.iaload, 1) := by decide +kernel
theorem dX6_become_37 : decode cX6_become 37 = .ok (.iastore, 1) := by decide +kernel
theorem dX6_become_38 : decode cX6_become 38 = .ok (.iinc 2 1, 3) := by decide +kernel
theorem dX6_become_41 : decode cX6_become 41 = .ok (.goto (-23), 3) := by decide +kernel
theorem dX6_become_44 : decode cX6_become 44 = .ok (.return_, 1) := by decide +kernel
theorem dX6_hasPart_0 : decode cX6_hasPart 0 = .ok (.iload_n 1, 1) := by decide +kernel
theorem dX6_hasPart_1 : decode cX6_hasPart 1 = .ok (.ifCond .lt 15, 3) := by decide +kernel
theorem dX6_hasPart_4 : decode cX6_hasPart 4 = .ok (.iload_n 1, 1) := by decide +kernel
theorem dX6_hasPart_5 : decode cX6_hasPart 5 = .ok (.aload_n 0, 1) := by decide +kernel
theorem dX6_hasPart_6 : decode cX6_hasPart 6 = .ok (.getfield 15, 3) := by decide +kernel
theorem dX6_hasPart_9 : decode cX6_hasPart 9 = .ok (.if_icmp .ge 7, 3) := by decide +kernel
theorem dX6_hasPart_12 : decode cX6_hasPart 12 = .ok (.iconst 1, 1) := by decide +kernel
theorem dX6_hasPart_13 : decode cX6_hasPart 13 = .ok (.goto 4, 3) := by decide +kernel
theorem dX6_hasPart_16 : decode cX6_hasPart 16 = .ok (.iconst 0, 1) := by decide +kernel
theorem dX6_hasPart_17 : decode cX6_hasPart 17 = .ok (.ireturn, 1) := by decide +kernel
theorem dX6_hasRun_0 : decode cX6_hasRun 0 = .ok (.iload_n 1, 1) := by decide +kernel
theorem dX6_hasRun_1 : decode cX6_hasRun 1 = .ok (.ifCond .lt 29, 3) := by decide +kernel
theorem dX6_hasRun_4 : decode cX6_hasRun 4 = .ok (.iload_n 2, 1) := by decide +kernel
theorem dX6_hasRun_5 : decode cX6_hasRun 5 = .ok (.ifCond .lt 25, 3) := by decide +kernel
theorem dX6_hasRun_8 : decode cX6_hasRun 8 = .ok (.iload_n 1, 1) := by decide +kernel
theorem dX6_hasRun_9 : decode cX6_hasRun 9 = .ok (.aload_n 0, 1) := by decide +kernel
theorem dX6_hasRun_10 : decode cX6_hasRun 10 = .ok (.getfield 15, 3) := by decide +kernel
theorem dX6_hasRun_13 : decode cX6_hasRun 13 = .ok (.if_icmp .gt 17, 3) := by decide +kernel
theorem dX6_hasRun_16 : decode cX6_hasRun 16 = .ok (.iload_n 2, 1) := by decide +kernel
theorem dX6_hasRun_17 : decode cX6_hasRun 17 = .ok (.aload_n 0, 1) := by decide +kernel
theorem dX6_hasRun_18 : decode cX6_hasRun 18 = .ok (.getfield 15, 3) := by decide +kernel
theorem dX6_hasRun_21 : decode cX6_hasRun 21 = .ok (.iload_n 1, 1) := by decide +kernel
theorem dX6_hasRun_22 : decode cX6_hasRun 22 = .ok (.isub, 1) := by decide +kernel
theorem dX6_hasRun_23 : decode cX6_hasRun 23 = .ok (.if_icmp .gt 7, 3) := by decide +kernel
theorem dX6_hasRun_26 : decode cX6_hasRun 26 = .ok (.iconst 1, 1) := by decide +kernel
theorem dX6_hasRun_27 : decode cX6_hasRun 27 = .ok (.goto 4, 3) := by decide +kernel
theorem dX6_hasRun_30 : decode cX6_hasRun 30 = .ok (.iconst 0, 1) := by decide +kernel
theorem dX6_hasRun_31 : decode cX6_hasRun 31 = .ok (.ireturn, 1) := by decide +kernel
theorem dX6_overlay_0 : decode cX6_overlay 0 = .ok (.iload_n 1, 1) := by decide +kernel
theorem dX6_overlay_1 : decode cX6_overlay 1 = .ok (.iload_n 3, 1) := by decide +kernel
theorem dX6_overlay_2 : decode cX6_overlay 2 = .ok (.if_icmp .le 7, 3) := by decide +kernel
theorem dX6_overlay_5 : decode cX6_overlay 5 = .ok (.iconst 1, 1) := by decide +kernel
theorem dX6_overlay_6 : decode cX6_overlay 6 = .ok (.goto 4, 3) := by decide +kernel
theorem dX6_overlay_9 : decode cX6_overlay 9 = .ok (.iconst 0, 1) := by decide +kernel
theorem dX6_overlay_10 : decode cX6_overlay 10 = .ok (.istore 5, 2) := by decide +kernel
theorem dX6_overlay_12 : decode cX6_overlay 12 = .ok (.iconst 0, 1) := by decide +kernel
theorem dX6_overlay_13 : decode cX6_overlay 13 = .ok (.istore 6, 2) := by decide +kernel
theorem dX6_overlay_15 : decode cX6_overlay 15 = .ok (.iload 6, 2) := by decide +kernel
theorem dX6_overlay_17 : decode cX6_overlay 17 = .ok (.iload 4, 2) := by decide +kernel
theorem dX6_overlay_19 : decode cX6_overlay 19 = .ok (.if_icmp .ge 68, 3) := by decide +kernel
theorem dX6_overlay_22 : decode cX6_overlay 22 = .ok (.iload 5, 2) := by decide +kernel
theorem dX6_overlay_24 : decode cX6_overlay 24 = .ok (.ifCond .eq 13, 3) := by decide +kernel
theorem dX6_overlay_27 : decode cX6_overlay 27 = .ok (.iload 4, 2) := by decide +kernel
theorem dX6_overlay_29 : decode cX6_overlay 29 = .ok (.iconst 1, 1) := by decide +kernel
theorem dX6_overlay_30 : decode cX6_overlay 30 = .ok (.isub, 1) := by decide +kernel
theorem dX6_overlay_31 : decode cX6_overlay 31 = .ok (.iload 6, 2) := by decide +kernel
theorem dX6_overlay_33 : decode cX6_overlay 33 = .ok (.isub, 1) := by decide +kernel
theorem dX6_overlay_34 : decode cX6_overlay 34 = .ok (.goto 5, 3) := by decide +kernel
theorem dX6_overlay_37 : decode cX6_overlay 37 = .ok (.iload 6, 2) := by decide +kernel
theorem dX6_overlay_39 : decode cX6_overlay 39 = .ok (.istore 7, 2) := by decide +kernel
theorem dX6_overlay_41 : decode cX6_overlay 41 = .ok (.aload_n 0, 1) := by decide +kernel
theorem dX6_overlay_42 : decode cX6_overlay 42 = .ok (.iload_n 1, 1) := by decide +kernel
theorem dX6_overlay_43 : decode cX6_overlay 43 = .ok (.iload 7, 2) := by decide +kernel
theorem dX6_overlay_45 : decode cX6_overlay 45 = .ok (.iadd, 1) := by decide +kernel
theorem dX6_overlay_46 : decode cX6_overlay 46 = .ok (.invokevirtual 28, 3) := by decide +kernel
theorem dX6_overlay_49 : decode cX6_overlay 49 = .ok (.ifCond .eq 32, 3) := by decide +kernel
theorem dX6_overlay_52 : decode cX6_overlay 52 = .ok (.aload_n 2, 1) := by decide +kernel
theorem dX6_overlay_53 : decode cX6_overlay 53 = .ok (.iload_n 3, 1) := by decide +kernel
theorem dX6_overlay_54 : decode cX6_overlay 54 = .ok (.iload 7, 2) := by decide +kernel
theorem dX6_overlay_56 : decode cX6_overlay 56 = .ok (.iadd, 1) := by decide +kernel
theorem dX6_overlay_57 : decode cX6_overlay 57 = .ok (.invokevirtual 28, 3) := by decide +kernel
theorem dX6_overlay_60 : decode cX6_overlay 60 = .ok (.ifCond .eq 21, 3) := by decide +kernel
theorem dX6_overlay_63 : decode cX6_overlay 63 = .ok (.aload_n 0, 1) := by decide +kernel
theorem dX6_overlay_64 : decode cX6_overlay 64 = .ok (.getfield 18, 3) := by decide +kernel
theorem dX6_overlay_67 : decode cX6_overlay 67 = .ok (.iload_n 1, 1) := by decide +kernel
theorem dX6_overlay_68 : decode cX6_overlay 68 = .ok (.iload 7, 2) := by decide +kernel
theorem dX6_overlay_70 : decode cX6_overlay 70 = .ok (.iadd, 1) := by decide +kernel
theorem dX6_overlay_71 : decode cX6_overlay 71 = .ok (.aload_n 2, 1) := by decide +kernel
theorem dX6_overlay_72 : decode cX6_overlay 72 = .ok (.getfield 18, 3) := by decide +kernel
theorem dX6_overlay_75 : decode cX6_overlay 75 = .ok (.iload_n 3, 1) := by decide +kernel
theorem dX6_overlay_76 : decode cX6_overlay 76 = .ok (.iload 7, 2) := by decide +kernel
theorem dX6_overlay_78 : decode cX6_overlay 78 = .ok (.iadd, 1) := by decide +kernel
theorem dX6_overlay_79 : decode cX6_overlay 79 = .ok (.iaload, 1) := by decide +kernel
theorem dX6_overlay_80 : decode cX6_overlay 80 = .ok (.iastore, 1) := by decide +kernel
theorem dX6_overlay_81 : decode cX6_overlay 81 = .ok (.iinc 6 1, 3) := by decide +kernel
theorem dX6_overlay_84 : decode cX6_overlay 84 = .ok (.goto (-69), 3) := by decide +kernel
theorem dX6_overlay_87 : decode cX6_overlay 87 = .ok (.return_, 1) := by decide +kernel
theorem dX6_allParts_0 : decode cX6_allParts 0 = .ok (.iconst 0, 1) := by decide +kernel
theorem dX6_allParts_1 : decode cX6_allParts 1 = .ok (.istore_n 1, 1) := by decide +kernel
theorem dX6_allParts_2 : decode cX6_allParts 2 = .ok (.iconst 0, 1) := by decide +kernel
theorem dX6_allParts_3 : decode cX6_allParts 3 = .ok (.istore_n 2, 1) := by decide +kernel
theorem dX6_allParts_4 : decode cX6_allParts 4 = .ok (.iload_n 2, 1) := by decide +kernel
theorem dX6_allParts_5 : decode cX6_allParts 5 = .ok (.aload_n 0, 1) := by decide +kernel
theorem dX6_allParts_6 : decode cX6_allParts 6 = .ok (.getfield 15, 3) := by decide +kernel
theorem dX6_allParts_9 : decode cX6_allParts 9 = .ok (.if_icmp .ge 18, 3) := by decide +kernel
theorem dX6_allParts_12 : decode cX6_allParts 12 = .ok (.iload_n 1, 1) := by decide +kernel
theorem dX6_allParts_13 : decode cX6_allParts 13 = .ok (.aload_n 0, 1) := by decide +kernel
theorem dX6_allParts_14 : decode cX6_allParts 14 = .ok (.getfield 18, 3) := by decide +kernel
theorem dX6_allParts_17 : decode cX6_allParts 17 = .ok (.iload_n 2, 1) := by decide +kernel
theorem dX6_allParts_18 : decode cX6_allParts 18 = .ok (.iaload, 1) := by decide +kernel
theorem dX6_allParts_19 : decode cX6_allParts 19 = .ok (.iadd, 1) := by decide +kernel
theorem dX6_allParts_20 : decode cX6_allParts 20 = .ok (.istore_n 1, 1) := by decide +kernel
theorem dX6_allParts_21 : decode cX6_allParts 21 = .ok (.iinc 2 1, 3) := by decide +kernel
theorem dX6_allParts_24 : decode cX6_allParts 24 = .ok (.goto (-20), 3) := by decide +kernel
theorem dX6_allParts_27 : decode cX6_allParts 27 = .ok (.iload_n 1, 1) := by decide +kernel
theorem dX6_allParts_28 : decode cX6_allParts 28 = .ok (.ireturn, 1) := by decide +kernel
theorem dX6_partsWith_0 : decode cX6_partsWith 0 = .ok (.iconst 0, 1) := by decide +kernel
theorem dX6_partsWith_1 : decode cX6_partsWith 1 = .ok (.istore_n 3, 1) := by decide +kernel
theorem dX6_partsWith_2 : decode cX6_partsWith 2 = .ok (.iconst 0, 1) := by decide +kernel
theorem dX6_partsWith_3 : decode cX6_partsWith 3 = .ok (.istore 4, 2) := by decide +kernel
theorem dX6_partsWith_5 : decode cX6_partsWith 5 = .ok (.iload 4, 2) := by decide +kernel
theorem dX6_partsWith_7 : decode cX6_partsWith 7 = .ok (.aload_n 0, 1) := by decide +kernel
theorem dX6_partsWith_8 : decode cX6_partsWith 8 = .ok (.getfield 15, 3) := by decide +kernel
theorem dX6_partsWith_11 : decode cX6_partsWith 11 = .ok (.if_icmp .ge 42, 3) := by decide +kernel
theorem dX6_partsWith_14 : decode cX6_partsWith 14 = .ok (.iload 4, 2) := by decide +kernel
theorem dX6_partsWith_16 : decode cX6_partsWith 16 = .ok (.aload_n 1, 1) := by decide +kernel
theorem dX6_partsWith_17 : decode cX6_partsWith 17 = .ok (.getfield 32, 3) := by decide +kernel
theorem dX6_partsWith_20 : decode cX6_partsWith 20 = .ok (.if_icmp .ge 33, 3) := by decide +kernel
theorem dX6_partsWith_23 : decode cX6_partsWith 23 = .ok (.aload_n 1, 1) := by decide +kernel
theorem dX6_partsWith_24 : decode cX6_partsWith 24 = .ok (.getfield 35, 3) := by decide +kernel
theorem dX6_partsWith_27 : decode cX6_partsWith 27 = .ok (.iload 4, 2) := by decide +kernel
theorem dX6_partsWith_29 : decode cX6_partsWith 29 = .ok (.iaload, 1) := by decide +kernel
theorem dX6_partsWith_30 : decode cX6_partsWith 30 = .ok (.iload_n 2, 1) := by decide +kernel
theorem dX6_partsWith_31 : decode cX6_partsWith 31 = .ok (.ishr, 1) := by decide +kernel
theorem dX6_partsWith_32 : decode cX6_partsWith 32 = .ok (.iconst 1, 1) := by decide +kernel
theorem dX6_partsWith_33 : decode cX6_partsWith 33 = .ok (.iand, 1) := by decide +kernel
theorem dX6_partsWith_34 : decode cX6_partsWith 34 = .ok (.ifCond .eq 13, 3) := by decide +kernel
theorem dX6_partsWith_37 : decode cX6_partsWith 37 = .ok (.iload_n 3, 1) := by decide +kernel
theorem dX6_partsWith_38 : decode cX6_partsWith 38 = .ok (.aload_n 0, 1) := by decide +kernel
theorem dX6_partsWith_39 : decode cX6_partsWith 39 = .ok (.getfield 18, 3) := by decide +kernel
theorem dX6_partsWith_42 : decode cX6_partsWith 42 = .ok (.iload 4, 2) := by decide +kernel
theorem dX6_partsWith_44 : decode cX6_partsWith 44 = .ok (.iaload, 1) := by decide +kernel
theorem dX6_partsWith_45 : decode cX6_partsWith 45 = .ok (.iadd, 1) := by decide +kernel
theorem dX6_partsWith_46 : decode cX6_partsWith 46 = .ok (.istore_n 3, 1) := by decide +kernel
theorem dX6_partsWith_47 : decode cX6_partsWith 47 = .ok (.iinc 4 1, 3) := by decide +kernel
theorem dX6_partsWith_50 : decode cX6_partsWith 50 = .ok (.goto (-45), 3) := by decide +kernel
theorem dX6_partsWith_53 : decode cX6_partsWith 53 = .ok (.iload_n 3, 1) := by decide +kernel
theorem dX6_partsWith_54 : decode cX6_partsWith 54 = .ok (.ireturn, 1) := by decide +kernel
theorem dX8_init_0 : decode cX8_init 0 = .ok (.aload_n 0, 1) := by decide +kernel
theorem dX8_init_1 : decode cX8_init 1 = .ok (.invokespecial 3, 3) := by decide +kernel
theorem dX8_init_4 : decode cX8_init 4 = .ok (.aload_n 0, 1) := by decide +kernel
theorem dX8_init_5 : decode cX8_init 5 = .ok (.iconst 0, 1) := by decide +kernel
theorem dX8_init_6 : decode cX8_init 6 = .ok (.putfield 9, 3) := by decide +kernel
theorem dX8_init_9 : decode cX8_init 9 = .ok (.aload_n 0, 1) := by decide +kernel
theorem dX8_init_10 : decode cX8_init 10 = .ok (.sipush 7140, 3) := by decide +kernel
theorem dX8_init_13 : decode cX8_init 13 = .ok (.newarray .int, 2) := by decide +kernel
theorem dX8_init_15 : decode cX8_init 15 = .ok (.putfield 15, 3) := by decide +kernel
theorem dX8_init_18 : decode cX8_init 18 = .ok (.return_, 1) := by decide +kernel
theorem dX8_hasPair_0 : decode cX8_hasPair 0 = .ok (.iload_n 1, 1) := by decide +kernel
theorem dX8_hasPair_1 : decode cX8_hasPair 1 = .ok (.ifCond .lt 15, 3) := by decide +kernel
theorem dX8_hasPair_4 : decode cX8_hasPair 4 = .ok (.iload_n 1, 1) := by decide +kernel
theorem dX8_hasPair_5 : decode cX8_hasPair 5 = .ok (.aload_n 0, 1) := by decide +kernel
theorem dX8_hasPair_6 : decode cX8_hasPair 6 = .ok (.getfield 9, 3) := by decide +kernel
theorem dX8_hasPair_9 : decode cX8_hasPair 9 = .ok (.if_icmp .ge 7, 3) := by decide +kernel
theorem dX8_hasPair_12 : decode cX8_hasPair 12 = .ok (.iconst 1, 1) := by decide +kernel
theorem dX8_hasPair_13 : decode cX8_hasPair 13 = .ok (.goto 4, 3) := by decide +kernel
theorem dX8_hasPair_16 : decode cX8_hasPair 16 = .ok (.iconst 0, 1) := by decide +kernel
theorem dX8_hasPair_17 : decode cX8_hasPair 17 = .ok (.ireturn, 1) := by decide +kernel
theorem dX8_write_0 : decode cX8_write 0 = .ok (.aload_n 0, 1) := by decide +kernel
theorem dX8_write_1 : decode cX8_write 1 = .ok (.iconst 0, 1) := by decide +kernel
theorem dX8_write_2 : decode cX8_write 2 = .ok (.putfield 9, 3) := by decide +kernel
theorem dX8_write_5 : decode cX8_write 5 = .ok (.iconst 0, 1) := by decide +kernel
theorem dX8_write_6 : decode cX8_write 6 = .ok (.istore_n 2, 1) := by decide +kernel
theorem dX8_write_7 : decode cX8_write 7 = .ok (.iload_n 2, 1) := by decide +kernel
theorem dX8_write_8 : decode cX8_write 8 = .ok (.aload_n 1, 1) := by decide +kernel
theorem dX8_write_9 : decode cX8_write 9 = .ok (.getfield 19, 3) := by decide +kernel
theorem dX8_write_12 : decode cX8_write 12 = .ok (.if_icmp .ge 72, 3) := by decide +kernel
theorem dX8_write_15 : decode cX8_write 15 = .ok (.iload_n 2, 1) := by decide +kernel
theorem dX8_write_16 : decode cX8_write 16 = .ok (.iconst 1, 1) := by decide +kernel
theorem dX8_write_17 : decode cX8_write 17 = .ok (.iadd, 1) := by decide +kernel
theorem dX8_write_18 : decode cX8_write 18 = .ok (.istore_n 3, 1) := by decide +kernel
theorem dX8_write_19 : decode cX8_write 19 = .ok (.iload_n 3, 1) := by decide +kernel
theorem dX8_write_20 : decode cX8_write 20 = .ok (.aload_n 1, 1) := by decide +kernel
theorem dX8_write_21 : decode cX8_write 21 = .ok (.getfield 19, 3) := by decide +kernel
theorem dX8_write_24 : decode cX8_write 24 = .ok (.if_icmp .ge 54, 3) := by decide +kernel
theorem dX8_write_27 : decode cX8_write 27 = .ok (.aload_n 0, 1) := by decide +kernel
theorem dX8_write_28 : decode cX8_write 28 = .ok (.getfield 9, 3) := by decide +kernel
theorem dX8_write_31 : decode cX8_write 31 = .ok (.sipush 7140, 3) := by decide +kernel
theorem dX8_write_34 : decode cX8_write 34 = .ok (.if_icmp .ge 44, 3) := by decide +kernel
theorem dX8_write_37 : decode cX8_write 37 = .ok (.aload_n 0, 1) := by decide +kernel
theorem dX8_write_38 : decode cX8_write 38 = .ok (.getfield 15, 3) := by decide +kernel
theorem dX8_write_41 : decode cX8_write 41 = .ok (.aload_n 0, 1) := by decide +kernel
theorem dX8_write_42 : decode cX8_write 42 = .ok (.getfield 9, 3) := by decide +kernel
theorem dX8_write_45 : decode cX8_write 45 = .ok (.aload_n 1, 1) := by decide +kernel
theorem dX8_write_46 : decode cX8_write 46 = .ok (.getfield 22, 3) := by decide +kernel
theorem dX8_write_49 : decode cX8_write 49 = .ok (.iload_n 2, 1) := by decide +kernel
theorem dX8_write_50 : decode cX8_write 50 = .ok (.iaload, 1) := by decide +kernel
theorem dX8_write_51 : decode cX8_write 51 = .ok (.aload_n 1, 1) := by decide +kernel
theorem dX8_write_52 : decode cX8_write 52 = .ok (.getfield 22, 3) := by decide +kernel
theorem dX8_write_55 : decode cX8_write 55 = .ok (.iload_n 3, 1) := by decide +kernel
theorem dX8_write_56 : decode cX8_write 56 = .ok (.iaload, 1) := by decide +kernel
theorem dX8_write_57 : decode cX8_write 57 = .ok (.iand, 1) := by decide +kernel
theorem dX8_write_58 : decode cX8_write 58 = .ok (.invokestatic 25, 3) := by decide +kernel
theorem dX8_write_61 : decode cX8_write 61 = .ok (.iastore, 1) := by decide +kernel
theorem dX8_write_62 : decode cX8_write 62 = .ok (.aload_n 0, 1) := by decide +kernel
theorem dX8_write_63 : decode cX8_write 63 = .ok (.dup, 1) := by decide +kernel
theorem dX8_write_64 : decode cX8_write 64 = .ok (.getfield 9, 3) := by decide +kernel
theorem dX8_write_67 : decode cX8_write 67 = .ok (.iconst 1, 1) := by decide +kernel
theorem dX8_write_68 : decode cX8_write 68 = .ok (.iadd, 1) := by decide +kernel
theorem dX8_write_69 : decode cX8_write 69 = .ok (.putfield 9, 3) := by decide +kernel
theorem dX8_write_72 : decode cX8_write 72 = .ok (.iinc 3 1, 3) := by decide +kernel
theorem dX8_write_75 : decode cX8_write 75 = .ok (.goto (-56), 3) := by decide +kernel
theorem dX8_write_78 : decode cX8_write 78 = .ok (.iinc 2 1, 3) := by decide +kernel
theorem dX8_write_81 : decode cX8_write 81 = .ok (.goto (-74), 3) := by decide +kernel
theorem dX8_write_84 : decode cX8_write 84 = .ok (.return_, 1) := by decide +kernel
theorem dX8_firstFalsePair_0 : decode cX8_firstFalsePair 0 = .ok (.iconst 0, 1) := by decide +kernel
theorem dX8_firstFalsePair_1 : decode cX8_firstFalsePair 1 = .ok (.istore_n 2, 1) := by decide +kernel
theorem dX8_firstFalsePair_2 : decode cX8_firstFalsePair 2 = .ok (.iconst 0, 1) := by decide +kernel
theorem dX8_firstFalsePair_3 : decode cX8_firstFalsePair 3 = .ok (.istore_n 3, 1) := by decide +kernel
theorem dX8_firstFalsePair_4 : decode cX8_firstFalsePair 4 = .ok (.iload_n 3, 1) := by decide +kernel
theorem dX8_firstFalsePair_5 : decode cX8_firstFalsePair 5 = .ok (.aload_n 1, 1) := by decide +kernel
theorem dX8_firstFalsePair_6 : decode cX8_firstFalsePair 6 = .ok (.getfield 19, 3) := by decide +kernel
theorem dX8_firstFalsePair_9 : decode cX8_firstFalsePair 9 = .ok (.if_icmp .ge 68, 3) := by decide +kernel
theorem dX8_firstFalsePair_12 : decode cX8_firstFalsePair 12 = .ok (.iload_n 3, 1) := by decide +kernel
theorem dX8_firstFalsePair_13 : decode cX8_firstFalsePair 13 = .ok (.iconst 1, 1) := by decide +kernel
theorem dX8_firstFalsePair_14 : decode cX8_firstFalsePair 14 = .ok (.iadd, 1) := by decide +kernel
theorem dX8_firstFalsePair_15 : decode cX8_firstFalsePair 15 = .ok (.istore 4, 2) := by decide +kernel
theorem dX8_firstFalsePair_17 : decode cX8_firstFalsePair 17 = .ok (.iload 4, 2) := by decide +kernel
theorem dX8_firstFalsePair_19 : decode cX8_firstFalsePair 19 = .ok (.aload_n 1, 1) := by decide +kernel
theorem dX8_firstFalsePair_20 : decode cX8_firstFalsePair 20 = .ok (.getfield 19, 3) := by decide +kernel
theorem dX8_firstFalsePair_23 : decode cX8_firstFalsePair 23 = .ok (.if_icmp .ge 48, 3) := by decide +kernel
theorem dX8_firstFalsePair_26 : decode cX8_firstFalsePair 26 = .ok (.iload_n 2, 1) := by decide +kernel
theorem dX8_firstFalsePair_27 : decode cX8_firstFalsePair 27 = .ok (.aload_n 0, 1) := by decide +kernel
theorem dX8_firstFalsePair_28 : decode cX8_firstFalsePair 28 = .ok (.getfield 9, 3) := by decide +kernel
theorem dX8_firstFalsePair_31 : decode cX8_firstFalsePair 31 = .ok (.if_icmp .ge 40, 3) := by decide +kernel
theorem dX8_firstFalsePair_34 : decode cX8_firstFalsePair 34 = .ok (.aload_n 0, 1) := by decide +kernel
theorem dX8_firstFalsePair_35 : decode cX8_firstFalsePair 35 = .ok (.getfield 15, 3) := by decide +kernel
theorem dX8_firstFalsePair_38 : decode cX8_firstFalsePair 38 = .ok (.iload_n 2, 1) := by decide +kernel
theorem dX8_firstFalsePair_39 : decode cX8_firstFalsePair 39 = .ok (.iaload, 1) := by decide +kernel
theorem dX8_firstFalsePair_40 : decode cX8_firstFalsePair 40 = .ok (.aload_n 1, 1) := by decide +kernel
theorem dX8_firstFalsePair_41 : decode cX8_firstFalsePair 41 = .ok (.getfield 22, 3) := by decide +kernel
theorem dX8_firstFalsePair_44 : decode cX8_firstFalsePair 44 = .ok (.iload_n 3, 1) := by decide +kernel
theorem dX8_firstFalsePair_45 : decode cX8_firstFalsePair 45 = .ok (.iaload, 1) := by decide +kernel
theorem dX8_firstFalsePair_46 : decode cX8_firstFalsePair 46 = .ok (.aload_n 1, 1) := by decide +kernel
theorem dX8_firstFalsePair_47 : decode cX8_firstFalsePair 47 = .ok (.getfield 22, 3) := by decide +kernel
theorem dX8_firstFalsePair_50 : decode cX8_firstFalsePair 50 = .ok (.iload 4, 2) := by decide +kernel
theorem dX8_firstFalsePair_52 : decode cX8_firstFalsePair 52 = .ok (.iaload, 1) := by decide +kernel
theorem dX8_firstFalsePair_53 : decode cX8_firstFalsePair 53 = .ok (.iand, 1) := by decide +kernel
theorem dX8_firstFalsePair_54 : decode cX8_firstFalsePair 54 = .ok (.invokestatic 29, 3) := by decide +kernel
theorem dX8_firstFalsePair_57 : decode cX8_firstFalsePair 57 = .ok (.ifCond .ne 5, 3) := by decide +kernel
theorem dX8_firstFalsePair_60 : decode cX8_firstFalsePair 60 = .ok (.iload_n 2, 1) := by decide +kernel
theorem dX8_firstFalsePair_61 : decode cX8_firstFalsePair 61 = .ok (.ireturn, 1) := by decide +kernel
theorem dX8_firstFalsePair_62 : decode cX8_firstFalsePair 62 = .ok (.iinc 2 1, 3) := by decide +kernel
theorem dX8_firstFalsePair_65 : decode cX8_firstFalsePair 65 = .ok (.iinc 4 1, 3) := by decide +kernel
theorem dX8_firstFalsePair_68 : decode cX8_firstFalsePair 68 = .ok (.goto (-51), 3) := by decide +kernel
theorem dX8_firstFalsePair_71 : decode cX8_firstFalsePair 71 = .ok (.iinc 3 1, 3) := by decide +kernel
theorem dX8_firstFalsePair_74 : decode cX8_firstFalsePair 74 = .ok (.goto (-70), 3) := by decide +kernel
theorem dX8_firstFalsePair_77 : decode cX8_firstFalsePair 77 = .ok (.bipush (-2), 2) := by decide +kernel
theorem dX8_firstFalsePair_79 : decode cX8_firstFalsePair 79 = .ok (.ireturn, 1) := by decide +kernel
theorem dX8_leastKeeper_0 : decode cX8_leastKeeper 0 = .ok (.iload_n 0, 1) := by decide +kernel
theorem dX8_leastKeeper_1 : decode cX8_leastKeeper 1 = .ok (.ifCond .ne 7, 3) := by decide +kernel
theorem dX8_leastKeeper_4 : decode cX8_leastKeeper 4 = .ok (.iconst (-1), 1) := by decide +kernel
theorem dX8_leastKeeper_5 : decode cX8_leastKeeper 5 = .ok (.goto 12, 3) := by decide +kernel
theorem dX8_leastKeeper_8 : decode cX8_leastKeeper 8 = .ok (.iload_n 0, 1) := by decide +kernel
theorem dX8_leastKeeper_9 : decode cX8_leastKeeper 9 = .ok (.iload_n 0, 1) := by decide +kernel
theorem dX8_leastKeeper_10 : decode cX8_leastKeeper 10 = .ok (.ineg, 1) := by decide +kernel
theorem dX8_leastKeeper_11 : decode cX8_leastKeeper 11 = .ok (.iand, 1) := by decide +kernel
theorem dX8_leastKeeper_12 : decode cX8_leastKeeper 12 = .ok (.iconst 1, 1) := by decide +kernel
theorem dX8_leastKeeper_13 : decode cX8_leastKeeper 13 = .ok (.isub, 1) := by decide +kernel
theorem dX8_leastKeeper_14 : decode cX8_leastKeeper 14 = .ok (.invokestatic 33, 3) := by decide +kernel
theorem dX8_leastKeeper_17 : decode cX8_leastKeeper 17 = .ok (.ireturn, 1) := by decide +kernel
theorem dX8_isKeeperOf_0 : decode cX8_isKeeperOf 0 = .ok (.iload_n 0, 1) := by decide +kernel
theorem dX8_isKeeperOf_1 : decode cX8_isKeeperOf 1 = .ok (.ifCond .lt 21, 3) := by decide +kernel
theorem dX8_isKeeperOf_4 : decode cX8_isKeeperOf 4 = .ok (.iload_n 0, 1) := by decide +kernel
theorem dX8_isKeeperOf_5 : decode cX8_isKeeperOf 5 = .ok (.bipush 16, 2) := by decide +kernel
theorem dX8_isKeeperOf_7 : decode cX8_isKeeperOf 7 = .ok (.if_icmp .ge 15, 3) := by decide +kernel
theorem dX8_isKeeperOf_10 : decode cX8_isKeeperOf 10 = .ok (.iload_n 1, 1) := by decide +kernel
theorem dX8_isKeeperOf_11 : decode cX8_isKeeperOf 11 = .ok (.iload_n 0, 1) := by decide +kernel
theorem dX8_isKeeperOf_12 : decode cX8_isKeeperOf 12 = .ok (.ishr, 1) := by decide +kernel
theorem dX8_isKeeperOf_13 : decode cX8_isKeeperOf 13 = .ok (.iconst 1, 1) := by decide +kernel
theorem dX8_isKeeperOf_14 : decode cX8_isKeeperOf 14 = .ok (.iand, 1) := by decide +kernel
theorem dX8_isKeeperOf_15 : decode cX8_isKeeperOf 15 = .ok (.ifCond .eq 7, 3) := by decide +kernel
theorem dX8_isKeeperOf_18 : decode cX8_isKeeperOf 18 = .ok (.iconst 1, 1) := by decide +kernel
theorem dX8_isKeeperOf_19 : decode cX8_isKeeperOf 19 = .ok (.goto 4, 3) := by decide +kernel
theorem dX8_isKeeperOf_22 : decode cX8_isKeeperOf 22 = .ok (.iconst 0, 1) := by decide +kernel
theorem dX8_isKeeperOf_23 : decode cX8_isKeeperOf 23 = .ok (.ireturn, 1) := by decide +kernel
theorem dX9_init_0 : decode cX9_init 0 = .ok (.aload_n 0, 1) := by decide +kernel
theorem dX9_init_1 : decode cX9_init 1 = .ok (.invokespecial 3, 3) := by decide +kernel
theorem dX9_init_4 : decode cX9_init 4 = .ok (.aload_n 0, 1) := by decide +kernel
theorem dX9_init_5 : decode cX9_init 5 = .ok (.iconst 0, 1) := by decide +kernel
theorem dX9_init_6 : decode cX9_init 6 = .ok (.putfield 9, 3) := by decide +kernel
theorem dX9_init_9 : decode cX9_init 9 = .ok (.aload_n 0, 1) := by decide +kernel
theorem dX9_init_10 : decode cX9_init 10 = .ok (.iconst 0, 1) := by decide +kernel
theorem dX9_init_11 : decode cX9_init 11 = .ok (.putfield 15, 3) := by decide +kernel
theorem dX9_init_14 : decode cX9_init 14 = .ok (.aload_n 0, 1) := by decide +kernel
theorem dX9_init_15 : decode cX9_init 15 = .ok (.new 18, 3) := by decide +kernel
theorem dX9_init_18 : decode cX9_init 18 = .ok (.dup, 1) := by decide +kernel
theorem dX9_init_19 : decode cX9_init 19 = .ok (.invokespecial 20, 3) := by decide +kernel
theorem dX9_init_22 : decode cX9_init 22 = .ok (.putfield 21, 3) := by decide +kernel
theorem dX9_init_25 : decode cX9_init 25 = .ok (.return_, 1) := by decide +kernel
theorem dX9_become_0 : decode cX9_become 0 = .ok (.aload_n 0, 1) := by decide +kernel
theorem dX9_become_1 : decode cX9_become 1 = .ok (.aload_n 1, 1) := by decide +kernel
theorem dX9_become_2 : decode cX9_become 2 = .ok (.getfield 9, 3) := by decide +kernel
theorem dX9_become_5 : decode cX9_become 5 = .ok (.putfield 9, 3) := by decide +kernel
theorem dX9_become_8 : decode cX9_become 8 = .ok (.aload_n 0, 1) := by decide +kernel
theorem dX9_become_9 : decode cX9_become 9 = .ok (.aload_n 1, 1) := by decide +kernel
theorem dX9_become_10 : decode cX9_become 10 = .ok (.getfield 15, 3) := by decide +kernel
theorem dX9_become_13 : decode cX9_become 13 = .ok (.putfield 15, 3) := by decide +kernel
theorem dX9_become_16 : decode cX9_become 16 = .ok (.aload_n 0, 1) := by decide +kernel
theorem dX9_become_17 : decode cX9_become 17 = .ok (.getfield 9, 3) := by decide +kernel
theorem dX9_become_20 : decode cX9_become 20 = .ok (.iconst 3, 1) := by decide +kernel
theorem dX9_become_21 : decode cX9_become 21 = .ok (.if_icmp .ne 14, 3) := by decide +kernel
theorem dX9_become_24 : decode cX9_become 24 = .ok (.aload_n 0, 1) := by decide +kernel
theorem dX9_become_25 : decode cX9_become 25 = .ok (.getfield 21, 3) := by decide +kernel
theorem dX9_become_28 : decode cX9_become 28 = .ok (.aload_n 1, 1) := by decide +kernel
theorem dX9_become_29 : decode cX9_become 29 = .ok (.getfield 21, 3) := by decide +kernel
theorem dX9_become_32 : decode cX9_become 32 = .ok (.invokevirtual 25, 3) := by decide +kernel
theorem dX9_become_35 : decode cX9_become 35 = .ok (.return_, 1) := by decide +kernel
theorem dJ6_bitCount_0f7a4_0 : decode cJ6_bitCount_0f7a4 0 = .ok (.iload_n 0, 1) := by decide +kernel
theorem dJ6_bitCount_0f7a4_1 : decode cJ6_bitCount_0f7a4 1 = .ok (.iload_n 0, 1) := by decide +kernel
theorem dJ6_bitCount_0f7a4_2 : decode cJ6_bitCount_0f7a4 2 = .ok (.iconst 1, 1) := by decide +kernel
theorem dJ6_bitCount_0f7a4_3 : decode cJ6_bitCount_0f7a4 3 = .ok (.iushr, 1) := by decide +kernel
theorem dJ6_bitCount_0f7a4_4 : decode cJ6_bitCount_0f7a4 4 = .ok (.ldc_w 265, 3) := by decide +kernel
theorem dJ6_bitCount_0f7a4_7 : decode cJ6_bitCount_0f7a4 7 = .ok (.iand, 1) := by decide +kernel
theorem dJ6_bitCount_0f7a4_8 : decode cJ6_bitCount_0f7a4 8 = .ok (.isub, 1) := by decide +kernel
theorem dJ6_bitCount_0f7a4_9 : decode cJ6_bitCount_0f7a4 9 = .ok (.istore_n 0, 1) := by decide +kernel
theorem dJ6_bitCount_0f7a4_10 : decode cJ6_bitCount_0f7a4 10 = .ok (.iload_n 0, 1) := by decide +kernel
theorem dJ6_bitCount_0f7a4_11 : decode cJ6_bitCount_0f7a4 11 = .ok (.ldc_w 266, 3) := by decide +kernel
theorem dJ6_bitCount_0f7a4_14 : decode cJ6_bitCount_0f7a4 14 = .ok (.iand, 1) := by decide +kernel
theorem dJ6_bitCount_0f7a4_15 : decode cJ6_bitCount_0f7a4 15 = .ok (.iload_n 0, 1) := by decide +kernel
theorem dJ6_bitCount_0f7a4_16 : decode cJ6_bitCount_0f7a4 16 = .ok (.iconst 2, 1) := by decide +kernel
theorem dJ6_bitCount_0f7a4_17 : decode cJ6_bitCount_0f7a4 17 = .ok (.iushr, 1) := by decide +kernel
theorem dJ6_bitCount_0f7a4_18 : decode cJ6_bitCount_0f7a4 18 = .ok (.ldc_w 266, 3) := by decide +kernel
theorem dJ6_bitCount_0f7a4_21 : decode cJ6_bitCount_0f7a4 21 = .ok (.iand, 1) := by decide +kernel
theorem dJ6_bitCount_0f7a4_22 : decode cJ6_bitCount_0f7a4 22 = .ok (.iadd, 1) := by decide +kernel
theorem dJ6_bitCount_0f7a4_23 : decode cJ6_bitCount_0f7a4 23 = .ok (.istore_n 0, 1) := by decide +kernel
theorem dJ6_bitCount_0f7a4_24 : decode cJ6_bitCount_0f7a4 24 = .ok (.iload_n 0, 1) := by decide +kernel
theorem dJ6_bitCount_0f7a4_25 : decode cJ6_bitCount_0f7a4 25 = .ok (.iload_n 0, 1) := by decide +kernel
theorem dJ6_bitCount_0f7a4_26 : decode cJ6_bitCount_0f7a4 26 = .ok (.iconst 4, 1) := by decide +kernel
theorem dJ6_bitCount_0f7a4_27 : decode cJ6_bitCount_0f7a4 27 = .ok (.iushr, 1) := by decide +kernel
theorem dJ6_bitCount_0f7a4_28 : decode cJ6_bitCount_0f7a4 28 = .ok (.iadd, 1) := by decide +kernel
theorem dJ6_bitCount_0f7a4_29 : decode cJ6_bitCount_0f7a4 29 = .ok (.ldc_w 267, 3) := by decide +kernel
theorem dJ6_bitCount_0f7a4_32 : decode cJ6_bitCount_0f7a4 32 = .ok (.iand, 1) := by decide +kernel
theorem dJ6_bitCount_0f7a4_33 : decode cJ6_bitCount_0f7a4 33 = .ok (.istore_n 0, 1) := by decide +kernel
theorem dJ6_bitCount_0f7a4_34 : decode cJ6_bitCount_0f7a4 34 = .ok (.iload_n 0, 1) := by decide +kernel
theorem dJ6_bitCount_0f7a4_35 : decode cJ6_bitCount_0f7a4 35 = .ok (.iload_n 0, 1) := by decide +kernel
theorem dJ6_bitCount_0f7a4_36 : decode cJ6_bitCount_0f7a4 36 = .ok (.bipush 8, 2) := by decide +kernel
theorem dJ6_bitCount_0f7a4_38 : decode cJ6_bitCount_0f7a4 38 = .ok (.iushr, 1) := by decide +kernel
theorem dJ6_bitCount_0f7a4_39 : decode cJ6_bitCount_0f7a4 39 = .ok (.iadd, 1) := by decide +kernel
theorem dJ6_bitCount_0f7a4_40 : decode cJ6_bitCount_0f7a4 40 = .ok (.istore_n 0, 1) := by decide +kernel
theorem dJ6_bitCount_0f7a4_41 : decode cJ6_bitCount_0f7a4 41 = .ok (.iload_n 0, 1) := by decide +kernel
theorem dJ6_bitCount_0f7a4_42 : decode cJ6_bitCount_0f7a4 42 = .ok (.iload_n 0, 1) := by decide +kernel
theorem dJ6_bitCount_0f7a4_43 : decode cJ6_bitCount_0f7a4 43 = .ok (.bipush 16, 2) := by decide +kernel
theorem dJ6_bitCount_0f7a4_45 : decode cJ6_bitCount_0f7a4 45 = .ok (.iushr, 1) := by decide +kernel
theorem dJ6_bitCount_0f7a4_46 : decode cJ6_bitCount_0f7a4 46 = .ok (.iadd, 1) := by decide +kernel
theorem dJ6_bitCount_0f7a4_47 : decode cJ6_bitCount_0f7a4 47 = .ok (.istore_n 0, 1) := by decide +kernel
theorem dJ6_bitCount_0f7a4_48 : decode cJ6_bitCount_0f7a4 48 = .ok (.iload_n 0, 1) := by decide +kernel
theorem dJ6_bitCount_0f7a4_49 : decode cJ6_bitCount_0f7a4 49 = .ok (.bipush 63, 2) := by decide +kernel
theorem dJ6_bitCount_0f7a4_51 : decode cJ6_bitCount_0f7a4 51 = .ok (.iand, 1) := by decide +kernel
theorem dJ6_bitCount_0f7a4_52 : decode cJ6_bitCount_0f7a4 52 = .ok (.ireturn, 1) := by decide +kernel
theorem dJ13_bitCount_95d88_0 : decode cJ13_bitCount_95d88 0 = .ok (.lload_n 0, 1) := by decide +kernel
theorem dJ13_bitCount_95d88_1 : decode cJ13_bitCount_95d88 1 = .ok (.lload_n 0, 1) := by decide +kernel
theorem dJ13_bitCount_95d88_2 : decode cJ13_bitCount_95d88 2 = .ok (.iconst 1, 1) := by decide +kernel
theorem dJ13_bitCount_95d88_3 : decode cJ13_bitCount_95d88 3 = .ok (.lushr, 1) := by decide +kernel
theorem dJ13_bitCount_95d88_4 : decode cJ13_bitCount_95d88 4 = .ok (.ldc2_w 314, 3) := by decide +kernel
theorem dJ13_bitCount_95d88_7 : decode cJ13_bitCount_95d88 7 = .ok (.land, 1) := by decide +kernel
theorem dJ13_bitCount_95d88_8 : decode cJ13_bitCount_95d88 8 = .ok (.lsub, 1) := by decide +kernel
theorem dJ13_bitCount_95d88_9 : decode cJ13_bitCount_95d88 9 = .ok (.lstore_n 0, 1) := by decide +kernel
theorem dJ13_bitCount_95d88_10 : decode cJ13_bitCount_95d88 10 = .ok (.lload_n 0, 1) := by decide +kernel
theorem dJ13_bitCount_95d88_11 : decode cJ13_bitCount_95d88 11 = .ok (.ldc2_w 316, 3) := by decide +kernel
theorem dJ13_bitCount_95d88_14 : decode cJ13_bitCount_95d88 14 = .ok (.land, 1) := by decide +kernel
theorem dJ13_bitCount_95d88_15 : decode cJ13_bitCount_95d88 15 = .ok (.lload_n 0, 1) := by decide +kernel
theorem dJ13_bitCount_95d88_16 : decode cJ13_bitCount_95d88 16 = .ok (.iconst 2, 1) := by decide +kernel
theorem dJ13_bitCount_95d88_17 : decode cJ13_bitCount_95d88 17 = .ok (.lushr, 1) := by decide +kernel
theorem dJ13_bitCount_95d88_18 : decode cJ13_bitCount_95d88 18 = .ok (.ldc2_w 316, 3) := by decide +kernel
theorem dJ13_bitCount_95d88_21 : decode cJ13_bitCount_95d88 21 = .ok (.land, 1) := by decide +kernel
theorem dJ13_bitCount_95d88_22 : decode cJ13_bitCount_95d88 22 = .ok (.ladd, 1) := by decide +kernel
theorem dJ13_bitCount_95d88_23 : decode cJ13_bitCount_95d88 23 = .ok (.lstore_n 0, 1) := by decide +kernel
theorem dJ13_bitCount_95d88_24 : decode cJ13_bitCount_95d88 24 = .ok (.lload_n 0, 1) := by decide +kernel
theorem dJ13_bitCount_95d88_25 : decode cJ13_bitCount_95d88 25 = .ok (.lload_n 0, 1) := by decide +kernel
theorem dJ13_bitCount_95d88_26 : decode cJ13_bitCount_95d88 26 = .ok (.iconst 4, 1) := by decide +kernel
theorem dJ13_bitCount_95d88_27 : decode cJ13_bitCount_95d88 27 = .ok (.lushr, 1) := by decide +kernel
theorem dJ13_bitCount_95d88_28 : decode cJ13_bitCount_95d88 28 = .ok (.ladd, 1) := by decide +kernel
theorem dJ13_bitCount_95d88_29 : decode cJ13_bitCount_95d88 29 = .ok (.ldc2_w 318, 3) := by decide +kernel
theorem dJ13_bitCount_95d88_32 : decode cJ13_bitCount_95d88 32 = .ok (.land, 1) := by decide +kernel
theorem dJ13_bitCount_95d88_33 : decode cJ13_bitCount_95d88 33 = .ok (.lstore_n 0, 1) := by decide +kernel
theorem dJ13_bitCount_95d88_34 : decode cJ13_bitCount_95d88 34 = .ok (.lload_n 0, 1) := by decide +kernel
theorem dJ13_bitCount_95d88_35 : decode cJ13_bitCount_95d88 35 = .ok (.lload_n 0, 1) := by decide +kernel
theorem dJ13_bitCount_95d88_36 : decode cJ13_bitCount_95d88 36 = .ok (.bipush 8, 2) := by decide +kernel
theorem dJ13_bitCount_95d88_38 : decode cJ13_bitCount_95d88 38 = .ok (.lushr, 1) := by decide +kernel
theorem dJ13_bitCount_95d88_39 : decode cJ13_bitCount_95d88 39 = .ok (.ladd, 1) := by decide +kernel
theorem dJ13_bitCount_95d88_40 : decode cJ13_bitCount_95d88 40 = .ok (.lstore_n 0, 1) := by decide +kernel
theorem dJ13_bitCount_95d88_41 : decode cJ13_bitCount_95d88 41 = .ok (.lload_n 0, 1) := by decide +kernel
theorem dJ13_bitCount_95d88_42 : decode cJ13_bitCount_95d88 42 = .ok (.lload_n 0, 1) := by decide +kernel
theorem dJ13_bitCount_95d88_43 : decode cJ13_bitCount_95d88 43 = .ok (.bipush 16, 2) := by decide +kernel
theorem dJ13_bitCount_95d88_45 : decode cJ13_bitCount_95d88 45 = .ok (.lushr, 1) := by decide +kernel
theorem dJ13_bitCount_95d88_46 : decode cJ13_bitCount_95d88 46 = .ok (.ladd, 1) := by decide +kernel
theorem dJ13_bitCount_95d88_47 : decode cJ13_bitCount_95d88 47 = .ok (.lstore_n 0, 1) := by decide +kernel
theorem dJ13_bitCount_95d88_48 : decode cJ13_bitCount_95d88 48 = .ok (.lload_n 0, 1) := by decide +kernel
theorem dJ13_bitCount_95d88_49 : decode cJ13_bitCount_95d88 49 = .ok (.lload_n 0, 1) := by decide +kernel
theorem dJ13_bitCount_95d88_50 : decode cJ13_bitCount_95d88 50 = .ok (.bipush 32, 2) := by decide +kernel
theorem dJ13_bitCount_95d88_52 : decode cJ13_bitCount_95d88 52 = .ok (.lushr, 1) := by decide +kernel
theorem dJ13_bitCount_95d88_53 : decode cJ13_bitCount_95d88 53 = .ok (.ladd, 1) := by decide +kernel
theorem dJ13_bitCount_95d88_54 : decode cJ13_bitCount_95d88 54 = .ok (.lstore_n 0, 1) := by decide +kernel
theorem dJ13_bitCount_95d88_55 : decode cJ13_bitCount_95d88 55 = .ok (.lload_n 0, 1) := by decide +kernel
theorem dJ13_bitCount_95d88_56 : decode cJ13_bitCount_95d88 56 = .ok (.l2i, 1) := by decide +kernel
theorem dJ13_bitCount_95d88_57 : decode cJ13_bitCount_95d88 57 = .ok (.bipush 127, 2) := by decide +kernel
theorem dJ13_bitCount_95d88_59 : decode cJ13_bitCount_95d88 59 = .ok (.iand, 1) := by decide +kernel
theorem dJ13_bitCount_95d88_60 : decode cJ13_bitCount_95d88 60 = .ok (.ireturn, 1) := by decide +kernel
theorem dJ9_max_7cf53_0 : decode cJ9_max_7cf53 0 = .ok (.iload_n 0, 1) := by decide +kernel
theorem dJ9_max_7cf53_1 : decode cJ9_max_7cf53 1 = .ok (.iload_n 1, 1) := by decide +kernel
theorem dJ9_max_7cf53_2 : decode cJ9_max_7cf53 2 = .ok (.if_icmp .lt 7, 3) := by decide +kernel
theorem dJ9_max_7cf53_5 : decode cJ9_max_7cf53 5 = .ok (.iload_n 0, 1) := by decide +kernel
theorem dJ9_max_7cf53_6 : decode cJ9_max_7cf53 6 = .ok (.goto 4, 3) := by decide +kernel
theorem dJ9_max_7cf53_9 : decode cJ9_max_7cf53 9 = .ok (.iload_n 1, 1) := by decide +kernel
theorem dJ9_max_7cf53_10 : decode cJ9_max_7cf53 10 = .ok (.ireturn, 1) := by decide +kernel
theorem dJ9_min_7cf53_0 : decode cJ9_min_7cf53 0 = .ok (.iload_n 0, 1) := by decide +kernel
theorem dJ9_min_7cf53_1 : decode cJ9_min_7cf53 1 = .ok (.iload_n 1, 1) := by decide +kernel
theorem dJ9_min_7cf53_2 : decode cJ9_min_7cf53 2 = .ok (.if_icmp .gt 7, 3) := by decide +kernel
theorem dJ9_min_7cf53_5 : decode cJ9_min_7cf53 5 = .ok (.iload_n 0, 1) := by decide +kernel
theorem dJ9_min_7cf53_6 : decode cJ9_min_7cf53 6 = .ok (.goto 4, 3) := by decide +kernel
theorem dJ9_min_7cf53_9 : decode cJ9_min_7cf53 9 = .ok (.iload_n 1, 1) := by decide +kernel
theorem dJ9_min_7cf53_10 : decode cJ9_min_7cf53 10 = .ok (.ireturn, 1) := by decide +kernel
