theorem dX10_init_0 : decode cX10_init 0 = .ok (.aload_n 0, 1) := by decide +kernel
theorem dX10_init_1 : decode cX10_init 1 = .ok (.invokespecial 1, 3) := by decide +kernel
theorem dX10_init_4 : decode cX10_init 4 = .ok (.aload_n 0, 1) := by decide +kernel
theorem dX10_init_5 : decode cX10_init 5 = .ok (.new 7, 3) := by decide +kernel
theorem dX10_init_8 : decode cX10_init 8 = .ok (.dup, 1) := by decide +kernel
theorem dX10_init_9 : decode cX10_init 9 = .ok (.invokespecial 9, 3) := by decide +kernel
theorem dX10_init_12 : decode cX10_init 12 = .ok (.putfield 10, 3) := by decide +kernel
theorem dX10_init_15 : decode cX10_init 15 = .ok (.aload_n 0, 1) := by decide +kernel
theorem dX10_init_16 : decode cX10_init 16 = .ok (.bipush 24, 2) := by decide +kernel
theorem dX10_init_18 : decode cX10_init 18 = .ok (.anewarray 16, 3) := by decide +kernel
theorem dX10_init_21 : decode cX10_init 21 = .ok (.putfield 18, 3) := by decide +kernel
theorem dX10_init_24 : decode cX10_init 24 = .ok (.aload_n 0, 1) := by decide +kernel
theorem dX10_init_25 : decode cX10_init 25 = .ok (.iconst 0, 1) := by decide +kernel
theorem dX10_init_26 : decode cX10_init 26 = .ok (.putfield 22, 3) := by decide +kernel
theorem dX10_init_29 : decode cX10_init 29 = .ok (.aload_n 0, 1) := by decide +kernel
theorem dX10_init_30 : decode cX10_init 30 = .ok (.bipush 120, 2) := by decide +kernel
theorem dX10_init_32 : decode cX10_init 32 = .ok (.newarray .int, 2) := by decide +kernel
theorem dX10_init_34 : decode cX10_init 34 = .ok (.putfield 26, 3) := by decide +kernel
theorem dX10_init_37 : decode cX10_init 37 = .ok (.aload_n 0, 1) := by decide +kernel
theorem dX10_init_38 : decode cX10_init 38 = .ok (.iconst 0, 1) := by decide +kernel
theorem dX10_init_39 : decode cX10_init 39 = .ok (.putfield 30, 3) := by decide +kernel
theorem dX10_init_42 : decode cX10_init 42 = .ok (.aload_n 0, 1) := by decide +kernel
theorem dX10_init_43 : decode cX10_init 43 = .ok (.new 33, 3) := by decide +kernel
theorem dX10_init_46 : decode cX10_init 46 = .ok (.dup, 1) := by decide +kernel
theorem dX10_init_47 : decode cX10_init 47 = .ok (.invokespecial 35, 3) := by decide +kernel
theorem dX10_init_50 : decode cX10_init 50 = .ok (.putfield 36, 3) := by decide +kernel
theorem dX10_init_53 : decode cX10_init 53 = .ok (.aload_n 0, 1) := by decide +kernel
theorem dX10_init_54 : decode cX10_init 54 = .ok (.bipush 16, 2) := by decide +kernel
theorem dX10_init_56 : decode cX10_init 56 = .ok (.anewarray 40, 3) := by decide +kernel
theorem dX10_init_59 : decode cX10_init 59 = .ok (.putfield 42, 3) := by decide +kernel
theorem dX10_init_62 : decode cX10_init 62 = .ok (.aload_n 0, 1) := by decide +kernel
theorem dX10_init_63 : decode cX10_init 63 = .ok (.new 46, 3) := by decide +kernel
theorem dX10_init_66 : decode cX10_init 66 = .ok (.dup, 1) := by decide +kernel
theorem dX10_init_67 : decode cX10_init 67 = .ok (.invokespecial 48, 3) := by decide +kernel
theorem dX10_init_70 : decode cX10_init 70 = .ok (.putfield 49, 3) := by decide +kernel
theorem dX10_init_73 : decode cX10_init 73 = .ok (.aload_n 0, 1) := by decide +kernel
theorem dX10_init_74 : decode cX10_init 74 = .ok (.new 53, 3) := by decide +kernel
theorem dX10_init_77 : decode cX10_init 77 = .ok (.dup, 1) := by decide +kernel
theorem dX10_init_78 : decode cX10_init 78 = .ok (.invokespecial 55, 3) := by decide +kernel
theorem dX10_init_81 : decode cX10_init 81 = .ok (.putfield 56, 3) := by decide +kernel
theorem dX10_init_84 : decode cX10_init 84 = .ok (.aload_n 0, 1) := by decide +kernel
theorem dX10_init_85 : decode cX10_init 85 = .ok (.new 60, 3) := by decide +kernel
theorem dX10_init_88 : decode cX10_init 88 = .ok (.dup, 1) := by decide +kernel
theorem dX10_init_89 : decode cX10_init 89 = .ok (.invokespecial 62, 3) := by decide +kernel
theorem dX10_init_92 : decode cX10_init 92 = .ok (.putfield 63, 3) := by decide +kernel
theorem dX10_init_95 : decode cX10_init 95 = .ok (.aload_n 0, 1) := by decide +kernel
theorem dX10_init_96 : decode cX10_init 96 = .ok (.new 67, 3) := by decide +kernel
theorem dX10_init_99 : decode cX10_init 99 = .ok (.dup, 1) := by decide +kernel
theorem dX10_init_100 : decode cX10_init 100 = .ok (.invokespecial 69, 3) := by decide +kernel
theorem dX10_init_103 : decode cX10_init 103 = .ok (.putfield 70, 3) := by decide +kernel
theorem dX10_init_106 : decode cX10_init 106 = .ok (.aload_n 0, 1) := by decide +kernel
theorem dX10_init_107 : decode cX10_init 107 = .ok (.iconst 0, 1) := by decide +kernel
theorem dX10_init_108 : decode cX10_init 108 = .ok (.putfield 74, 3) := by decide +kernel
theorem dX10_init_111 : decode cX10_init 111 = .ok (.iconst 0, 1) := by decide +kernel
theorem dX10_init_112 : decode cX10_init 112 = .ok (.istore_n 1, 1) := by decide +kernel
theorem dX10_init_113 : decode cX10_init 113 = .ok (.iload_n 1, 1) := by decide +kernel
theorem dX10_init_114 : decode cX10_init 114 = .ok (.bipush 24, 2) := by decide +kernel
theorem dX10_init_116 : decode cX10_init 116 = .ok (.if_icmp .ge 22, 3) := by decide +kernel
theorem dX10_init_119 : decode cX10_init 119 = .ok (.aload_n 0, 1) := by decide +kernel
theorem dX10_init_120 : decode cX10_init 120 = .ok (.getfield 18, 3) := by decide +kernel
theorem dX10_init_123 : decode cX10_init 123 = .ok (.iload_n 1, 1) := by decide +kernel
theorem dX10_init_124 : decode cX10_init 124 = .ok (.new 16, 3) := by decide +kernel
theorem dX10_init_127 : decode cX10_init 127 = .ok (.dup, 1) := by decide +kernel
theorem dX10_init_128 : decode cX10_init 128 = .ok (.invokespecial 77, 3) := by decide +kernel
theorem dX10_init_131 : decode cX10_init 131 = .ok (.aastore, 1) := by decide +kernel
theorem dX10_init_132 : decode cX10_init 132 = .ok (.iinc 1 1, 3) := by decide +kernel
theorem dX10_init_135 : decode cX10_init 135 = .ok (.goto (-22), 3) := by decide +kernel
theorem dX10_init_138 : decode cX10_init 138 = .ok (.iconst 0, 1) := by decide +kernel
theorem dX10_init_139 : decode cX10_init 139 = .ok (.istore_n 1, 1) := by decide +kernel
theorem dX10_init_140 : decode cX10_init 140 = .ok (.iload_n 1, 1) := by decide +kernel
theorem dX10_init_141 : decode cX10_init 141 = .ok (.bipush 16, 2) := by decide +kernel
theorem dX10_init_143 : decode cX10_init 143 = .ok (.if_icmp .ge 22, 3) := by decide +kernel
theorem dX10_init_146 : decode cX10_init 146 = .ok (.aload_n 0, 1) := by decide +kernel
theorem dX10_init_147 : decode cX10_init 147 = .ok (.getfield 42, 3) := by decide +kernel
theorem dX10_init_150 : decode cX10_init 150 = .ok (.iload_n 1, 1) := by decide +kernel
theorem dX10_init_151 : decode cX10_init 151 = .ok (.new 40, 3) := by decide +kernel
theorem dX10_init_154 : decode cX10_init 154 = .ok (.dup, 1) := by decide +kernel
theorem dX10_init_155 : decode cX10_init 155 = .ok (.invokespecial 78, 3) := by decide +kernel
theorem dX10_init_158 : decode cX10_init 158 = .ok (.aastore, 1) := by decide +kernel
theorem dX10_init_159 : decode cX10_init 159 = .ok (.iinc 1 1, 3) := by decide +kernel
theorem dX10_init_162 : decode cX10_init 162 = .ok (.goto (-22), 3) := by decide +kernel
theorem dX10_init_165 : decode cX10_init 165 = .ok (.return_, 1) := by decide +kernel
theorem dX10_keeper_0 : decode cX10_keeper 0 = .ok (.iload_n 1, 1) := by decide +kernel
theorem dX10_keeper_1 : decode cX10_keeper 1 = .ok (.iconst 1, 1) := by decide +kernel
theorem dX10_keeper_2 : decode cX10_keeper 2 = .ok (.if_icmp .lt 16, 3) := by decide +kernel
theorem dX10_keeper_5 : decode cX10_keeper 5 = .ok (.iload_n 1, 1) := by decide +kernel
theorem dX10_keeper_6 : decode cX10_keeper 6 = .ok (.bipush 100, 2) := by decide +kernel
theorem dX10_keeper_8 : decode cX10_keeper 8 = .ok (.if_icmp .gt 10, 3) := by decide +kernel
theorem dX10_keeper_11 : decode cX10_keeper 11 = .ok (.iload_n 2, 1) := by decide +kernel
theorem dX10_keeper_12 : decode cX10_keeper 12 = .ok (.invokestatic 79, 3) := by decide +kernel
theorem dX10_keeper_15 : decode cX10_keeper 15 = .ok (.ifCond .ne 9, 3) := by decide +kernel
theorem dX10_keeper_18 : decode cX10_keeper 18 = .ok (.aload_n 0, 1) := by decide +kernel
theorem dX10_keeper_19 : decode cX10_keeper 19 = .ok (.iconst 2, 1) := by decide +kernel
theorem dX10_keeper_20 : decode cX10_keeper 20 = .ok (.invokevirtual 83, 3) := by decide +kernel
theorem dX10_keeper_23 : decode cX10_keeper 23 = .ok (.ireturn, 1) := by decide +kernel
theorem dX10_keeper_24 : decode cX10_keeper 24 = .ok (.aload_n 0, 1) := by decide +kernel
theorem dX10_keeper_25 : decode cX10_keeper 25 = .ok (.getfield 10, 3) := by decide +kernel
theorem dX10_keeper_28 : decode cX10_keeper 28 = .ok (.getfield 87, 3) := by decide +kernel
theorem dX10_keeper_31 : decode cX10_keeper 31 = .ok (.istore_n 3, 1) := by decide +kernel
theorem dX10_keeper_32 : decode cX10_keeper 32 = .ok (.iload_n 3, 1) := by decide +kernel
theorem dX10_keeper_33 : decode cX10_keeper 33 = .ok (.ifCond .lt 9, 3) := by decide +kernel
theorem dX10_keeper_36 : decode cX10_keeper 36 = .ok (.iload_n 3, 1) := by decide +kernel
theorem dX10_keeper_37 : decode cX10_keeper 37 = .ok (.bipush 16, 2) := by decide +kernel
theorem dX10_keeper_39 : decode cX10_keeper 39 = .ok (.if_icmp .lt 9, 3) := by decide +kernel
theorem dX10_keeper_42 : decode cX10_keeper 42 = .ok (.aload_n 0, 1) := by decide +kernel
theorem dX10_keeper_43 : decode cX10_keeper 43 = .ok (.iconst 4, 1) := by decide +kernel
theorem dX10_keeper_44 : decode cX10_keeper 44 = .ok (.invokevirtual 83, 3) := by decide +kernel
theorem dX10_keeper_47 : decode cX10_keeper 47 = .ok (.ireturn, 1) := by decide +kernel
theorem dX10_keeper_48 : decode cX10_keeper 48 = .ok (.aload_n 0, 1) := by decide +kernel
theorem dX10_keeper_49 : decode cX10_keeper 49 = .ok (.getfield 10, 3) := by decide +kernel
theorem dX10_keeper_52 : decode cX10_keeper 52 = .ok (.getfield 90, 3) := by decide +kernel
theorem dX10_keeper_55 : decode cX10_keeper 55 = .ok (.iload_n 3, 1) := by decide +kernel
theorem dX10_keeper_56 : decode cX10_keeper 56 = .ok (.iload_n 1, 1) := by decide +kernel
theorem dX10_keeper_57 : decode cX10_keeper 57 = .ok (.iastore, 1) := by decide +kernel
theorem dX10_keeper_58 : decode cX10_keeper 58 = .ok (.aload_n 0, 1) := by decide +kernel
theorem dX10_keeper_59 : decode cX10_keeper 59 = .ok (.getfield 10, 3) := by decide +kernel
theorem dX10_keeper_62 : decode cX10_keeper 62 = .ok (.getfield 93, 3) := by decide +kernel
theorem dX10_keeper_65 : decode cX10_keeper 65 = .ok (.iload_n 3, 1) := by decide +kernel
theorem dX10_keeper_66 : decode cX10_keeper 66 = .ok (.iload_n 2, 1) := by decide +kernel
theorem dX10_keeper_67 : decode cX10_keeper 67 = .ok (.iastore, 1) := by decide +kernel
theorem dX10_keeper_68 : decode cX10_keeper 68 = .ok (.aload_n 0, 1) := by decide +kernel
theorem dX10_keeper_69 : decode cX10_keeper 69 = .ok (.getfield 10, 3) := by decide +kernel
theorem dX10_keeper_72 : decode cX10_keeper 72 = .ok (.getfield 96, 3) := by decide +kernel
theorem dX10_keeper_75 : decode cX10_keeper 75 = .ok (.iload_n 3, 1) := by decide +kernel
theorem dX10_keeper_76 : decode cX10_keeper 76 = .ok (.iconst 0, 1) := by decide +kernel
theorem dX10_keeper_77 : decode cX10_keeper 77 = .ok (.iastore, 1) := by decide +kernel
theorem dX10_keeper_78 : decode cX10_keeper 78 = .ok (.aload_n 0, 1) := by decide +kernel
theorem dX10_keeper_79 : decode cX10_keeper 79 = .ok (.getfield 10, 3) := by decide +kernel
theorem dX10_keeper_82 : decode cX10_keeper 82 = .ok (.iload_n 3, 1) := by decide +kernel
theorem dX10_keeper_83 : decode cX10_keeper 83 = .ok (.iconst 1, 1) := by decide +kernel
theorem dX10_keeper_84 : decode cX10_keeper 84 = .ok (.iadd, 1) := by decide +kernel
theorem dX10_keeper_85 : decode cX10_keeper 85 = .ok (.putfield 87, 3) := by decide +kernel
theorem dX10_keeper_88 : decode cX10_keeper 88 = .ok (.aload_n 0, 1) := by decide +kernel
theorem dX10_keeper_89 : decode cX10_keeper 89 = .ok (.getfield 49, 3) := by decide +kernel
theorem dX10_keeper_92 : decode cX10_keeper 92 = .ok (.iconst 0, 1) := by decide +kernel
theorem dX10_keeper_93 : decode cX10_keeper 93 = .ok (.iload_n 3, 1) := by decide +kernel
theorem dX10_keeper_94 : decode cX10_keeper 94 = .ok (.iconst 0, 1) := by decide +kernel
theorem dX10_keeper_95 : decode cX10_keeper 95 = .ok (.invokevirtual 99, 3) := by decide +kernel
theorem dX10_keeper_98 : decode cX10_keeper 98 = .ok (.pop, 1) := by decide +kernel
theorem dX10_keeper_99 : decode cX10_keeper 99 = .ok (.aload_n 0, 1) := by decide +kernel
theorem dX10_keeper_100 : decode cX10_keeper 100 = .ok (.iload_n 3, 1) := by decide +kernel
theorem dX10_keeper_101 : decode cX10_keeper 101 = .ok (.invokevirtual 103, 3) := by decide +kernel
theorem dX10_keeper_104 : decode cX10_keeper 104 = .ok (.ireturn, 1) := by decide +kernel
theorem dX10_tenths_0 : decode cX10_tenths 0 = .ok (.aload_n 0, 1) := by decide +kernel
theorem dX10_tenths_1 : decode cX10_tenths 1 = .ok (.getfield 10, 3) := by decide +kernel
theorem dX10_tenths_4 : decode cX10_tenths 4 = .ok (.iload_n 1, 1) := by decide +kernel
theorem dX10_tenths_5 : decode cX10_tenths 5 = .ok (.invokevirtual 106, 3) := by decide +kernel
theorem dX10_tenths_8 : decode cX10_tenths 8 = .ok (.ifCond .ne 9, 3) := by decide +kernel
theorem dX10_tenths_11 : decode cX10_tenths 11 = .ok (.aload_n 0, 1) := by decide +kernel
theorem dX10_tenths_12 : decode cX10_tenths 12 = .ok (.iconst 1, 1) := by decide +kernel
theorem dX10_tenths_13 : decode cX10_tenths 13 = .ok (.invokevirtual 109, 3) := by decide +kernel
theorem dX10_tenths_16 : decode cX10_tenths 16 = .ok (.ireturn, 1) := by decide +kernel
theorem dX10_tenths_17 : decode cX10_tenths 17 = .ok (.iload_n 2, 1) := by decide +kernel
theorem dX10_tenths_18 : decode cX10_tenths 18 = .ok (.invokestatic 79, 3) := by decide +kernel
theorem dX10_tenths_21 : decode cX10_tenths 21 = .ok (.ifCond .ne 9, 3) := by decide +kernel
theorem dX10_tenths_24 : decode cX10_tenths 24 = .ok (.aload_n 0, 1) := by decide +kernel
theorem dX10_tenths_25 : decode cX10_tenths 25 = .ok (.iconst 2, 1) := by decide +kernel
theorem dX10_tenths_26 : decode cX10_tenths 26 = .ok (.invokevirtual 109, 3) := by decide +kernel
theorem dX10_tenths_29 : decode cX10_tenths 29 = .ok (.ireturn, 1) := by decide +kernel
theorem dX10_tenths_30 : decode cX10_tenths 30 = .ok (.aload_n 0, 1) := by decide +kernel
theorem dX10_tenths_31 : decode cX10_tenths 31 = .ok (.getfield 49, 3) := by decide +kernel
theorem dX10_tenths_34 : decode cX10_tenths 34 = .ok (.iconst 1, 1) := by decide +kernel
theorem dX10_tenths_35 : decode cX10_tenths 35 = .ok (.iload_n 1, 1) := by decide +kernel
theorem dX10_tenths_36 : decode cX10_tenths 36 = .ok (.aload_n 0, 1) := by decide +kernel
theorem dX10_tenths_37 : decode cX10_tenths 37 = .ok (.getfield 10, 3) := by decide +kernel
theorem dX10_tenths_40 : decode cX10_tenths 40 = .ok (.getfield 93, 3) := by decide +kernel
theorem dX10_tenths_43 : decode cX10_tenths 43 = .ok (.iload_n 1, 1) := by decide +kernel
theorem dX10_tenths_44 : decode cX10_tenths 44 = .ok (.iaload, 1) := by decide +kernel
theorem dX10_tenths_45 : decode cX10_tenths 45 = .ok (.invokevirtual 99, 3) := by decide +kernel
theorem dX10_tenths_48 : decode cX10_tenths 48 = .ok (.pop, 1) := by decide +kernel
theorem dX10_tenths_49 : decode cX10_tenths 49 = .ok (.aload_n 0, 1) := by decide +kernel
theorem dX10_tenths_50 : decode cX10_tenths 50 = .ok (.getfield 10, 3) := by decide +kernel
theorem dX10_tenths_53 : decode cX10_tenths 53 = .ok (.getfield 93, 3) := by decide +kernel
theorem dX10_tenths_56 : decode cX10_tenths 56 = .ok (.iload_n 1, 1) := by decide +kernel
theorem dX10_tenths_57 : decode cX10_tenths 57 = .ok (.iload_n 2, 1) := by decide +kernel
theorem dX10_tenths_58 : decode cX10_tenths 58 = .ok (.iastore, 1) := by decide +kernel
theorem dX10_tenths_59 : decode cX10_tenths 59 = .ok (.aload_n 0, 1) := by decide +kernel
theorem dX10_tenths_60 : decode cX10_tenths 60 = .ok (.invokevirtual 112, 3) := by decide +kernel
theorem dX10_tenths_63 : decode cX10_tenths 63 = .ok (.ireturn, 1) := by decide +kernel
theorem dX10_keeperOf_0 : decode cX10_keeperOf 0 = .ok (.aload_n 0, 1) := by decide +kernel
theorem dX10_keeperOf_1 : decode cX10_keeperOf 1 = .ok (.getfield 10, 3) := by decide +kernel
theorem dX10_keeperOf_4 : decode cX10_keeperOf 4 = .ok (.iload_n 1, 1) := by decide +kernel
theorem dX10_keeperOf_5 : decode cX10_keeperOf 5 = .ok (.invokevirtual 106, 3) := by decide +kernel
theorem dX10_keeperOf_8 : decode cX10_keeperOf 8 = .ok (.ifCond .ne 5, 3) := by decide +kernel
theorem dX10_keeperOf_11 : decode cX10_keeperOf 11 = .ok (.iconst (-1), 1) := by decide +kernel
theorem dX10_keeperOf_12 : decode cX10_keeperOf 12 = .ok (.ireturn, 1) := by decide +kernel
theorem dX10_keeperOf_13 : decode cX10_keeperOf 13 = .ok (.iload_n 2, 1) := by decide +kernel
theorem dX10_keeperOf_14 : decode cX10_keeperOf 14 = .ok (.tableswitch 56 0 2 #[26, 36, 46], 26) := by decide +kernel
theorem dX10_keeperOf_40 : decode cX10_keeperOf 40 = .ok (.aload_n 0, 1) := by decide +kernel
theorem dX10_keeperOf_41 : decode cX10_keeperOf 41 = .ok (.getfield 10, 3) := by decide +kernel
theorem dX10_keeperOf_44 : decode cX10_keeperOf 44 = .ok (.getfield 90, 3) := by decide +kernel
theorem dX10_keeperOf_47 : decode cX10_keeperOf 47 = .ok (.iload_n 1, 1) := by decide +kernel
theorem dX10_keeperOf_48 : decode cX10_keeperOf 48 = .ok (.iaload, 1) := by decide +kernel
theorem dX10_keeperOf_49 : decode cX10_keeperOf 49 = .ok (.ireturn, 1) := by decide +kernel
theorem dX10_keeperOf_50 : decode cX10_keeperOf 50 = .ok (.aload_n 0, 1) := by decide +kernel
theorem dX10_keeperOf_51 : decode cX10_keeperOf 51 = .ok (.getfield 10, 3) := by decide +kernel
theorem dX10_keeperOf_54 : decode cX10_keeperOf 54 = .ok (.getfield 93, 3) := by decide +kernel
theorem dX10_keeperOf_57 : decode cX10_keeperOf 57 = .ok (.iload_n 1, 1) := by decide +kernel
theorem dX10_keeperOf_58 : decode cX10_keeperOf 58 = .ok (.iaload, 1) := by decide +kernel
theorem dX10_keeperOf_59 : decode cX10_keeperOf 59 = .ok (.ireturn, 1) := by decide +kernel
theorem dX10_keeperOf_60 : decode cX10_keeperOf 60 = .ok (.aload_n 0, 1) := by decide +kernel
theorem dX10_keeperOf_61 : decode cX10_keeperOf 61 = .ok (.getfield 10, 3) := by decide +kernel
theorem dX10_keeperOf_64 : decode cX10_keeperOf 64 = .ok (.getfield 96, 3) := by decide +kernel
theorem dX10_keeperOf_67 : decode cX10_keeperOf 67 = .ok (.iload_n 1, 1) := by decide +kernel
theorem dX10_keeperOf_68 : decode cX10_keeperOf 68 = .ok (.iaload, 1) := by decide +kernel
theorem dX10_keeperOf_69 : decode cX10_keeperOf 69 = .ok (.ireturn, 1) := by decide +kernel
theorem dX10_keeperOf_70 : decode cX10_keeperOf 70 = .ok (.iconst (-1), 1) := by decide +kernel
theorem dX10_keeperOf_71 : decode cX10_keeperOf 71 = .ok (.ireturn, 1) := by decide +kernel
theorem dX10_areTenths_0 : decode cX10_areTenths 0 = .ok (.iload_n 0, 1) := by decide +kernel
theorem dX10_areTenths_1 : decode cX10_areTenths 1 = .ok (.ifCond .lt 13, 3) := by decide +kernel
theorem dX10_areTenths_4 : decode cX10_areTenths 4 = .ok (.iload_n 0, 1) := by decide +kernel
theorem dX10_areTenths_5 : decode cX10_areTenths 5 = .ok (.bipush 10, 2) := by decide +kernel
theorem dX10_areTenths_7 : decode cX10_areTenths 7 = .ok (.if_icmp .gt 7, 3) := by decide +kernel
theorem dX10_areTenths_10 : decode cX10_areTenths 10 = .ok (.iconst 1, 1) := by decide +kernel
theorem dX10_areTenths_11 : decode cX10_areTenths 11 = .ok (.goto 4, 3) := by decide +kernel
theorem dX10_areTenths_14 : decode cX10_areTenths 14 = .ok (.iconst 0, 1) := by decide +kernel
theorem dX10_areTenths_15 : decode cX10_areTenths 15 = .ok (.ireturn, 1) := by decide +kernel
theorem dX10_list_0 : decode cX10_list 0 = .ok (.aload_n 0, 1) := by decide +kernel
theorem dX10_list_1 : decode cX10_list 1 = .ok (.getfield 10, 3) := by decide +kernel
theorem dX10_list_4 : decode cX10_list 4 = .ok (.iload_n 1, 1) := by decide +kernel
theorem dX10_list_5 : decode cX10_list 5 = .ok (.invokevirtual 116, 3) := by decide +kernel
theorem dX10_list_8 : decode cX10_list 8 = .ok (.ifCond .ne 9, 3) := by decide +kernel
theorem dX10_list_11 : decode cX10_list 11 = .ok (.aload_n 0, 1) := by decide +kernel
theorem dX10_list_12 : decode cX10_list 12 = .ok (.iconst 2, 1) := by decide +kernel
theorem dX10_list_13 : decode cX10_list 13 = .ok (.invokevirtual 83, 3) := by decide +kernel
theorem dX10_list_16 : decode cX10_list 16 = .ok (.ireturn, 1) := by decide +kernel
theorem dX10_list_17 : decode cX10_list 17 = .ok (.aload_n 0, 1) := by decide +kernel
theorem dX10_list_18 : decode cX10_list 18 = .ok (.getfield 30, 3) := by decide +kernel
theorem dX10_list_21 : decode cX10_list 21 = .ok (.ifCond .lt 12, 3) := by decide +kernel
theorem dX10_list_24 : decode cX10_list 24 = .ok (.aload_n 0, 1) := by decide +kernel
theorem dX10_list_25 : decode cX10_list 25 = .ok (.getfield 30, 3) := by decide +kernel
theorem dX10_list_28 : decode cX10_list 28 = .ok (.bipush 120, 2) := by decide +kernel
theorem dX10_list_30 : decode cX10_list 30 = .ok (.if_icmp .lt 9, 3) := by decide +kernel
theorem dX10_list_33 : decode cX10_list 33 = .ok (.aload_n 0, 1) := by decide +kernel
theorem dX10_list_34 : decode cX10_list 34 = .ok (.iconst 4, 1) := by decide +kernel
theorem dX10_list_35 : decode cX10_list 35 = .ok (.invokevirtual 83, 3) := by decide +kernel
theorem dX10_list_38 : decode cX10_list 38 = .ok (.ireturn, 1) := by decide +kernel
theorem dX10_list_39 : decode cX10_list 39 = .ok (.aload_n 0, 1) := by decide +kernel
theorem dX10_list_40 : decode cX10_list 40 = .ok (.getfield 26, 3) := by decide +kernel
theorem dX10_list_43 : decode cX10_list 43 = .ok (.aload_n 0, 1) := by decide +kernel
theorem dX10_list_44 : decode cX10_list 44 = .ok (.getfield 30, 3) := by decide +kernel
theorem dX10_list_47 : decode cX10_list 47 = .ok (.iload_n 1, 1) := by decide +kernel
theorem dX10_list_48 : decode cX10_list 48 = .ok (.iastore, 1) := by decide +kernel
theorem dX10_list_49 : decode cX10_list 49 = .ok (.aload_n 0, 1) := by decide +kernel
theorem dX10_list_50 : decode cX10_list 50 = .ok (.dup, 1) := by decide +kernel
theorem dX10_list_51 : decode cX10_list 51 = .ok (.getfield 30, 3) := by decide +kernel
theorem dX10_list_54 : decode cX10_list 54 = .ok (.iconst 1, 1) := by decide +kernel
theorem dX10_list_55 : decode cX10_list 55 = .ok (.iadd, 1) := by decide +kernel
theorem dX10_list_56 : decode cX10_list 56 = .ok (.putfield 30, 3) := by decide +kernel
theorem dX10_list_59 : decode cX10_list 59 = .ok (.aload_n 0, 1) := by decide +kernel
theorem dX10_list_60 : decode cX10_list 60 = .ok (.aload_n 0, 1) := by decide +kernel
theorem dX10_list_61 : decode cX10_list 61 = .ok (.getfield 30, 3) := by decide +kernel
theorem dX10_list_64 : decode cX10_list 64 = .ok (.invokevirtual 103, 3) := by decide +kernel
theorem dX10_list_67 : decode cX10_list 67 = .ok (.ireturn, 1) := by decide +kernel
theorem dX10_told_0 : decode cX10_told 0 = .ok (.aload_n 0, 1) := by decide +kernel
theorem dX10_told_1 : decode cX10_told 1 = .ok (.getfield 30, 3) := by decide +kernel
theorem dX10_told_4 : decode cX10_told 4 = .ok (.ifCond .ne 9, 3) := by decide +kernel
theorem dX10_told_7 : decode cX10_told 7 = .ok (.aload_n 0, 1) := by decide +kernel
theorem dX10_told_8 : decode cX10_told 8 = .ok (.iconst 5, 1) := by decide +kernel
theorem dX10_told_9 : decode cX10_told 9 = .ok (.invokevirtual 83, 3) := by decide +kernel
theorem dX10_told_12 : decode cX10_told 12 = .ok (.ireturn, 1) := by decide +kernel
theorem dX10_told_13 : decode cX10_told 13 = .ok (.aload_n 0, 1) := by decide +kernel
theorem dX10_told_14 : decode cX10_told 14 = .ok (.invokevirtual 119, 3) := by decide +kernel
theorem dX10_told_17 : decode cX10_told 17 = .ok (.ifCond .ne 9, 3) := by decide +kernel
theorem dX10_told_20 : decode cX10_told 20 = .ok (.aload_n 0, 1) := by decide +kernel
theorem dX10_told_21 : decode cX10_told 21 = .ok (.iconst 4, 1) := by decide +kernel
theorem dX10_told_22 : decode cX10_told 22 = .ok (.invokevirtual 83, 3) := by decide +kernel
theorem dX10_told_25 : decode cX10_told 25 = .ok (.ireturn, 1) := by decide +kernel
theorem dX10_told_26 : decode cX10_told 26 = .ok (.aload_n 0, 1) := by decide +kernel
theorem dX10_told_27 : decode cX10_told 27 = .ok (.getfield 63, 3) := by decide +kernel
theorem dX10_told_30 : decode cX10_told 30 = .ok (.aload_n 0, 1) := by decide +kernel
theorem dX10_told_31 : decode cX10_told 31 = .ok (.getfield 10, 3) := by decide +kernel
theorem dX10_told_34 : decode cX10_told 34 = .ok (.getfield 87, 3) := by decide +kernel
theorem dX10_told_37 : decode cX10_told 37 = .ok (.invokevirtual 122, 3) := by decide +kernel
theorem dX10_told_40 : decode cX10_told 40 = .ok (.iconst 0, 1) := by decide +kernel
theorem dX10_told_41 : decode cX10_told 41 = .ok (.istore_n 1, 1) := by decide +kernel
theorem dX10_told_42 : decode cX10_told 42 = .ok (.iload_n 1, 1) := by decide +kernel
theorem dX10_told_43 : decode cX10_told 43 = .ok (.aload_n 0, 1) := by decide +kernel
theorem dX10_told_44 : decode cX10_told 44 = .ok (.getfield 30, 3) := by decide +kernel
theorem dX10_told_47 : decode cX10_told 47 = .ok (.if_icmp .ge 31, 3) := by decide +kernel
theorem dX10_told_50 : decode cX10_told 50 = .ok (.iload_n 1, 1) := by decide +kernel
theorem dX10_told_51 : decode cX10_told 51 = .ok (.bipush 120, 2) := by decide +kernel
theorem dX10_told_53 : decode cX10_told 53 = .ok (.if_icmp .ge 25, 3) := by decide +kernel
theorem dX10_told_56 : decode cX10_told 56 = .ok (.aload_n 0, 1) := by decide +kernel
theorem dX10_told_57 : decode cX10_told 57 = .ok (.getfield 63, 3) := by decide +kernel
theorem dX10_told_60 : decode cX10_told 60 = .ok (.getfield 126, 3) := by decide +kernel
theorem dX10_told_63 : decode cX10_told 63 = .ok (.aload_n 0, 1) := by decide +kernel
theorem dX10_told_64 : decode cX10_told 64 = .ok (.getfield 26, 3) := by decide +kernel
theorem dX10_told_67 : decode cX10_told 67 = .ok (.iload_n 1, 1) := by decide +kernel
theorem dX10_told_68 : decode cX10_told 68 = .ok (.iaload, 1) := by decide +kernel
theorem dX10_told_69 : decode cX10_told 69 = .ok (.invokevirtual 130, 3) := by decide +kernel
theorem dX10_told_72 : decode cX10_told 72 = .ok (.iinc 1 1, 3) := by decide +kernel
theorem dX10_told_75 : decode cX10_told 75 = .ok (.goto (-33), 3) := by decide +kernel
theorem dX10_told_78 : decode cX10_told 78 = .ok (.aload_n 0, 1) := by decide +kernel
theorem dX10_told_79 : decode cX10_told 79 = .ok (.iconst 0, 1) := by decide +kernel
theorem dX10_told_80 : decode cX10_told 80 = .ok (.putfield 30, 3) := by decide +kernel
theorem dX10_told_83 : decode cX10_told 83 = .ok (.aload_n 0, 1) := by decide +kernel
theorem dX10_told_84 : decode cX10_told 84 = .ok (.iconst 0, 1) := by decide +kernel
theorem dX10_told_85 : decode cX10_told 85 = .ok (.invokevirtual 135, 3) := by decide +kernel
theorem dX10_told_88 : decode cX10_told 88 = .ok (.ireturn, 1) := by decide +kernel
theorem dX10_most_0 : decode cX10_most 0 = .ok (.aload_n 0, 1) := by decide +kernel
theorem dX10_most_1 : decode cX10_most 1 = .ok (.getfield 10, 3) := by decide +kernel
theorem dX10_most_4 : decode cX10_most 4 = .ok (.iload_n 1, 1) := by decide +kernel
theorem dX10_most_5 : decode cX10_most 5 = .ok (.invokevirtual 116, 3) := by decide +kernel
theorem dX10_most_8 : decode cX10_most 8 = .ok (.ifCond .ne 9, 3) := by decide +kernel
theorem dX10_most_11 : decode cX10_most 11 = .ok (.aload_n 0, 1) := by decide +kernel
theorem dX10_most_12 : decode cX10_most 12 = .ok (.iconst 2, 1) := by decide +kernel
theorem dX10_most_13 : decode cX10_most 13 = .ok (.invokevirtual 83, 3) := by decide +kernel
theorem dX10_most_16 : decode cX10_most 16 = .ok (.ireturn, 1) := by decide +kernel
theorem dX10_most_17 : decode cX10_most 17 = .ok (.aload_n 0, 1) := by decide +kernel
theorem dX10_most_18 : decode cX10_most 18 = .ok (.invokevirtual 119, 3) := by decide +kernel
theorem dX10_most_21 : decode cX10_most 21 = .ok (.ifCond .ne 9, 3) := by decide +kernel
theorem dX10_most_24 : decode cX10_most 24 = .ok (.aload_n 0, 1) := by decide +kernel
theorem dX10_most_25 : decode cX10_most 25 = .ok (.iconst 4, 1) := by decide +kernel
theorem dX10_most_26 : decode cX10_most 26 = .ok (.invokevirtual 83, 3) := by decide +kernel
theorem dX10_most_29 : decode cX10_most 29 = .ok (.ireturn, 1) := by decide +kernel
theorem dX10_most_30 : decode cX10_most 30 = .ok (.aload_n 0, 1) := by decide +kernel
theorem dX10_most_31 : decode cX10_most 31 = .ok (.getfield 63, 3) := by decide +kernel
theorem dX10_most_34 : decode cX10_most 34 = .ok (.aload_n 0, 1) := by decide +kernel
theorem dX10_most_35 : decode cX10_most 35 = .ok (.getfield 10, 3) := by decide +kernel
theorem dX10_most_38 : decode cX10_most 38 = .ok (.getfield 87, 3) := by decide +kernel
theorem dX10_most_41 : decode cX10_most 41 = .ok (.invokevirtual 122, 3) := by decide +kernel
theorem dX10_most_44 : decode cX10_most 44 = .ok (.aload_n 0, 1) := by decide +kernel
theorem dX10_most_45 : decode cX10_most 45 = .ok (.getfield 63, 3) := by decide +kernel
theorem dX10_most_48 : decode cX10_most 48 = .ok (.aload_n 0, 1) := by decide +kernel
theorem dX10_most_49 : decode cX10_most 49 = .ok (.getfield 10, 3) := by decide +kernel
theorem dX10_most_52 : decode cX10_most 52 = .ok (.iload_n 1, 1) := by decide +kernel
theorem dX10_most_53 : decode cX10_most 53 = .ok (.invokevirtual 138, 3) := by decide +kernel
theorem dX10_most_56 : decode cX10_most 56 = .ok (.aload_n 0, 1) := by decide +kernel
theorem dX10_most_57 : decode cX10_most 57 = .ok (.iconst 1, 1) := by decide +kernel
theorem dX10_most_58 : decode cX10_most 58 = .ok (.invokevirtual 135, 3) := by decide +kernel
theorem dX10_most_61 : decode cX10_most 61 = .ok (.ireturn, 1) := by decide +kernel
theorem dX10_grid_0 : decode cX10_grid 0 = .ok (.iload_n 1, 1) := by decide +kernel
theorem dX10_grid_1 : decode cX10_grid 1 = .ok (.iconst 1, 1) := by decide +kernel
theorem dX10_grid_2 : decode cX10_grid 2 = .ok (.if_icmp .lt 20, 3) := by decide +kernel
theorem dX10_grid_5 : decode cX10_grid 5 = .ok (.iload_n 1, 1) := by decide +kernel
theorem dX10_grid_6 : decode cX10_grid 6 = .ok (.bipush 16, 2) := by decide +kernel
theorem dX10_grid_8 : decode cX10_grid 8 = .ok (.if_icmp .gt 14, 3) := by decide +kernel
theorem dX10_grid_11 : decode cX10_grid 11 = .ok (.iload_n 2, 1) := by decide +kernel
theorem dX10_grid_12 : decode cX10_grid 12 = .ok (.iconst 1, 1) := by decide +kernel
theorem dX10_grid_13 : decode cX10_grid 13 = .ok (.if_icmp .lt 9, 3) := by decide +kernel
theorem dX10_grid_16 : decode cX10_grid 16 = .ok (.iload_n 2, 1) := by decide +kernel
theorem dX10_grid_17 : decode cX10_grid 17 = .ok (.bipush 16, 2) := by decide +kernel
theorem dX10_grid_19 : decode cX10_grid 19 = .ok (.if_icmp .le 9, 3) := by decide +kernel
theorem dX10_grid_22 : decode cX10_grid 22 = .ok (.aload_n 0, 1) := by decide +kernel
theorem dX10_grid_23 : decode cX10_grid 23 = .ok (.iconst 2, 1) := by decide +kernel
theorem dX10_grid_24 : decode cX10_grid 24 = .ok (.invokevirtual 83, 3) := by decide +kernel
theorem dX10_grid_27 : decode cX10_grid 27 = .ok (.ireturn, 1) := by decide +kernel
theorem dX10_grid_28 : decode cX10_grid 28 = .ok (.aload_n 0, 1) := by decide +kernel
theorem dX10_grid_29 : decode cX10_grid 29 = .ok (.getfield 63, 3) := by decide +kernel
theorem dX10_grid_32 : decode cX10_grid 32 = .ok (.invokevirtual 142, 3) := by decide +kernel
theorem dX10_grid_35 : decode cX10_grid 35 = .ok (.iconst 0, 1) := by decide +kernel
theorem dX10_grid_36 : decode cX10_grid 36 = .ok (.istore 4, 2) := by decide +kernel
theorem dX10_grid_38 : decode cX10_grid 38 = .ok (.iload 4, 2) := by decide +kernel
theorem dX10_grid_40 : decode cX10_grid 40 = .ok (.iload_n 1, 1) := by decide +kernel
theorem dX10_grid_41 : decode cX10_grid 41 = .ok (.if_icmp .ge 24, 3) := by decide +kernel
theorem dX10_grid_44 : decode cX10_grid 44 = .ok (.iload 4, 2) := by decide +kernel
theorem dX10_grid_46 : decode cX10_grid 46 = .ok (.bipush 16, 2) := by decide +kernel
theorem dX10_grid_48 : decode cX10_grid 48 = .ok (.if_icmp .ge 17, 3) := by decide +kernel
theorem dX10_grid_51 : decode cX10_grid 51 = .ok (.aload_n 0, 1) := by decide +kernel
theorem dX10_grid_52 : decode cX10_grid 52 = .ok (.getfield 63, 3) := by decide +kernel
theorem dX10_grid_55 : decode cX10_grid 55 = .ok (.iload_n 2, 1) := by decide +kernel
theorem dX10_grid_56 : decode cX10_grid 56 = .ok (.invokevirtual 145, 3) := by decide +kernel
theorem dX10_grid_59 : decode cX10_grid 59 = .ok (.iinc 4 1, 3) := by decide +kernel
theorem dX10_grid_62 : decode cX10_grid 62 = .ok (.goto (-24), 3) := by decide +kernel
theorem dX10_grid_65 : decode cX10_grid 65 = .ok (.aload_n 0, 1) := by decide +kernel
theorem dX10_grid_66 : decode cX10_grid 66 = .ok (.iload_n 3, 1) := by decide +kernel
theorem dX10_grid_67 : decode cX10_grid 67 = .ok (.iconst 2, 1) := by decide +kernel
theorem dX10_grid_68 : decode cX10_grid 68 = .ok (.invokevirtual 148, 3) := by decide +kernel
theorem dX10_grid_71 : decode cX10_grid 71 = .ok (.ireturn, 1) := by decide +kernel
theorem dX10_wall_0 : decode cX10_wall 0 = .ok (.iload_n 2, 1) := by decide +kernel
theorem dX10_wall_1 : decode cX10_wall 1 = .ok (.invokestatic 152, 3) := by decide +kernel
theorem dX10_wall_4 : decode cX10_wall 4 = .ok (.ifCond .eq 38, 3) := by decide +kernel
theorem dX10_wall_7 : decode cX10_wall 7 = .ok (.iload_n 3, 1) := by decide +kernel
theorem dX10_wall_8 : decode cX10_wall 8 = .ok (.invokestatic 152, 3) := by decide +kernel
theorem dX10_wall_11 : decode cX10_wall 11 = .ok (.ifCond .eq 31, 3) := by decide +kernel
theorem dX10_wall_14 : decode cX10_wall 14 = .ok (.iload 4, 2) := by decide +kernel
theorem dX10_wall_16 : decode cX10_wall 16 = .ok (.invokestatic 152, 3) := by decide +kernel
theorem dX10_wall_19 : decode cX10_wall 19 = .ok (.ifCond .eq 23, 3) := by decide +kernel
theorem dX10_wall_22 : decode cX10_wall 22 = .ok (.iload 5, 2) := by decide +kernel
theorem dX10_wall_24 : decode cX10_wall 24 = .ok (.invokestatic 152, 3) := by decide +kernel
theorem dX10_wall_27 : decode cX10_wall 27 = .ok (.ifCond .eq 15, 3) := by decide +kernel
theorem dX10_wall_30 : decode cX10_wall 30 = .ok (.iload 6, 2) := by decide +kernel
theorem dX10_wall_32 : decode cX10_wall 32 = .ok (.invokestatic 152, 3) := by decide +kernel
theorem dX10_wall_35 : decode cX10_wall 35 = .ok (.ifCond .eq 7, 3) := by decide +kernel
theorem dX10_wall_38 : decode cX10_wall 38 = .ok (.iconst 1, 1) := by decide +kernel
theorem dX10_wall_39 : decode cX10_wall 39 = .ok (.goto 4, 3) := by decide +kernel
theorem dX10_wall_42 : decode cX10_wall 42 = .ok (.iconst 0, 1) := by decide +kernel
theorem dX10_wall_43 : decode cX10_wall 43 = .ok (.istore 7, 2) := by decide +kernel
theorem dX10_wall_45 : decode cX10_wall 45 = .ok (.iload 7, 2) := by decide +kernel
theorem dX10_wall_47 : decode cX10_wall 47 = .ok (.ifCond .eq 7, 3) := by decide +kernel
theorem dX10_wall_50 : decode cX10_wall 50 = .ok (.iload_n 2, 1) := by decide +kernel
theorem dX10_wall_51 : decode cX10_wall 51 = .ok (.ifCond .ne 9, 3) := by decide +kernel
theorem dX10_wall_54 : decode cX10_wall 54 = .ok (.aload_n 0, 1) := by decide +kernel
theorem dX10_wall_55 : decode cX10_wall 55 = .ok (.iconst 2, 1) := by decide +kernel
theorem dX10_wall_56 : decode cX10_wall 56 = .ok (.invokevirtual 83, 3) := by decide +kernel
theorem dX10_wall_59 : decode cX10_wall 59 = .ok (.ireturn, 1) := by decide +kernel
theorem dX10_wall_60 : decode cX10_wall 60 = .ok (.aload_n 0, 1) := by decide +kernel
theorem dX10_wall_61 : decode cX10_wall 61 = .ok (.getfield 63, 3) := by decide +kernel
theorem dX10_wall_64 : decode cX10_wall 64 = .ok (.invokevirtual 142, 3) := by decide +kernel
theorem dX10_wall_67 : decode cX10_wall 67 = .ok (.aload_n 0, 1) := by decide +kernel
theorem dX10_wall_68 : decode cX10_wall 68 = .ok (.getfield 63, 3) := by decide +kernel
theorem dX10_wall_71 : decode cX10_wall 71 = .ok (.iload_n 2, 1) := by decide +kernel
theorem dX10_wall_72 : decode cX10_wall 72 = .ok (.invokevirtual 145, 3) := by decide +kernel
theorem dX10_wall_75 : decode cX10_wall 75 = .ok (.aload_n 0, 1) := by decide +kernel
theorem dX10_wall_76 : decode cX10_wall 76 = .ok (.getfield 63, 3) := by decide +kernel
theorem dX10_wall_79 : decode cX10_wall 79 = .ok (.iload_n 3, 1) := by decide +kernel
theorem dX10_wall_80 : decode cX10_wall 80 = .ok (.invokevirtual 145, 3) := by decide +kernel
theorem dX10_wall_83 : decode cX10_wall 83 = .ok (.aload_n 0, 1) := by decide +kernel
theorem dX10_wall_84 : decode cX10_wall 84 = .ok (.getfield 63, 3) := by decide +kernel
theorem dX10_wall_87 : decode cX10_wall 87 = .ok (.iload 4, 2) := by decide +kernel
theorem dX10_wall_89 : decode cX10_wall 89 = .ok (.invokevirtual 145, 3) := by decide +kernel
theorem dX10_wall_92 : decode cX10_wall 92 = .ok (.aload_n 0, 1) := by decide +kernel
theorem dX10_wall_93 : decode cX10_wall 93 = .ok (.getfield 63, 3) := by decide +kernel
theorem dX10_wall_96 : decode cX10_wall 96 = .ok (.iload 5, 2) := by decide +kernel
theorem dX10_wall_98 : decode cX10_wall 98 = .ok (.invokevirtual 145, 3) := by decide +kernel
theorem dX10_wall_101 : decode cX10_wall 101 = .ok (.aload_n 0, 1) := by decide +kernel
theorem dX10_wall_102 : decode cX10_wall 102 = .ok (.getfield 63, 3) := by decide +kernel
theorem dX10_wall_105 : decode cX10_wall 105 = .ok (.iload 6, 2) := by decide +kernel
theorem dX10_wall_107 : decode cX10_wall 107 = .ok (.invokevirtual 145, 3) := by decide +kernel
theorem dX10_wall_110 : decode cX10_wall 110 = .ok (.aload_n 0, 1) := by decide +kernel
theorem dX10_wall_111 : decode cX10_wall 111 = .ok (.iload_n 1, 1) := by decide +kernel
theorem dX10_wall_112 : decode cX10_wall 112 = .ok (.iconst 3, 1) := by decide +kernel
theorem dX10_wall_113 : decode cX10_wall 113 = .ok (.invokevirtual 148, 3) := by decide +kernel
theorem dX10_wall_116 : decode cX10_wall 116 = .ok (.ireturn, 1) := by decide +kernel
theorem dX10_tree_0 : decode cX10_tree 0 = .ok (.iload_n 1, 1) := by decide +kernel
theorem dX10_tree_1 : decode cX10_tree 1 = .ok (.iconst 1, 1) := by decide +kernel
theorem dX10_tree_2 : decode cX10_tree 2 = .ok (.if_icmp .lt 8, 3) := by decide +kernel
theorem dX10_tree_5 : decode cX10_tree 5 = .ok (.iload_n 1, 1) := by decide +kernel
theorem dX10_tree_6 : decode cX10_tree 6 = .ok (.iconst 4, 1) := by decide +kernel
theorem dX10_tree_7 : decode cX10_tree 7 = .ok (.if_icmp .le 9, 3) := by decide +kernel
theorem dX10_tree_10 : decode cX10_tree 10 = .ok (.aload_n 0, 1) := by decide +kernel
theorem dX10_tree_11 : decode cX10_tree 11 = .ok (.iconst 2, 1) := by decide +kernel
theorem dX10_tree_12 : decode cX10_tree 12 = .ok (.invokevirtual 83, 3) := by decide +kernel
theorem dX10_tree_15 : decode cX10_tree 15 = .ok (.ireturn, 1) := by decide +kernel
theorem dX10_tree_16 : decode cX10_tree 16 = .ok (.iconst 1, 1) := by decide +kernel
theorem dX10_tree_17 : decode cX10_tree 17 = .ok (.iload_n 1, 1) := by decide +kernel
theorem dX10_tree_18 : decode cX10_tree 18 = .ok (.ishl, 1) := by decide +kernel
theorem dX10_tree_19 : decode cX10_tree 19 = .ok (.iconst 1, 1) := by decide +kernel
theorem dX10_tree_20 : decode cX10_tree 20 = .ok (.isub, 1) := by decide +kernel
theorem dX10_tree_21 : decode cX10_tree 21 = .ok (.istore_n 3, 1) := by decide +kernel
theorem dX10_tree_22 : decode cX10_tree 22 = .ok (.aload_n 0, 1) := by decide +kernel
theorem dX10_tree_23 : decode cX10_tree 23 = .ok (.getfield 10, 3) := by decide +kernel
theorem dX10_tree_26 : decode cX10_tree 26 = .ok (.iload_n 2, 1) := by decide +kernel
theorem dX10_tree_27 : decode cX10_tree 27 = .ok (.iload_n 3, 1) := by decide +kernel
theorem dX10_tree_28 : decode cX10_tree 28 = .ok (.invokevirtual 155, 3) := by decide +kernel
theorem dX10_tree_31 : decode cX10_tree 31 = .ok (.ifCond .ne 9, 3) := by decide +kernel
theorem dX10_tree_34 : decode cX10_tree 34 = .ok (.aload_n 0, 1) := by decide +kernel
theorem dX10_tree_35 : decode cX10_tree 35 = .ok (.iconst 1, 1) := by decide +kernel
theorem dX10_tree_36 : decode cX10_tree 36 = .ok (.invokevirtual 83, 3) := by decide +kernel
theorem dX10_tree_39 : decode cX10_tree 39 = .ok (.ireturn, 1) := by decide +kernel
theorem dX10_tree_40 : decode cX10_tree 40 = .ok (.aload_n 0, 1) := by decide +kernel
theorem dX10_tree_41 : decode cX10_tree 41 = .ok (.invokevirtual 119, 3) := by decide +kernel
theorem dX10_tree_44 : decode cX10_tree 44 = .ok (.ifCond .ne 9, 3) := by decide +kernel
theorem dX10_tree_47 : decode cX10_tree 47 = .ok (.aload_n 0, 1) := by decide +kernel
theorem dX10_tree_48 : decode cX10_tree 48 = .ok (.iconst 4, 1) := by decide +kernel
theorem dX10_tree_49 : decode cX10_tree 49 = .ok (.invokevirtual 83, 3) := by decide +kernel
theorem dX10_tree_52 : decode cX10_tree 52 = .ok (.ireturn, 1) := by decide +kernel
theorem dX10_tree_53 : decode cX10_tree 53 = .ok (.aload_n 0, 1) := by decide +kernel
theorem dX10_tree_54 : decode cX10_tree 54 = .ok (.getfield 63, 3) := by decide +kernel
theorem dX10_tree_57 : decode cX10_tree 57 = .ok (.aload_n 0, 1) := by decide +kernel
theorem dX10_tree_58 : decode cX10_tree 58 = .ok (.getfield 10, 3) := by decide +kernel
theorem dX10_tree_61 : decode cX10_tree 61 = .ok (.getfield 87, 3) := by decide +kernel
theorem dX10_tree_64 : decode cX10_tree 64 = .ok (.invokevirtual 122, 3) := by decide +kernel
theorem dX10_tree_67 : decode cX10_tree 67 = .ok (.aload_n 0, 1) := by decide +kernel
theorem dX10_tree_68 : decode cX10_tree 68 = .ok (.getfield 63, 3) := by decide +kernel
theorem dX10_tree_71 : decode cX10_tree 71 = .ok (.iload_n 3, 1) := by decide +kernel
theorem dX10_tree_72 : decode cX10_tree 72 = .ok (.iload_n 2, 1) := by decide +kernel
theorem dX10_tree_73 : decode cX10_tree 73 = .ok (.invokevirtual 159, 3) := by decide +kernel
theorem dX10_tree_76 : decode cX10_tree 76 = .ok (.aload_n 0, 1) := by decide +kernel
theorem dX10_tree_77 : decode cX10_tree 77 = .ok (.iconst 4, 1) := by decide +kernel
theorem dX10_tree_78 : decode cX10_tree 78 = .ok (.invokevirtual 135, 3) := by decide +kernel
theorem dX10_tree_81 : decode cX10_tree 81 = .ok (.ireturn, 1) := by decide +kernel
theorem dX10_plane_0 : decode cX10_plane 0 = .ok (.iload_n 1, 1) := by decide +kernel
theorem dX10_plane_1 : decode cX10_plane 1 = .ok (.iconst 2, 1) := by decide +kernel
theorem dX10_plane_2 : decode cX10_plane 2 = .ok (.if_icmp .eq 14, 3) := by decide +kernel
theorem dX10_plane_5 : decode cX10_plane 5 = .ok (.iload_n 1, 1) := by decide +kernel
theorem dX10_plane_6 : decode cX10_plane 6 = .ok (.iconst 3, 1) := by decide +kernel
theorem dX10_plane_7 : decode cX10_plane 7 = .ok (.if_icmp .eq 9, 3) := by decide +kernel
theorem dX10_plane_10 : decode cX10_plane 10 = .ok (.aload_n 0, 1) := by decide +kernel
theorem dX10_plane_11 : decode cX10_plane 11 = .ok (.iconst 2, 1) := by decide +kernel
theorem dX10_plane_12 : decode cX10_plane 12 = .ok (.invokevirtual 83, 3) := by decide +kernel
theorem dX10_plane_15 : decode cX10_plane 15 = .ok (.ireturn, 1) := by decide +kernel
theorem dX10_plane_16 : decode cX10_plane 16 = .ok (.iload_n 1, 1) := by decide +kernel
theorem dX10_plane_17 : decode cX10_plane 17 = .ok (.iconst 2, 1) := by decide +kernel
theorem dX10_plane_18 : decode cX10_plane 18 = .ok (.if_icmp .ne 8, 3) := by decide +kernel
theorem dX10_plane_21 : decode cX10_plane 21 = .ok (.bipush 7, 2) := by decide +kernel
theorem dX10_plane_23 : decode cX10_plane 23 = .ok (.goto 5, 3) := by decide +kernel
theorem dX10_plane_26 : decode cX10_plane 26 = .ok (.bipush 13, 2) := by decide +kernel
theorem dX10_plane_28 : decode cX10_plane 28 = .ok (.istore_n 3, 1) := by decide +kernel
theorem dX10_plane_29 : decode cX10_plane 29 = .ok (.aload_n 0, 1) := by decide +kernel
theorem dX10_plane_30 : decode cX10_plane 30 = .ok (.getfield 10, 3) := by decide +kernel
theorem dX10_plane_33 : decode cX10_plane 33 = .ok (.iload_n 2, 1) := by decide +kernel
theorem dX10_plane_34 : decode cX10_plane 34 = .ok (.iload_n 3, 1) := by decide +kernel
theorem dX10_plane_35 : decode cX10_plane 35 = .ok (.invokevirtual 155, 3) := by decide +kernel
theorem dX10_plane_38 : decode cX10_plane 38 = .ok (.ifCond .ne 9, 3) := by decide +kernel
theorem dX10_plane_41 : decode cX10_plane 41 = .ok (.aload_n 0, 1) := by decide +kernel
theorem dX10_plane_42 : decode cX10_plane 42 = .ok (.iconst 1, 1) := by decide +kernel
theorem dX10_plane_43 : decode cX10_plane 43 = .ok (.invokevirtual 83, 3) := by decide +kernel
theorem dX10_plane_46 : decode cX10_plane 46 = .ok (.ireturn, 1) := by decide +kernel
theorem dX10_plane_47 : decode cX10_plane 47 = .ok (.aload_n 0, 1) := by decide +kernel
theorem dX10_plane_48 : decode cX10_plane 48 = .ok (.invokevirtual 119, 3) := by decide +kernel
theorem dX10_plane_51 : decode cX10_plane 51 = .ok (.ifCond .ne 9, 3) := by decide +kernel
theorem dX10_plane_54 : decode cX10_plane 54 = .ok (.aload_n 0, 1) := by decide +kernel
theorem dX10_plane_55 : decode cX10_plane 55 = .ok (.iconst 4, 1) := by decide +kernel
theorem dX10_plane_56 : decode cX10_plane 56 = .ok (.invokevirtual 83, 3) := by decide +kernel
theorem dX10_plane_59 : decode cX10_plane 59 = .ok (.ireturn, 1) := by decide +kernel
theorem dX10_plane_60 : decode cX10_plane 60 = .ok (.aload_n 0, 1) := by decide +kernel
theorem dX10_plane_61 : decode cX10_plane 61 = .ok (.getfield 63, 3) := by decide +kernel
theorem dX10_plane_64 : decode cX10_plane 64 = .ok (.aload_n 0, 1) := by decide +kernel
theorem dX10_plane_65 : decode cX10_plane 65 = .ok (.getfield 10, 3) := by decide +kernel
theorem dX10_plane_68 : decode cX10_plane 68 = .ok (.getfield 87, 3) := by decide +kernel
theorem dX10_plane_71 : decode cX10_plane 71 = .ok (.invokevirtual 122, 3) := by decide +kernel
theorem dX10_plane_74 : decode cX10_plane 74 = .ok (.aload_n 0, 1) := by decide +kernel
theorem dX10_plane_75 : decode cX10_plane 75 = .ok (.getfield 63, 3) := by decide +kernel
theorem dX10_plane_78 : decode cX10_plane 78 = .ok (.iload_n 3, 1) := by decide +kernel
theorem dX10_plane_79 : decode cX10_plane 79 = .ok (.iload_n 2, 1) := by decide +kernel
theorem dX10_plane_80 : decode cX10_plane 80 = .ok (.invokevirtual 163, 3) := by decide +kernel
theorem dX10_plane_83 : decode cX10_plane 83 = .ok (.aload_n 0, 1) := by decide +kernel
theorem dX10_plane_84 : decode cX10_plane 84 = .ok (.iconst 5, 1) := by decide +kernel
theorem dX10_plane_85 : decode cX10_plane 85 = .ok (.invokevirtual 135, 3) := by decide +kernel
theorem dX10_plane_88 : decode cX10_plane 88 = .ok (.ireturn, 1) := by decide +kernel
theorem dX10_join_0 : decode cX10_join 0 = .ok (.aload_n 0, 1) := by decide +kernel
theorem dX10_join_1 : decode cX10_join 1 = .ok (.iload_n 1, 1) := by decide +kernel
theorem dX10_join_2 : decode cX10_join 2 = .ok (.invokevirtual 166, 3) := by decide +kernel
theorem dX10_join_5 : decode cX10_join 5 = .ok (.astore 4, 2) := by decide +kernel
theorem dX10_join_7 : decode cX10_join 7 = .ok (.aload_n 0, 1) := by decide +kernel
theorem dX10_join_8 : decode cX10_join 8 = .ok (.iload_n 3, 1) := by decide +kernel
theorem dX10_join_9 : decode cX10_join 9 = .ok (.invokevirtual 166, 3) := by decide +kernel
theorem dX10_join_12 : decode cX10_join 12 = .ok (.astore 5, 2) := by decide +kernel
theorem dX10_join_14 : decode cX10_join 14 = .ok (.aload 4, 2) := by decide +kernel
theorem dX10_join_16 : decode cX10_join 16 = .ok (.ifnull 19, 3) := by decide +kernel
theorem dX10_join_19 : decode cX10_join 19 = .ok (.aload 5, 2) := by decide +kernel
theorem dX10_join_21 : decode cX10_join 21 = .ok (.ifnull 14, 3) := by decide +kernel
theorem dX10_join_24 : decode cX10_join 24 = .ok (.aload_n 0, 1) := by decide +kernel
theorem dX10_join_25 : decode cX10_join 25 = .ok (.getfield 10, 3) := by decide +kernel
theorem dX10_join_28 : decode cX10_join 28 = .ok (.iload_n 2, 1) := by decide +kernel
theorem dX10_join_29 : decode cX10_join 29 = .ok (.invokevirtual 106, 3) := by decide +kernel
theorem dX10_join_32 : decode cX10_join 32 = .ok (.ifCond .ne 9, 3) := by decide +kernel
theorem dX10_join_35 : decode cX10_join 35 = .ok (.aload_n 0, 1) := by decide +kernel
theorem dX10_join_36 : decode cX10_join 36 = .ok (.iconst 1, 1) := by decide +kernel
theorem dX10_join_37 : decode cX10_join 37 = .ok (.invokevirtual 83, 3) := by decide +kernel
theorem dX10_join_40 : decode cX10_join 40 = .ok (.ireturn, 1) := by decide +kernel
theorem dX10_join_41 : decode cX10_join 41 = .ok (.aload_n 0, 1) := by decide +kernel
theorem dX10_join_42 : decode cX10_join 42 = .ok (.invokevirtual 119, 3) := by decide +kernel
theorem dX10_join_45 : decode cX10_join 45 = .ok (.ifCond .ne 9, 3) := by decide +kernel
theorem dX10_join_48 : decode cX10_join 48 = .ok (.aload_n 0, 1) := by decide +kernel
theorem dX10_join_49 : decode cX10_join 49 = .ok (.iconst 4, 1) := by decide +kernel
theorem dX10_join_50 : decode cX10_join 50 = .ok (.invokevirtual 83, 3) := by decide +kernel
theorem dX10_join_53 : decode cX10_join 53 = .ok (.ireturn, 1) := by decide +kernel
theorem dX10_join_54 : decode cX10_join 54 = .ok (.aload_n 0, 1) := by decide +kernel
theorem dX10_join_55 : decode cX10_join 55 = .ok (.getfield 63, 3) := by decide +kernel
theorem dX10_join_58 : decode cX10_join 58 = .ok (.aload_n 0, 1) := by decide +kernel
theorem dX10_join_59 : decode cX10_join 59 = .ok (.getfield 10, 3) := by decide +kernel
theorem dX10_join_62 : decode cX10_join 62 = .ok (.getfield 87, 3) := by decide +kernel
theorem dX10_join_65 : decode cX10_join 65 = .ok (.invokevirtual 122, 3) := by decide +kernel
theorem dX10_join_68 : decode cX10_join 68 = .ok (.aload_n 0, 1) := by decide +kernel
theorem dX10_join_69 : decode cX10_join 69 = .ok (.getfield 63, 3) := by decide +kernel
theorem dX10_join_72 : decode cX10_join 72 = .ok (.aload 4, 2) := by decide +kernel
theorem dX10_join_74 : decode cX10_join 74 = .ok (.iload_n 2, 1) := by decide +kernel
theorem dX10_join_75 : decode cX10_join 75 = .ok (.aload 5, 2) := by decide +kernel
theorem dX10_join_77 : decode cX10_join 77 = .ok (.invokevirtual 170, 3) := by decide +kernel
theorem dX10_join_80 : decode cX10_join 80 = .ok (.aload_n 0, 1) := by decide +kernel
theorem dX10_join_81 : decode cX10_join 81 = .ok (.bipush 6, 2) := by decide +kernel
theorem dX10_join_83 : decode cX10_join 83 = .ok (.invokevirtual 135, 3) := by decide +kernel
theorem dX10_join_86 : decode cX10_join 86 = .ok (.ireturn, 1) := by decide +kernel
theorem dX10_dual_0 : decode cX10_dual 0 = .ok (.aload_n 0, 1) := by decide +kernel
theorem dX10_dual_1 : decode cX10_dual 1 = .ok (.iload_n 1, 1) := by decide +kernel
theorem dX10_dual_2 : decode cX10_dual 2 = .ok (.invokevirtual 166, 3) := by decide +kernel
theorem dX10_dual_5 : decode cX10_dual 5 = .ok (.astore_n 2, 1) := by decide +kernel
theorem dX10_dual_6 : decode cX10_dual 6 = .ok (.aload_n 2, 1) := by decide +kernel
theorem dX10_dual_7 : decode cX10_dual 7 = .ok (.ifnonnull 9, 3) := by decide +kernel
theorem dX10_dual_10 : decode cX10_dual 10 = .ok (.aload_n 0, 1) := by decide +kernel
theorem dX10_dual_11 : decode cX10_dual 11 = .ok (.iconst 1, 1) := by decide +kernel
theorem dX10_dual_12 : decode cX10_dual 12 = .ok (.invokevirtual 83, 3) := by decide +kernel
theorem dX10_dual_15 : decode cX10_dual 15 = .ok (.ireturn, 1) := by decide +kernel
theorem dX10_dual_16 : decode cX10_dual 16 = .ok (.aload_n 0, 1) := by decide +kernel
theorem dX10_dual_17 : decode cX10_dual 17 = .ok (.invokevirtual 119, 3) := by decide +kernel
theorem dX10_dual_20 : decode cX10_dual 20 = .ok (.ifCond .ne 9, 3) := by decide +kernel
theorem dX10_dual_23 : decode cX10_dual 23 = .ok (.aload_n 0, 1) := by decide +kernel
theorem dX10_dual_24 : decode cX10_dual 24 = .ok (.iconst 4, 1) := by decide +kernel
theorem dX10_dual_25 : decode cX10_dual 25 = .ok (.invokevirtual 83, 3) := by decide +kernel
theorem dX10_dual_28 : decode cX10_dual 28 = .ok (.ireturn, 1) := by decide +kernel
theorem dX10_dual_29 : decode cX10_dual 29 = .ok (.aload_n 0, 1) := by decide +kernel
theorem dX10_dual_30 : decode cX10_dual 30 = .ok (.getfield 63, 3) := by decide +kernel
theorem dX10_dual_33 : decode cX10_dual 33 = .ok (.aload_n 0, 1) := by decide +kernel
theorem dX10_dual_34 : decode cX10_dual 34 = .ok (.getfield 10, 3) := by decide +kernel
theorem dX10_dual_37 : decode cX10_dual 37 = .ok (.getfield 87, 3) := by decide +kernel
theorem dX10_dual_40 : decode cX10_dual 40 = .ok (.invokevirtual 122, 3) := by decide +kernel
theorem dX10_dual_43 : decode cX10_dual 43 = .ok (.aload_n 0, 1) := by decide +kernel
theorem dX10_dual_44 : decode cX10_dual 44 = .ok (.getfield 63, 3) := by decide +kernel
theorem dX10_dual_47 : decode cX10_dual 47 = .ok (.aload_n 2, 1) := by decide +kernel
theorem dX10_dual_48 : decode cX10_dual 48 = .ok (.invokevirtual 174, 3) := by decide +kernel
theorem dX10_dual_51 : decode cX10_dual 51 = .ok (.aload_n 0, 1) := by decide +kernel
theorem dX10_dual_52 : decode cX10_dual 52 = .ok (.bipush 7, 2) := by decide +kernel
theorem dX10_dual_54 : decode cX10_dual 54 = .ok (.invokevirtual 178, 3) := by decide +kernel
theorem dX10_dual_57 : decode cX10_dual 57 = .ok (.ireturn, 1) := by decide +kernel
theorem dX10_thin_0 : decode cX10_thin 0 = .ok (.aload_n 0, 1) := by decide +kernel
theorem dX10_thin_1 : decode cX10_thin 1 = .ok (.iload_n 1, 1) := by decide +kernel
theorem dX10_thin_2 : decode cX10_thin 2 = .ok (.invokevirtual 166, 3) := by decide +kernel
theorem dX10_thin_5 : decode cX10_thin 5 = .ok (.astore_n 3, 1) := by decide +kernel
theorem dX10_thin_6 : decode cX10_thin 6 = .ok (.aload_n 3, 1) := by decide +kernel
theorem dX10_thin_7 : decode cX10_thin 7 = .ok (.ifnonnull 9, 3) := by decide +kernel
theorem dX10_thin_10 : decode cX10_thin 10 = .ok (.aload_n 0, 1) := by decide +kernel
theorem dX10_thin_11 : decode cX10_thin 11 = .ok (.iconst 1, 1) := by decide +kernel
theorem dX10_thin_12 : decode cX10_thin 12 = .ok (.invokevirtual 83, 3) := by decide +kernel
theorem dX10_thin_15 : decode cX10_thin 15 = .ok (.ireturn, 1) := by decide +kernel
theorem dX10_thin_16 : decode cX10_thin 16 = .ok (.aload_n 0, 1) := by decide +kernel
theorem dX10_thin_17 : decode cX10_thin 17 = .ok (.invokevirtual 119, 3) := by decide +kernel
theorem dX10_thin_20 : decode cX10_thin 20 = .ok (.ifCond .ne 9, 3) := by decide +kernel
theorem dX10_thin_23 : decode cX10_thin 23 = .ok (.aload_n 0, 1) := by decide +kernel
theorem dX10_thin_24 : decode cX10_thin 24 = .ok (.iconst 4, 1) := by decide +kernel
theorem dX10_thin_25 : decode cX10_thin 25 = .ok (.invokevirtual 83, 3) := by decide +kernel
theorem dX10_thin_28 : decode cX10_thin 28 = .ok (.ireturn, 1) := by decide +kernel
theorem dX10_thin_29 : decode cX10_thin 29 = .ok (.aload_n 3, 1) := by decide +kernel
theorem dX10_thin_30 : decode cX10_thin 30 = .ok (.iload_n 2, 1) := by decide +kernel
theorem dX10_thin_31 : decode cX10_thin 31 = .ok (.invokevirtual 181, 3) := by decide +kernel
theorem dX10_thin_34 : decode cX10_thin 34 = .ok (.ifCond .ne 9, 3) := by decide +kernel
theorem dX10_thin_37 : decode cX10_thin 37 = .ok (.aload_n 0, 1) := by decide +kernel
theorem dX10_thin_38 : decode cX10_thin 38 = .ok (.iconst 5, 1) := by decide +kernel
theorem dX10_thin_39 : decode cX10_thin 39 = .ok (.invokevirtual 83, 3) := by decide +kernel
theorem dX10_thin_42 : decode cX10_thin 42 = .ok (.ireturn, 1) := by decide +kernel
theorem dX10_thin_43 : decode cX10_thin 43 = .ok (.aload_n 0, 1) := by decide +kernel
theorem dX10_thin_44 : decode cX10_thin 44 = .ok (.getfield 63, 3) := by decide +kernel
theorem dX10_thin_47 : decode cX10_thin 47 = .ok (.aload_n 0, 1) := by decide +kernel
theorem dX10_thin_48 : decode cX10_thin 48 = .ok (.getfield 10, 3) := by decide +kernel
theorem dX10_thin_51 : decode cX10_thin 51 = .ok (.getfield 87, 3) := by decide +kernel
theorem dX10_thin_54 : decode cX10_thin 54 = .ok (.invokevirtual 122, 3) := by decide +kernel
theorem dX10_thin_57 : decode cX10_thin 57 = .ok (.aload_n 0, 1) := by decide +kernel
theorem dX10_thin_58 : decode cX10_thin 58 = .ok (.getfield 63, 3) := by decide +kernel
theorem dX10_thin_61 : decode cX10_thin 61 = .ok (.aload_n 3, 1) := by decide +kernel
theorem dX10_thin_62 : decode cX10_thin 62 = .ok (.iload_n 2, 1) := by decide +kernel
theorem dX10_thin_63 : decode cX10_thin 63 = .ok (.invokevirtual 184, 3) := by decide +kernel
theorem dX10_thin_66 : decode cX10_thin 66 = .ok (.aload_n 0, 1) := by decide +kernel
theorem dX10_thin_67 : decode cX10_thin 67 = .ok (.bipush 8, 2) := by decide +kernel
theorem dX10_thin_69 : decode cX10_thin 69 = .ok (.invokevirtual 135, 3) := by decide +kernel
theorem dX10_thin_72 : decode cX10_thin 72 = .ok (.ireturn, 1) := by decide +kernel
theorem dX10_both_0 : decode cX10_both 0 = .ok (.aload_n 0, 1) := by decide +kernel
theorem dX10_both_1 : decode cX10_both 1 = .ok (.iload_n 1, 1) := by decide +kernel
theorem dX10_both_2 : decode cX10_both 2 = .ok (.invokevirtual 166, 3) := by decide +kernel
theorem dX10_both_5 : decode cX10_both 5 = .ok (.astore_n 3, 1) := by decide +kernel
theorem dX10_both_6 : decode cX10_both 6 = .ok (.aload_n 0, 1) := by decide +kernel
theorem dX10_both_7 : decode cX10_both 7 = .ok (.iload_n 2, 1) := by decide +kernel
theorem dX10_both_8 : decode cX10_both 8 = .ok (.invokevirtual 166, 3) := by decide +kernel
theorem dX10_both_11 : decode cX10_both 11 = .ok (.astore 4, 2) := by decide +kernel
theorem dX10_both_13 : decode cX10_both 13 = .ok (.aload_n 3, 1) := by decide +kernel
theorem dX10_both_14 : decode cX10_both 14 = .ok (.ifnull 8, 3) := by decide +kernel
theorem dX10_both_17 : decode cX10_both 17 = .ok (.aload 4, 2) := by decide +kernel
theorem dX10_both_19 : decode cX10_both 19 = .ok (.ifnonnull 9, 3) := by decide +kernel
theorem dX10_both_22 : decode cX10_both 22 = .ok (.aload_n 0, 1) := by decide +kernel
theorem dX10_both_23 : decode cX10_both 23 = .ok (.iconst 1, 1) := by decide +kernel
theorem dX10_both_24 : decode cX10_both 24 = .ok (.invokevirtual 83, 3) := by decide +kernel
theorem dX10_both_27 : decode cX10_both 27 = .ok (.ireturn, 1) := by decide +kernel
theorem dX10_both_28 : decode cX10_both 28 = .ok (.aload_n 0, 1) := by decide +kernel
theorem dX10_both_29 : decode cX10_both 29 = .ok (.invokevirtual 119, 3) := by decide +kernel
theorem dX10_both_32 : decode cX10_both 32 = .ok (.ifCond .ne 9, 3) := by decide +kernel
theorem dX10_both_35 : decode cX10_both 35 = .ok (.aload_n 0, 1) := by decide +kernel
theorem dX10_both_36 : decode cX10_both 36 = .ok (.iconst 4, 1) := by decide +kernel
theorem dX10_both_37 : decode cX10_both 37 = .ok (.invokevirtual 83, 3) := by decide +kernel
theorem dX10_both_40 : decode cX10_both 40 = .ok (.ireturn, 1) := by decide +kernel
theorem dX10_both_41 : decode cX10_both 41 = .ok (.aload_n 0, 1) := by decide +kernel
theorem dX10_both_42 : decode cX10_both 42 = .ok (.getfield 63, 3) := by decide +kernel
theorem dX10_both_45 : decode cX10_both 45 = .ok (.aload_n 0, 1) := by decide +kernel
theorem dX10_both_46 : decode cX10_both 46 = .ok (.getfield 10, 3) := by decide +kernel
theorem dX10_both_49 : decode cX10_both 49 = .ok (.getfield 87, 3) := by decide +kernel
theorem dX10_both_52 : decode cX10_both 52 = .ok (.invokevirtual 122, 3) := by decide +kernel
theorem dX10_both_55 : decode cX10_both 55 = .ok (.aload_n 0, 1) := by decide +kernel
theorem dX10_both_56 : decode cX10_both 56 = .ok (.getfield 63, 3) := by decide +kernel
theorem dX10_both_59 : decode cX10_both 59 = .ok (.aload_n 3, 1) := by decide +kernel
theorem dX10_both_60 : decode cX10_both 60 = .ok (.aload 4, 2) := by decide +kernel
theorem dX10_both_62 : decode cX10_both 62 = .ok (.invokevirtual 188, 3) := by decide +kernel
theorem dX10_both_65 : decode cX10_both 65 = .ok (.aload_n 0, 1) := by decide +kernel
theorem dX10_both_66 : decode cX10_both 66 = .ok (.bipush 9, 2) := by decide +kernel
theorem dX10_both_68 : decode cX10_both 68 = .ok (.invokevirtual 135, 3) := by decide +kernel
theorem dX10_both_71 : decode cX10_both 71 = .ok (.ireturn, 1) := by decide +kernel
theorem dX10_better_0 : decode cX10_better 0 = .ok (.aload_n 0, 1) := by decide +kernel
theorem dX10_better_1 : decode cX10_better 1 = .ok (.iload_n 1, 1) := by decide +kernel
theorem dX10_better_2 : decode cX10_better 2 = .ok (.invokevirtual 166, 3) := by decide +kernel
theorem dX10_better_5 : decode cX10_better 5 = .ok (.astore_n 2, 1) := by decide +kernel
theorem dX10_better_6 : decode cX10_better 6 = .ok (.aload_n 2, 1) := by decide +kernel
theorem dX10_better_7 : decode cX10_better 7 = .ok (.ifnonnull 9, 3) := by decide +kernel
theorem dX10_better_10 : decode cX10_better 10 = .ok (.aload_n 0, 1) := by decide +kernel
theorem dX10_better_11 : decode cX10_better 11 = .ok (.iconst 1, 1) := by decide +kernel
theorem dX10_better_12 : decode cX10_better 12 = .ok (.invokevirtual 83, 3) := by decide +kernel
theorem dX10_better_15 : decode cX10_better 15 = .ok (.ireturn, 1) := by decide +kernel
theorem dX10_better_16 : decode cX10_better 16 = .ok (.aload_n 2, 1) := by decide +kernel
theorem dX10_better_17 : decode cX10_better 17 = .ok (.aload_n 2, 1) := by decide +kernel
theorem dX10_better_18 : decode cX10_better 18 = .ok (.iconst 1, 1) := by decide +kernel
theorem dX10_better_19 : decode cX10_better 19 = .ok (.invokestatic 192, 3) := by decide +kernel
theorem dX10_better_22 : decode cX10_better 22 = .ok (.bipush (-2), 2) := by decide +kernel
theorem dX10_better_24 : decode cX10_better 24 = .ok (.if_icmp .eq 10, 3) := by decide +kernel
theorem dX10_better_27 : decode cX10_better 27 = .ok (.aload_n 0, 1) := by decide +kernel
theorem dX10_better_28 : decode cX10_better 28 = .ok (.bipush 7, 2) := by decide +kernel
theorem dX10_better_30 : decode cX10_better 30 = .ok (.invokevirtual 83, 3) := by decide +kernel
theorem dX10_better_33 : decode cX10_better 33 = .ok (.ireturn, 1) := by decide +kernel
theorem dX10_better_34 : decode cX10_better 34 = .ok (.aload_n 0, 1) := by decide +kernel
theorem dX10_better_35 : decode cX10_better 35 = .ok (.invokevirtual 119, 3) := by decide +kernel
theorem dX10_better_38 : decode cX10_better 38 = .ok (.ifCond .ne 9, 3) := by decide +kernel
theorem dX10_better_41 : decode cX10_better 41 = .ok (.aload_n 0, 1) := by decide +kernel
theorem dX10_better_42 : decode cX10_better 42 = .ok (.iconst 4, 1) := by decide +kernel
theorem dX10_better_43 : decode cX10_better 43 = .ok (.invokevirtual 83, 3) := by decide +kernel
theorem dX10_better_46 : decode cX10_better 46 = .ok (.ireturn, 1) := by decide +kernel
theorem dX10_better_47 : decode cX10_better 47 = .ok (.aload_n 0, 1) := by decide +kernel
theorem dX10_better_48 : decode cX10_better 48 = .ok (.getfield 63, 3) := by decide +kernel
theorem dX10_better_51 : decode cX10_better 51 = .ok (.aload_n 0, 1) := by decide +kernel
theorem dX10_better_52 : decode cX10_better 52 = .ok (.getfield 10, 3) := by decide +kernel
theorem dX10_better_55 : decode cX10_better 55 = .ok (.getfield 87, 3) := by decide +kernel
theorem dX10_better_58 : decode cX10_better 58 = .ok (.invokevirtual 122, 3) := by decide +kernel
theorem dX10_better_61 : decode cX10_better 61 = .ok (.aload_n 0, 1) := by decide +kernel
theorem dX10_better_62 : decode cX10_better 62 = .ok (.getfield 63, 3) := by decide +kernel
theorem dX10_better_65 : decode cX10_better 65 = .ok (.aload_n 2, 1) := by decide +kernel
theorem dX10_better_66 : decode cX10_better 66 = .ok (.invokevirtual 196, 3) := by decide +kernel
theorem dX10_better_69 : decode cX10_better 69 = .ok (.aload_n 0, 1) := by decide +kernel
theorem dX10_better_70 : decode cX10_better 70 = .ok (.bipush 10, 2) := by decide +kernel
theorem dX10_better_72 : decode cX10_better 72 = .ok (.invokevirtual 178, 3) := by decide +kernel
theorem dX10_better_75 : decode cX10_better 75 = .ok (.ireturn, 1) := by decide +kernel
theorem dX10_family_0 : decode cX10_family 0 = .ok (.aload_n 0, 1) := by decide +kernel
theorem dX10_family_1 : decode cX10_family 1 = .ok (.iload_n 1, 1) := by decide +kernel
theorem dX10_family_2 : decode cX10_family 2 = .ok (.invokevirtual 166, 3) := by decide +kernel
theorem dX10_family_5 : decode cX10_family 5 = .ok (.astore_n 3, 1) := by decide +kernel
theorem dX10_family_6 : decode cX10_family 6 = .ok (.aload_n 3, 1) := by decide +kernel
theorem dX10_family_7 : decode cX10_family 7 = .ok (.ifnonnull 5, 3) := by decide +kernel
theorem dX10_family_10 : decode cX10_family 10 = .ok (.iconst (-1), 1) := by decide +kernel
theorem dX10_family_11 : decode cX10_family 11 = .ok (.ireturn, 1) := by decide +kernel
theorem dX10_family_12 : decode cX10_family 12 = .ok (.iload_n 2, 1) := by decide +kernel
theorem dX10_family_13 : decode cX10_family 13 = .ok (.tableswitch 60 0 4 #[35, 40, 45, 50, 55], 35) := by decide +kernel
theorem dX10_family_48 : decode cX10_family 48 = .ok (.aload_n 3, 1) := by decide +kernel
theorem dX10_family_49 : decode cX10_family 49 = .ok (.getfield 199, 3) := by decide +kernel
theorem dX10_family_52 : decode cX10_family 52 = .ok (.ireturn, 1) := by decide +kernel
theorem dX10_family_53 : decode cX10_family 53 = .ok (.aload_n 3, 1) := by decide +kernel
theorem dX10_family_54 : decode cX10_family 54 = .ok (.getfield 202, 3) := by decide +kernel
theorem dX10_family_57 : decode cX10_family 57 = .ok (.ireturn, 1) := by decide +kernel
theorem dX10_family_58 : decode cX10_family 58 = .ok (.aload_n 3, 1) := by decide +kernel
theorem dX10_family_59 : decode cX10_family 59 = .ok (.invokevirtual 203, 3) := by decide +kernel
theorem dX10_family_62 : decode cX10_family 62 = .ok (.ireturn, 1) := by decide +kernel
theorem dX10_family_63 : decode cX10_family 63 = .ok (.aload_n 3, 1) := by decide +kernel
theorem dX10_family_64 : decode cX10_family 64 = .ok (.invokevirtual 207, 3) := by decide +kernel
theorem dX10_family_67 : decode cX10_family 67 = .ok (.ireturn, 1) := by decide +kernel
theorem dX10_family_68 : decode cX10_family 68 = .ok (.aload_n 3, 1) := by decide +kernel
theorem dX10_family_69 : decode cX10_family 69 = .ok (.invokevirtual 210, 3) := by decide +kernel
theorem dX10_family_72 : decode cX10_family 72 = .ok (.ireturn, 1) := by decide +kernel
theorem dX10_family_73 : decode cX10_family 73 = .ok (.iconst (-1), 1) := by decide +kernel
theorem dX10_family_74 : decode cX10_family 74 = .ok (.ireturn, 1) := by decide +kernel
theorem dX10_quorum_0 : decode cX10_quorum 0 = .ok (.aload_n 0, 1) := by decide +kernel
theorem dX10_quorum_1 : decode cX10_quorum 1 = .ok (.iload_n 1, 1) := by decide +kernel
theorem dX10_quorum_2 : decode cX10_quorum 2 = .ok (.invokevirtual 166, 3) := by decide +kernel
theorem dX10_quorum_5 : decode cX10_quorum 5 = .ok (.astore_n 3, 1) := by decide +kernel
theorem dX10_quorum_6 : decode cX10_quorum 6 = .ok (.aload_n 3, 1) := by decide +kernel
theorem dX10_quorum_7 : decode cX10_quorum 7 = .ok (.ifnull 15, 3) := by decide +kernel
theorem dX10_quorum_10 : decode cX10_quorum 10 = .ok (.iload_n 2, 1) := by decide +kernel
theorem dX10_quorum_11 : decode cX10_quorum 11 = .ok (.ifCond .lt 11, 3) := by decide +kernel
theorem dX10_quorum_14 : decode cX10_quorum 14 = .ok (.iload_n 2, 1) := by decide +kernel
theorem dX10_quorum_15 : decode cX10_quorum 15 = .ok (.aload_n 3, 1) := by decide +kernel
theorem dX10_quorum_16 : decode cX10_quorum 16 = .ok (.getfield 202, 3) := by decide +kernel
theorem dX10_quorum_19 : decode cX10_quorum 19 = .ok (.if_icmp .lt 5, 3) := by decide +kernel
theorem dX10_quorum_22 : decode cX10_quorum 22 = .ok (.iconst (-1), 1) := by decide +kernel
theorem dX10_quorum_23 : decode cX10_quorum 23 = .ok (.ireturn, 1) := by decide +kernel
theorem dX10_quorum_24 : decode cX10_quorum 24 = .ok (.aload_n 3, 1) := by decide +kernel
theorem dX10_quorum_25 : decode cX10_quorum 25 = .ok (.getfield 213, 3) := by decide +kernel
theorem dX10_quorum_28 : decode cX10_quorum 28 = .ok (.iload_n 2, 1) := by decide +kernel
theorem dX10_quorum_29 : decode cX10_quorum 29 = .ok (.iaload, 1) := by decide +kernel
theorem dX10_quorum_30 : decode cX10_quorum 30 = .ok (.ireturn, 1) := by decide +kernel
theorem dX10_isLength_0 : decode cX10_isLength 0 = .ok (.iload_n 0, 1) := by decide +kernel
theorem dX10_isLength_1 : decode cX10_isLength 1 = .ok (.ifCond .lt 13, 3) := by decide +kernel
theorem dX10_isLength_4 : decode cX10_isLength 4 = .ok (.iload_n 0, 1) := by decide +kernel
theorem dX10_isLength_5 : decode cX10_isLength 5 = .ok (.bipush 16, 2) := by decide +kernel
theorem dX10_isLength_7 : decode cX10_isLength 7 = .ok (.if_icmp .gt 7, 3) := by decide +kernel
theorem dX10_isLength_10 : decode cX10_isLength 10 = .ok (.iconst 1, 1) := by decide +kernel
theorem dX10_isLength_11 : decode cX10_isLength 11 = .ok (.goto 4, 3) := by decide +kernel
theorem dX10_isLength_14 : decode cX10_isLength 14 = .ok (.iconst 0, 1) := by decide +kernel
theorem dX10_isLength_15 : decode cX10_isLength 15 = .ok (.ireturn, 1) := by decide +kernel
theorem dX10_familyAt_0 : decode cX10_familyAt 0 = .ok (.iload_n 1, 1) := by decide +kernel
theorem dX10_familyAt_1 : decode cX10_familyAt 1 = .ok (.ifCond .lt 17, 3) := by decide +kernel
theorem dX10_familyAt_4 : decode cX10_familyAt 4 = .ok (.iload_n 1, 1) := by decide +kernel
theorem dX10_familyAt_5 : decode cX10_familyAt 5 = .ok (.aload_n 0, 1) := by decide +kernel
theorem dX10_familyAt_6 : decode cX10_familyAt 6 = .ok (.getfield 22, 3) := by decide +kernel
theorem dX10_familyAt_9 : decode cX10_familyAt 9 = .ok (.if_icmp .ge 9, 3) := by decide +kernel
theorem dX10_familyAt_12 : decode cX10_familyAt 12 = .ok (.iload_n 1, 1) := by decide +kernel
theorem dX10_familyAt_13 : decode cX10_familyAt 13 = .ok (.bipush 24, 2) := by decide +kernel
theorem dX10_familyAt_15 : decode cX10_familyAt 15 = .ok (.if_icmp .lt 5, 3) := by decide +kernel
theorem dX10_familyAt_18 : decode cX10_familyAt 18 = .ok (.aconst_null, 1) := by decide +kernel
theorem dX10_familyAt_19 : decode cX10_familyAt 19 = .ok (.areturn, 1) := by decide +kernel
theorem dX10_familyAt_20 : decode cX10_familyAt 20 = .ok (.aload_n 0, 1) := by decide +kernel
theorem dX10_familyAt_21 : decode cX10_familyAt 21 = .ok (.getfield 18, 3) := by decide +kernel
theorem dX10_familyAt_24 : decode cX10_familyAt 24 = .ok (.iload_n 1, 1) := by decide +kernel
theorem dX10_familyAt_25 : decode cX10_familyAt 25 = .ok (.aaload, 1) := by decide +kernel
theorem dX10_familyAt_26 : decode cX10_familyAt 26 = .ok (.areturn, 1) := by decide +kernel
theorem dX10_roomForFamily_0 : decode cX10_roomForFamily 0 = .ok (.aload_n 0, 1) := by decide +kernel
theorem dX10_roomForFamily_1 : decode cX10_roomForFamily 1 = .ok (.getfield 22, 3) := by decide +kernel
theorem dX10_roomForFamily_4 : decode cX10_roomForFamily 4 = .ok (.ifCond .lt 16, 3) := by decide +kernel
theorem dX10_roomForFamily_7 : decode cX10_roomForFamily 7 = .ok (.aload_n 0, 1) := by decide +kernel
theorem dX10_roomForFamily_8 : decode cX10_roomForFamily 8 = .ok (.getfield 22, 3) := by decide +kernel
theorem dX10_roomForFamily_11 : decode cX10_roomForFamily 11 = .ok (.bipush 24, 2) := by decide +kernel
theorem dX10_roomForFamily_13 : decode cX10_roomForFamily 13 = .ok (.if_icmp .ge 7, 3) := by decide +kernel
theorem dX10_roomForFamily_16 : decode cX10_roomForFamily 16 = .ok (.iconst 1, 1) := by decide +kernel
theorem dX10_roomForFamily_17 : decode cX10_roomForFamily 17 = .ok (.goto 4, 3) := by decide +kernel
theorem dX10_roomForFamily_20 : decode cX10_roomForFamily 20 = .ok (.iconst 0, 1) := by decide +kernel
theorem dX10_roomForFamily_21 : decode cX10_roomForFamily 21 = .ok (.ireturn, 1) := by decide +kernel
theorem dX10_settleRows_0 : decode cX10_settleRows 0 = .ok (.aload_n 0, 1) := by decide +kernel
theorem dX10_settleRows_1 : decode cX10_settleRows 1 = .ok (.getfield 10, 3) := by decide +kernel
theorem dX10_settleRows_4 : decode cX10_settleRows 4 = .ok (.iload_n 1, 1) := by decide +kernel
theorem dX10_settleRows_5 : decode cX10_settleRows 5 = .ok (.aload_n 0, 1) := by decide +kernel
theorem dX10_settleRows_6 : decode cX10_settleRows 6 = .ok (.getfield 63, 3) := by decide +kernel
theorem dX10_settleRows_9 : decode cX10_settleRows 9 = .ok (.invokevirtual 216, 3) := by decide +kernel
theorem dX10_settleRows_12 : decode cX10_settleRows 12 = .ok (.invokevirtual 155, 3) := by decide +kernel
theorem dX10_settleRows_15 : decode cX10_settleRows 15 = .ok (.ifCond .ne 9, 3) := by decide +kernel
theorem dX10_settleRows_18 : decode cX10_settleRows 18 = .ok (.aload_n 0, 1) := by decide +kernel
theorem dX10_settleRows_19 : decode cX10_settleRows 19 = .ok (.iconst 1, 1) := by decide +kernel
theorem dX10_settleRows_20 : decode cX10_settleRows 20 = .ok (.invokevirtual 83, 3) := by decide +kernel
theorem dX10_settleRows_23 : decode cX10_settleRows 23 = .ok (.ireturn, 1) := by decide +kernel
theorem dX10_settleRows_24 : decode cX10_settleRows 24 = .ok (.aload_n 0, 1) := by decide +kernel
theorem dX10_settleRows_25 : decode cX10_settleRows 25 = .ok (.invokevirtual 119, 3) := by decide +kernel
theorem dX10_settleRows_28 : decode cX10_settleRows 28 = .ok (.ifCond .ne 9, 3) := by decide +kernel
theorem dX10_settleRows_31 : decode cX10_settleRows 31 = .ok (.aload_n 0, 1) := by decide +kernel
theorem dX10_settleRows_32 : decode cX10_settleRows 32 = .ok (.iconst 4, 1) := by decide +kernel
theorem dX10_settleRows_33 : decode cX10_settleRows 33 = .ok (.invokevirtual 83, 3) := by decide +kernel
theorem dX10_settleRows_36 : decode cX10_settleRows 36 = .ok (.ireturn, 1) := by decide +kernel
theorem dX10_settleRows_37 : decode cX10_settleRows 37 = .ok (.aload_n 0, 1) := by decide +kernel
theorem dX10_settleRows_38 : decode cX10_settleRows 38 = .ok (.getfield 63, 3) := by decide +kernel
theorem dX10_settleRows_41 : decode cX10_settleRows 41 = .ok (.aload_n 0, 1) := by decide +kernel
theorem dX10_settleRows_42 : decode cX10_settleRows 42 = .ok (.getfield 10, 3) := by decide +kernel
theorem dX10_settleRows_45 : decode cX10_settleRows 45 = .ok (.getfield 87, 3) := by decide +kernel
theorem dX10_settleRows_48 : decode cX10_settleRows 48 = .ok (.invokevirtual 122, 3) := by decide +kernel
theorem dX10_settleRows_51 : decode cX10_settleRows 51 = .ok (.aload_n 0, 1) := by decide +kernel
theorem dX10_settleRows_52 : decode cX10_settleRows 52 = .ok (.getfield 63, 3) := by decide +kernel
theorem dX10_settleRows_55 : decode cX10_settleRows 55 = .ok (.iload_n 1, 1) := by decide +kernel
theorem dX10_settleRows_56 : decode cX10_settleRows 56 = .ok (.invokevirtual 219, 3) := by decide +kernel
theorem dX10_settleRows_59 : decode cX10_settleRows 59 = .ok (.aload_n 0, 1) := by decide +kernel
theorem dX10_settleRows_60 : decode cX10_settleRows 60 = .ok (.iload_n 2, 1) := by decide +kernel
theorem dX10_settleRows_61 : decode cX10_settleRows 61 = .ok (.invokevirtual 135, 3) := by decide +kernel
theorem dX10_settleRows_64 : decode cX10_settleRows 64 = .ok (.ireturn, 1) := by decide +kernel
theorem dX10_settleGathered_0 : decode cX10_settleGathered 0 = .ok (.aload_n 0, 1) := by decide +kernel
theorem dX10_settleGathered_1 : decode cX10_settleGathered 1 = .ok (.getfield 63, 3) := by decide +kernel
theorem dX10_settleGathered_4 : decode cX10_settleGathered 4 = .ok (.getfield 126, 3) := by decide +kernel
theorem dX10_settleGathered_7 : decode cX10_settleGathered 7 = .ok (.invokevirtual 222, 3) := by decide +kernel
theorem dX10_settleGathered_10 : decode cX10_settleGathered 10 = .ok (.aload_n 0, 1) := by decide +kernel
theorem dX10_settleGathered_11 : decode cX10_settleGathered 11 = .ok (.iload_n 1, 1) := by decide +kernel
theorem dX10_settleGathered_12 : decode cX10_settleGathered 12 = .ok (.invokevirtual 178, 3) := by decide +kernel
theorem dX10_settleGathered_15 : decode cX10_settleGathered 15 = .ok (.ireturn, 1) := by decide +kernel
theorem dX10_settle_0 : decode cX10_settle 0 = .ok (.aload_n 0, 1) := by decide +kernel
theorem dX10_settle_1 : decode cX10_settle 1 = .ok (.getfield 63, 3) := by decide +kernel
theorem dX10_settle_4 : decode cX10_settle 4 = .ok (.getfield 126, 3) := by decide +kernel
theorem dX10_settle_7 : decode cX10_settle 7 = .ok (.invokevirtual 225, 3) := by decide +kernel
theorem dX10_settle_10 : decode cX10_settle 10 = .ok (.aload_n 0, 1) := by decide +kernel
theorem dX10_settle_11 : decode cX10_settle 11 = .ok (.getfield 63, 3) := by decide +kernel
theorem dX10_settle_14 : decode cX10_settle 14 = .ok (.getfield 126, 3) := by decide +kernel
theorem dX10_settle_17 : decode cX10_settle 17 = .ok (.invokevirtual 228, 3) := by decide +kernel
theorem dX10_settle_20 : decode cX10_settle 20 = .ok (.bipush 120, 2) := by decide +kernel
theorem dX10_settle_22 : decode cX10_settle 22 = .ok (.if_icmp .le 9, 3) := by decide +kernel
theorem dX10_settle_25 : decode cX10_settle 25 = .ok (.aload_n 0, 1) := by decide +kernel
theorem dX10_settle_26 : decode cX10_settle 26 = .ok (.iconst 3, 1) := by decide +kernel
theorem dX10_settle_27 : decode cX10_settle 27 = .ok (.invokevirtual 83, 3) := by decide +kernel
theorem dX10_settle_30 : decode cX10_settle 30 = .ok (.ireturn, 1) := by decide +kernel
theorem dX10_settle_31 : decode cX10_settle 31 = .ok (.aload_n 0, 1) := by decide +kernel
theorem dX10_settle_32 : decode cX10_settle 32 = .ok (.getfield 22, 3) := by decide +kernel
theorem dX10_settle_35 : decode cX10_settle 35 = .ok (.istore_n 2, 1) := by decide +kernel
theorem dX10_settle_36 : decode cX10_settle 36 = .ok (.iload_n 2, 1) := by decide +kernel
theorem dX10_settle_37 : decode cX10_settle 37 = .ok (.ifCond .lt 9, 3) := by decide +kernel
theorem dX10_settle_40 : decode cX10_settle 40 = .ok (.iload_n 2, 1) := by decide +kernel
theorem dX10_settle_41 : decode cX10_settle 41 = .ok (.bipush 24, 2) := by decide +kernel
theorem dX10_settle_43 : decode cX10_settle 43 = .ok (.if_icmp .lt 9, 3) := by decide +kernel
theorem dX10_settle_46 : decode cX10_settle 46 = .ok (.aload_n 0, 1) := by decide +kernel
theorem dX10_settle_47 : decode cX10_settle 47 = .ok (.iconst 4, 1) := by decide +kernel
theorem dX10_settle_48 : decode cX10_settle 48 = .ok (.invokevirtual 83, 3) := by decide +kernel
theorem dX10_settle_51 : decode cX10_settle 51 = .ok (.ireturn, 1) := by decide +kernel
theorem dX10_settle_52 : decode cX10_settle 52 = .ok (.aload_n 0, 1) := by decide +kernel
theorem dX10_settle_53 : decode cX10_settle 53 = .ok (.getfield 18, 3) := by decide +kernel
theorem dX10_settle_56 : decode cX10_settle 56 = .ok (.iload_n 2, 1) := by decide +kernel
theorem dX10_settle_57 : decode cX10_settle 57 = .ok (.aaload, 1) := by decide +kernel
theorem dX10_settle_58 : decode cX10_settle 58 = .ok (.iload_n 1, 1) := by decide +kernel
theorem dX10_settle_59 : decode cX10_settle 59 = .ok (.aload_n 0, 1) := by decide +kernel
theorem dX10_settle_60 : decode cX10_settle 60 = .ok (.getfield 63, 3) := by decide +kernel
theorem dX10_settle_63 : decode cX10_settle 63 = .ok (.getfield 126, 3) := by decide +kernel
theorem dX10_settle_66 : decode cX10_settle 66 = .ok (.invokevirtual 231, 3) := by decide +kernel
theorem dX10_settle_69 : decode cX10_settle 69 = .ok (.aload_n 0, 1) := by decide +kernel
theorem dX10_settle_70 : decode cX10_settle 70 = .ok (.iload_n 2, 1) := by decide +kernel
theorem dX10_settle_71 : decode cX10_settle 71 = .ok (.iconst 1, 1) := by decide +kernel
theorem dX10_settle_72 : decode cX10_settle 72 = .ok (.iadd, 1) := by decide +kernel
theorem dX10_settle_73 : decode cX10_settle 73 = .ok (.putfield 22, 3) := by decide +kernel
theorem dX10_settle_76 : decode cX10_settle 76 = .ok (.aload_n 0, 1) := by decide +kernel
theorem dX10_settle_77 : decode cX10_settle 77 = .ok (.getfield 49, 3) := by decide +kernel
theorem dX10_settle_80 : decode cX10_settle 80 = .ok (.iconst 2, 1) := by decide +kernel
theorem dX10_settle_81 : decode cX10_settle 81 = .ok (.iload_n 2, 1) := by decide +kernel
theorem dX10_settle_82 : decode cX10_settle 82 = .ok (.iconst 0, 1) := by decide +kernel
theorem dX10_settle_83 : decode cX10_settle 83 = .ok (.invokevirtual 99, 3) := by decide +kernel
theorem dX10_settle_86 : decode cX10_settle 86 = .ok (.pop, 1) := by decide +kernel
theorem dX10_settle_87 : decode cX10_settle 87 = .ok (.aload_n 0, 1) := by decide +kernel
theorem dX10_settle_88 : decode cX10_settle 88 = .ok (.iload_n 2, 1) := by decide +kernel
theorem dX10_settle_89 : decode cX10_settle 89 = .ok (.invokevirtual 103, 3) := by decide +kernel
theorem dX10_settle_92 : decode cX10_settle 92 = .ok (.ireturn, 1) := by decide +kernel
theorem dX10_has_0 : decode cX10_has 0 = .ok (.aload_n 0, 1) := by decide +kernel
theorem dX10_has_1 : decode cX10_has 1 = .ok (.iload_n 1, 1) := by decide +kernel
theorem dX10_has_2 : decode cX10_has 2 = .ok (.invokevirtual 166, 3) := by decide +kernel
theorem dX10_has_5 : decode cX10_has 5 = .ok (.astore_n 3, 1) := by decide +kernel
theorem dX10_has_6 : decode cX10_has 6 = .ok (.aload_n 3, 1) := by decide +kernel
theorem dX10_has_7 : decode cX10_has 7 = .ok (.ifnonnull 9, 3) := by decide +kernel
theorem dX10_has_10 : decode cX10_has 10 = .ok (.aload_n 0, 1) := by decide +kernel
theorem dX10_has_11 : decode cX10_has 11 = .ok (.iconst 1, 1) := by decide +kernel
theorem dX10_has_12 : decode cX10_has 12 = .ok (.invokevirtual 83, 3) := by decide +kernel
theorem dX10_has_15 : decode cX10_has 15 = .ok (.ireturn, 1) := by decide +kernel
theorem dX10_has_16 : decode cX10_has 16 = .ok (.aload_n 0, 1) := by decide +kernel
theorem dX10_has_17 : decode cX10_has 17 = .ok (.aload_n 3, 1) := by decide +kernel
theorem dX10_has_18 : decode cX10_has 18 = .ok (.iload_n 2, 1) := by decide +kernel
theorem dX10_has_19 : decode cX10_has 19 = .ok (.invokevirtual 181, 3) := by decide +kernel
theorem dX10_has_22 : decode cX10_has 22 = .ok (.ifCond .eq 7, 3) := by decide +kernel
theorem dX10_has_25 : decode cX10_has 25 = .ok (.iconst 1, 1) := by decide +kernel
theorem dX10_has_26 : decode cX10_has 26 = .ok (.goto 4, 3) := by decide +kernel
theorem dX10_has_29 : decode cX10_has 29 = .ok (.iconst 0, 1) := by decide +kernel
theorem dX10_has_30 : decode cX10_has 30 = .ok (.invokevirtual 103, 3) := by decide +kernel
theorem dX10_has_33 : decode cX10_has 33 = .ok (.ireturn, 1) := by decide +kernel
theorem dX10_apart_0 : decode cX10_apart 0 = .ok (.aload_n 0, 1) := by decide +kernel
theorem dX10_apart_1 : decode cX10_apart 1 = .ok (.iload_n 1, 1) := by decide +kernel
theorem dX10_apart_2 : decode cX10_apart 2 = .ok (.invokevirtual 166, 3) := by decide +kernel
theorem dX10_apart_5 : decode cX10_apart 5 = .ok (.astore_n 3, 1) := by decide +kernel
theorem dX10_apart_6 : decode cX10_apart 6 = .ok (.aload_n 0, 1) := by decide +kernel
theorem dX10_apart_7 : decode cX10_apart 7 = .ok (.iload_n 2, 1) := by decide +kernel
theorem dX10_apart_8 : decode cX10_apart 8 = .ok (.invokevirtual 166, 3) := by decide +kernel
theorem dX10_apart_11 : decode cX10_apart 11 = .ok (.astore 4, 2) := by decide +kernel
theorem dX10_apart_13 : decode cX10_apart 13 = .ok (.aload_n 3, 1) := by decide +kernel
theorem dX10_apart_14 : decode cX10_apart 14 = .ok (.ifnull 8, 3) := by decide +kernel
theorem dX10_apart_17 : decode cX10_apart 17 = .ok (.aload 4, 2) := by decide +kernel
theorem dX10_apart_19 : decode cX10_apart 19 = .ok (.ifnonnull 9, 3) := by decide +kernel
theorem dX10_apart_22 : decode cX10_apart 22 = .ok (.aload_n 0, 1) := by decide +kernel
theorem dX10_apart_23 : decode cX10_apart 23 = .ok (.iconst 1, 1) := by decide +kernel
theorem dX10_apart_24 : decode cX10_apart 24 = .ok (.invokevirtual 83, 3) := by decide +kernel
theorem dX10_apart_27 : decode cX10_apart 27 = .ok (.ireturn, 1) := by decide +kernel
theorem dX10_apart_28 : decode cX10_apart 28 = .ok (.aload_n 0, 1) := by decide +kernel
theorem dX10_apart_29 : decode cX10_apart 29 = .ok (.aload_n 3, 1) := by decide +kernel
theorem dX10_apart_30 : decode cX10_apart 30 = .ok (.aload 4, 2) := by decide +kernel
theorem dX10_apart_32 : decode cX10_apart 32 = .ok (.iload_n 1, 1) := by decide +kernel
theorem dX10_apart_33 : decode cX10_apart 33 = .ok (.iload_n 2, 1) := by decide +kernel
theorem dX10_apart_34 : decode cX10_apart 34 = .ok (.if_icmp .ne 7, 3) := by decide +kernel
theorem dX10_apart_37 : decode cX10_apart 37 = .ok (.iconst 1, 1) := by decide +kernel
theorem dX10_apart_38 : decode cX10_apart 38 = .ok (.goto 4, 3) := by decide +kernel
theorem dX10_apart_41 : decode cX10_apart 41 = .ok (.iconst 0, 1) := by decide +kernel
theorem dX10_apart_42 : decode cX10_apart 42 = .ok (.invokestatic 192, 3) := by decide +kernel
theorem dX10_apart_45 : decode cX10_apart 45 = .ok (.invokevirtual 103, 3) := by decide +kernel
theorem dX10_apart_48 : decode cX10_apart 48 = .ok (.ireturn, 1) := by decide +kernel
theorem dX10_hit_0 : decode cX10_hit 0 = .ok (.aload_n 0, 1) := by decide +kernel
theorem dX10_hit_1 : decode cX10_hit 1 = .ok (.iload_n 1, 1) := by decide +kernel
theorem dX10_hit_2 : decode cX10_hit 2 = .ok (.invokevirtual 166, 3) := by decide +kernel
theorem dX10_hit_5 : decode cX10_hit 5 = .ok (.astore_n 2, 1) := by decide +kernel
theorem dX10_hit_6 : decode cX10_hit 6 = .ok (.aload_n 2, 1) := by decide +kernel
theorem dX10_hit_7 : decode cX10_hit 7 = .ok (.ifnonnull 9, 3) := by decide +kernel
theorem dX10_hit_10 : decode cX10_hit 10 = .ok (.aload_n 0, 1) := by decide +kernel
theorem dX10_hit_11 : decode cX10_hit 11 = .ok (.iconst 1, 1) := by decide +kernel
theorem dX10_hit_12 : decode cX10_hit 12 = .ok (.invokevirtual 83, 3) := by decide +kernel
theorem dX10_hit_15 : decode cX10_hit 15 = .ok (.ireturn, 1) := by decide +kernel
theorem dX10_hit_16 : decode cX10_hit 16 = .ok (.aload_n 0, 1) := by decide +kernel
theorem dX10_hit_17 : decode cX10_hit 17 = .ok (.aload_n 0, 1) := by decide +kernel
theorem dX10_hit_18 : decode cX10_hit 18 = .ok (.aload_n 2, 1) := by decide +kernel
theorem dX10_hit_19 : decode cX10_hit 19 = .ok (.invokevirtual 235, 3) := by decide +kernel
theorem dX10_hit_22 : decode cX10_hit 22 = .ok (.invokevirtual 103, 3) := by decide +kernel
theorem dX10_hit_25 : decode cX10_hit 25 = .ok (.ireturn, 1) := by decide +kernel
theorem dX10_falls_0 : decode cX10_falls 0 = .ok (.aload_n 0, 1) := by decide +kernel
theorem dX10_falls_1 : decode cX10_falls 1 = .ok (.iload_n 1, 1) := by decide +kernel
theorem dX10_falls_2 : decode cX10_falls 2 = .ok (.invokevirtual 166, 3) := by decide +kernel
theorem dX10_falls_5 : decode cX10_falls 5 = .ok (.astore_n 2, 1) := by decide +kernel
theorem dX10_falls_6 : decode cX10_falls 6 = .ok (.aload_n 2, 1) := by decide +kernel
theorem dX10_falls_7 : decode cX10_falls 7 = .ok (.ifnonnull 9, 3) := by decide +kernel
theorem dX10_falls_10 : decode cX10_falls 10 = .ok (.aload_n 0, 1) := by decide +kernel
theorem dX10_falls_11 : decode cX10_falls 11 = .ok (.iconst 1, 1) := by decide +kernel
theorem dX10_falls_12 : decode cX10_falls 12 = .ok (.invokevirtual 83, 3) := by decide +kernel
theorem dX10_falls_15 : decode cX10_falls 15 = .ok (.ireturn, 1) := by decide +kernel
theorem dX10_falls_16 : decode cX10_falls 16 = .ok (.aload_n 0, 1) := by decide +kernel
theorem dX10_falls_17 : decode cX10_falls 17 = .ok (.aload_n 0, 1) := by decide +kernel
theorem dX10_falls_18 : decode cX10_falls 18 = .ok (.aload_n 2, 1) := by decide +kernel
theorem dX10_falls_19 : decode cX10_falls 19 = .ok (.invokevirtual 235, 3) := by decide +kernel
theorem dX10_falls_22 : decode cX10_falls 22 = .ok (.invokestatic 239, 3) := by decide +kernel
theorem dX10_falls_25 : decode cX10_falls 25 = .ok (.iconst 1, 1) := by decide +kernel
theorem dX10_falls_26 : decode cX10_falls 26 = .ok (.isub, 1) := by decide +kernel
theorem dX10_falls_27 : decode cX10_falls 27 = .ok (.invokevirtual 103, 3) := by decide +kernel
theorem dX10_falls_30 : decode cX10_falls 30 = .ok (.ireturn, 1) := by decide +kernel
theorem dX10_liars_0 : decode cX10_liars 0 = .ok (.aload_n 0, 1) := by decide +kernel
theorem dX10_liars_1 : decode cX10_liars 1 = .ok (.iload_n 1, 1) := by decide +kernel
theorem dX10_liars_2 : decode cX10_liars 2 = .ok (.invokevirtual 166, 3) := by decide +kernel
theorem dX10_liars_5 : decode cX10_liars 5 = .ok (.astore_n 3, 1) := by decide +kernel
theorem dX10_liars_6 : decode cX10_liars 6 = .ok (.aload_n 3, 1) := by decide +kernel
theorem dX10_liars_7 : decode cX10_liars 7 = .ok (.ifnonnull 9, 3) := by decide +kernel
theorem dX10_liars_10 : decode cX10_liars 10 = .ok (.aload_n 0, 1) := by decide +kernel
theorem dX10_liars_11 : decode cX10_liars 11 = .ok (.iconst 1, 1) := by decide +kernel
theorem dX10_liars_12 : decode cX10_liars 12 = .ok (.invokevirtual 83, 3) := by decide +kernel
theorem dX10_liars_15 : decode cX10_liars 15 = .ok (.ireturn, 1) := by decide +kernel
theorem dX10_liars_16 : decode cX10_liars 16 = .ok (.aload_n 3, 1) := by decide +kernel
theorem dX10_liars_17 : decode cX10_liars 17 = .ok (.invokevirtual 244, 3) := by decide +kernel
theorem dX10_liars_20 : decode cX10_liars 20 = .ok (.istore 4, 2) := by decide +kernel
theorem dX10_liars_22 : decode cX10_liars 22 = .ok (.iload 4, 2) := by decide +kernel
theorem dX10_liars_24 : decode cX10_liars 24 = .ok (.ifCond .ne 9, 3) := by decide +kernel
theorem dX10_liars_27 : decode cX10_liars 27 = .ok (.aload_n 0, 1) := by decide +kernel
theorem dX10_liars_28 : decode cX10_liars 28 = .ok (.iconst (-1), 1) := by decide +kernel
theorem dX10_liars_29 : decode cX10_liars 29 = .ok (.invokevirtual 103, 3) := by decide +kernel
theorem dX10_liars_32 : decode cX10_liars 32 = .ok (.ireturn, 1) := by decide +kernel
theorem dX10_liars_33 : decode cX10_liars 33 = .ok (.aload_n 0, 1) := by decide +kernel
theorem dX10_liars_34 : decode cX10_liars 34 = .ok (.iload_n 2, 1) := by decide +kernel
theorem dX10_liars_35 : decode cX10_liars 35 = .ok (.ifCond .eq 12, 3) := by decide +kernel
theorem dX10_liars_38 : decode cX10_liars 38 = .ok (.iload 4, 2) := by decide +kernel
theorem dX10_liars_40 : decode cX10_liars 40 = .ok (.iconst 1, 1) := by decide +kernel
theorem dX10_liars_41 : decode cX10_liars 41 = .ok (.isub, 1) := by decide +kernel
theorem dX10_liars_42 : decode cX10_liars 42 = .ok (.iconst 2, 1) := by decide +kernel
theorem dX10_liars_43 : decode cX10_liars 43 = .ok (.idiv, 1) := by decide +kernel
theorem dX10_liars_44 : decode cX10_liars 44 = .ok (.goto 7, 3) := by decide +kernel
theorem dX10_liars_47 : decode cX10_liars 47 = .ok (.iload 4, 2) := by decide +kernel
theorem dX10_liars_49 : decode cX10_liars 49 = .ok (.iconst 1, 1) := by decide +kernel
theorem dX10_liars_50 : decode cX10_liars 50 = .ok (.isub, 1) := by decide +kernel
theorem dX10_liars_51 : decode cX10_liars 51 = .ok (.invokevirtual 103, 3) := by decide +kernel
theorem dX10_liars_54 : decode cX10_liars 54 = .ok (.ireturn, 1) := by decide +kernel
theorem dX10_chance_0 : decode cX10_chance 0 = .ok (.aload_n 0, 1) := by decide +kernel
theorem dX10_chance_1 : decode cX10_chance 1 = .ok (.iload_n 1, 1) := by decide +kernel
theorem dX10_chance_2 : decode cX10_chance 2 = .ok (.invokevirtual 166, 3) := by decide +kernel
theorem dX10_chance_5 : decode cX10_chance 5 = .ok (.astore_n 2, 1) := by decide +kernel
theorem dX10_chance_6 : decode cX10_chance 6 = .ok (.aload_n 2, 1) := by decide +kernel
theorem dX10_chance_7 : decode cX10_chance 7 = .ok (.ifnonnull 10, 3) := by decide +kernel
theorem dX10_chance_10 : decode cX10_chance 10 = .ok (.aload_n 0, 1) := by decide +kernel
theorem dX10_chance_11 : decode cX10_chance 11 = .ok (.iconst 1, 1) := by decide +kernel
theorem dX10_chance_12 : decode cX10_chance 12 = .ok (.invokevirtual 83, 3) := by decide +kernel
theorem dX10_chance_15 : decode cX10_chance 15 = .ok (.i2l, 1) := by decide +kernel
theorem dX10_chance_16 : decode cX10_chance 16 = .ok (.lreturn, 1) := by decide +kernel
theorem dX10_chance_17 : decode cX10_chance 17 = .ok (.aload_n 0, 1) := by decide +kernel
theorem dX10_chance_18 : decode cX10_chance 18 = .ok (.getfield 63, 3) := by decide +kernel
theorem dX10_chance_21 : decode cX10_chance 21 = .ok (.aload_n 0, 1) := by decide +kernel
theorem dX10_chance_22 : decode cX10_chance 22 = .ok (.getfield 10, 3) := by decide +kernel
theorem dX10_chance_25 : decode cX10_chance 25 = .ok (.getfield 87, 3) := by decide +kernel
theorem dX10_chance_28 : decode cX10_chance 28 = .ok (.invokevirtual 122, 3) := by decide +kernel
theorem dX10_chance_31 : decode cX10_chance 31 = .ok (.aload_n 0, 1) := by decide +kernel
theorem dX10_chance_32 : decode cX10_chance 32 = .ok (.getfield 63, 3) := by decide +kernel
theorem dX10_chance_35 : decode cX10_chance 35 = .ok (.aload_n 2, 1) := by decide +kernel
theorem dX10_chance_36 : decode cX10_chance 36 = .ok (.invokevirtual 247, 3) := by decide +kernel
theorem dX10_chance_39 : decode cX10_chance 39 = .ok (.aload_n 0, 1) := by decide +kernel
theorem dX10_chance_40 : decode cX10_chance 40 = .ok (.iconst 0, 1) := by decide +kernel
theorem dX10_chance_41 : decode cX10_chance 41 = .ok (.putfield 74, 3) := by decide +kernel
theorem dX10_chance_44 : decode cX10_chance 44 = .ok (.aload_n 0, 1) := by decide +kernel
theorem dX10_chance_45 : decode cX10_chance 45 = .ok (.getfield 63, 3) := by decide +kernel
theorem dX10_chance_48 : decode cX10_chance 48 = .ok (.getfield 126, 3) := by decide +kernel
theorem dX10_chance_51 : decode cX10_chance 51 = .ok (.aload_n 0, 1) := by decide +kernel
theorem dX10_chance_52 : decode cX10_chance 52 = .ok (.getfield 10, 3) := by decide +kernel
theorem dX10_chance_55 : decode cX10_chance 55 = .ok (.invokevirtual 250, 3) := by decide +kernel
theorem dX10_chance_58 : decode cX10_chance 58 = .ok (.lreturn, 1) := by decide +kernel
theorem dX10_firstApart_0 : decode cX10_firstApart 0 = .ok (.iconst 0, 1) := by decide +kernel
theorem dX10_firstApart_1 : decode cX10_firstApart 1 = .ok (.istore_n 3, 1) := by decide +kernel
theorem dX10_firstApart_2 : decode cX10_firstApart 2 = .ok (.iload_n 3, 1) := by decide +kernel
theorem dX10_firstApart_3 : decode cX10_firstApart 3 = .ok (.aload_n 0, 1) := by decide +kernel
theorem dX10_firstApart_4 : decode cX10_firstApart 4 = .ok (.getfield 202, 3) := by decide +kernel
theorem dX10_firstApart_7 : decode cX10_firstApart 7 = .ok (.if_icmp .ge 63, 3) := by decide +kernel
theorem dX10_firstApart_10 : decode cX10_firstApart 10 = .ok (.iload_n 2, 1) := by decide +kernel
theorem dX10_firstApart_11 : decode cX10_firstApart 11 = .ok (.ifCond .eq 9, 3) := by decide +kernel
theorem dX10_firstApart_14 : decode cX10_firstApart 14 = .ok (.iload_n 3, 1) := by decide +kernel
theorem dX10_firstApart_15 : decode cX10_firstApart 15 = .ok (.iconst 1, 1) := by decide +kernel
theorem dX10_firstApart_16 : decode cX10_firstApart 16 = .ok (.iadd, 1) := by decide +kernel
theorem dX10_firstApart_17 : decode cX10_firstApart 17 = .ok (.goto 4, 3) := by decide +kernel
theorem dX10_firstApart_20 : decode cX10_firstApart 20 = .ok (.iconst 0, 1) := by decide +kernel
theorem dX10_firstApart_21 : decode cX10_firstApart 21 = .ok (.istore 4, 2) := by decide +kernel
theorem dX10_firstApart_23 : decode cX10_firstApart 23 = .ok (.iload 4, 2) := by decide +kernel
theorem dX10_firstApart_25 : decode cX10_firstApart 25 = .ok (.aload_n 1, 1) := by decide +kernel
theorem dX10_firstApart_26 : decode cX10_firstApart 26 = .ok (.getfield 202, 3) := by decide +kernel
theorem dX10_firstApart_29 : decode cX10_firstApart 29 = .ok (.if_icmp .ge 35, 3) := by decide +kernel
theorem dX10_firstApart_32 : decode cX10_firstApart 32 = .ok (.aload_n 0, 1) := by decide +kernel
theorem dX10_firstApart_33 : decode cX10_firstApart 33 = .ok (.getfield 213, 3) := by decide +kernel
theorem dX10_firstApart_36 : decode cX10_firstApart 36 = .ok (.iload_n 3, 1) := by decide +kernel
theorem dX10_firstApart_37 : decode cX10_firstApart 37 = .ok (.iaload, 1) := by decide +kernel
theorem dX10_firstApart_38 : decode cX10_firstApart 38 = .ok (.aload_n 1, 1) := by decide +kernel
theorem dX10_firstApart_39 : decode cX10_firstApart 39 = .ok (.getfield 213, 3) := by decide +kernel
theorem dX10_firstApart_42 : decode cX10_firstApart 42 = .ok (.iload 4, 2) := by decide +kernel
theorem dX10_firstApart_44 : decode cX10_firstApart 44 = .ok (.iaload, 1) := by decide +kernel
theorem dX10_firstApart_45 : decode cX10_firstApart 45 = .ok (.iand, 1) := by decide +kernel
theorem dX10_firstApart_46 : decode cX10_firstApart 46 = .ok (.ifCond .ne 12, 3) := by decide +kernel
theorem dX10_firstApart_49 : decode cX10_firstApart 49 = .ok (.sipush 1000, 3) := by decide +kernel
theorem dX10_firstApart_52 : decode cX10_firstApart 52 = .ok (.iload_n 3, 1) := by decide +kernel
theorem dX10_firstApart_53 : decode cX10_firstApart 53 = .ok (.imul, 1) := by decide +kernel
theorem dX10_firstApart_54 : decode cX10_firstApart 54 = .ok (.iload 4, 2) := by decide +kernel
theorem dX10_firstApart_56 : decode cX10_firstApart 56 = .ok (.iadd, 1) := by decide +kernel
theorem dX10_firstApart_57 : decode cX10_firstApart 57 = .ok (.ireturn, 1) := by decide +kernel
theorem dX10_firstApart_58 : decode cX10_firstApart 58 = .ok (.iinc 4 1, 3) := by decide +kernel
theorem dX10_firstApart_61 : decode cX10_firstApart 61 = .ok (.goto (-38), 3) := by decide +kernel
theorem dX10_firstApart_64 : decode cX10_firstApart 64 = .ok (.iinc 3 1, 3) := by decide +kernel
theorem dX10_firstApart_67 : decode cX10_firstApart 67 = .ok (.goto (-65), 3) := by decide +kernel
theorem dX10_firstApart_70 : decode cX10_firstApart 70 = .ok (.bipush (-2), 2) := by decide +kernel
theorem dX10_firstApart_72 : decode cX10_firstApart 72 = .ok (.ireturn, 1) := by decide +kernel
theorem dX10_smallestMeeting_0 : decode cX10_smallestMeeting 0 = .ok (.aload_n 0, 1) := by decide +kernel
theorem dX10_smallestMeeting_1 : decode cX10_smallestMeeting 1 = .ok (.getfield 63, 3) := by decide +kernel
theorem dX10_smallestMeeting_4 : decode cX10_smallestMeeting 4 = .ok (.aload_n 0, 1) := by decide +kernel
theorem dX10_smallestMeeting_5 : decode cX10_smallestMeeting 5 = .ok (.getfield 10, 3) := by decide +kernel
theorem dX10_smallestMeeting_8 : decode cX10_smallestMeeting 8 = .ok (.getfield 87, 3) := by decide +kernel
theorem dX10_smallestMeeting_11 : decode cX10_smallestMeeting 11 = .ok (.invokevirtual 122, 3) := by decide +kernel
theorem dX10_smallestMeeting_14 : decode cX10_smallestMeeting 14 = .ok (.aload_n 0, 1) := by decide +kernel
theorem dX10_smallestMeeting_15 : decode cX10_smallestMeeting 15 = .ok (.getfield 63, 3) := by decide +kernel
theorem dX10_smallestMeeting_18 : decode cX10_smallestMeeting 18 = .ok (.aload_n 1, 1) := by decide +kernel
theorem dX10_smallestMeeting_19 : decode cX10_smallestMeeting 19 = .ok (.invokevirtual 174, 3) := by decide +kernel
theorem dX10_smallestMeeting_22 : decode cX10_smallestMeeting 22 = .ok (.aload_n 0, 1) := by decide +kernel
theorem dX10_smallestMeeting_23 : decode cX10_smallestMeeting 23 = .ok (.getfield 63, 3) := by decide +kernel
theorem dX10_smallestMeeting_26 : decode cX10_smallestMeeting 26 = .ok (.getfield 126, 3) := by decide +kernel
theorem dX10_smallestMeeting_29 : decode cX10_smallestMeeting 29 = .ok (.invokevirtual 225, 3) := by decide +kernel
theorem dX10_smallestMeeting_32 : decode cX10_smallestMeeting 32 = .ok (.aload_n 0, 1) := by decide +kernel
theorem dX10_smallestMeeting_33 : decode cX10_smallestMeeting 33 = .ok (.getfield 63, 3) := by decide +kernel
theorem dX10_smallestMeeting_36 : decode cX10_smallestMeeting 36 = .ok (.getfield 126, 3) := by decide +kernel
theorem dX10_smallestMeeting_39 : decode cX10_smallestMeeting 39 = .ok (.invokevirtual 254, 3) := by decide +kernel
theorem dX10_smallestMeeting_42 : decode cX10_smallestMeeting 42 = .ok (.ireturn, 1) := by decide +kernel
theorem dX10_even_0 : decode cX10_even 0 = .ok (.aload_n 0, 1) := by decide +kernel
theorem dX10_even_1 : decode cX10_even 1 = .ok (.iload_n 1, 1) := by decide +kernel
theorem dX10_even_2 : decode cX10_even 2 = .ok (.invokevirtual 166, 3) := by decide +kernel
theorem dX10_even_5 : decode cX10_even 5 = .ok (.astore_n 2, 1) := by decide +kernel
theorem dX10_even_6 : decode cX10_even 6 = .ok (.aload_n 2, 1) := by decide +kernel
theorem dX10_even_7 : decode cX10_even 7 = .ok (.ifnonnull 9, 3) := by decide +kernel
theorem dX10_even_10 : decode cX10_even 10 = .ok (.aload_n 0, 1) := by decide +kernel
theorem dX10_even_11 : decode cX10_even 11 = .ok (.iconst 1, 1) := by decide +kernel
theorem dX10_even_12 : decode cX10_even 12 = .ok (.invokevirtual 109, 3) := by decide +kernel
theorem dX10_even_15 : decode cX10_even 15 = .ok (.ireturn, 1) := by decide +kernel
theorem dX10_even_16 : decode cX10_even 16 = .ok (.aload_n 0, 1) := by decide +kernel
theorem dX10_even_17 : decode cX10_even 17 = .ok (.getfield 49, 3) := by decide +kernel
theorem dX10_even_20 : decode cX10_even 20 = .ok (.iconst 5, 1) := by decide +kernel
theorem dX10_even_21 : decode cX10_even 21 = .ok (.iconst 0, 1) := by decide +kernel
theorem dX10_even_22 : decode cX10_even 22 = .ok (.iconst 0, 1) := by decide +kernel
theorem dX10_even_23 : decode cX10_even 23 = .ok (.invokevirtual 99, 3) := by decide +kernel
theorem dX10_even_26 : decode cX10_even 26 = .ok (.getfield 257, 3) := by decide +kernel
theorem dX10_even_29 : decode cX10_even 29 = .ok (.getfield 263, 3) := by decide +kernel
theorem dX10_even_32 : decode cX10_even 32 = .ok (.aload_n 0, 1) := by decide +kernel
theorem dX10_even_33 : decode cX10_even 33 = .ok (.getfield 36, 3) := by decide +kernel
theorem dX10_even_36 : decode cX10_even 36 = .ok (.invokevirtual 264, 3) := by decide +kernel
theorem dX10_even_39 : decode cX10_even 39 = .ok (.aload_n 0, 1) := by decide +kernel
theorem dX10_even_40 : decode cX10_even 40 = .ok (.getfield 36, 3) := by decide +kernel
theorem dX10_even_43 : decode cX10_even 43 = .ok (.iload_n 1, 1) := by decide +kernel
theorem dX10_even_44 : decode cX10_even 44 = .ok (.aload_n 2, 1) := by decide +kernel
theorem dX10_even_45 : decode cX10_even 45 = .ok (.getfield 202, 3) := by decide +kernel
theorem dX10_even_48 : decode cX10_even 48 = .ok (.invokevirtual 268, 3) := by decide +kernel
theorem dX10_even_51 : decode cX10_even 51 = .ok (.aload_n 0, 1) := by decide +kernel
theorem dX10_even_52 : decode cX10_even 52 = .ok (.invokevirtual 112, 3) := by decide +kernel
theorem dX10_even_55 : decode cX10_even 55 = .ok (.ireturn, 1) := by decide +kernel
theorem dX10_part_0 : decode cX10_part 0 = .ok (.aload_n 0, 1) := by decide +kernel
theorem dX10_part_1 : decode cX10_part 1 = .ok (.getfield 36, 3) := by decide +kernel
theorem dX10_part_4 : decode cX10_part 4 = .ok (.iload_n 1, 1) := by decide +kernel
theorem dX10_part_5 : decode cX10_part 5 = .ok (.invokevirtual 271, 3) := by decide +kernel
theorem dX10_part_8 : decode cX10_part 8 = .ok (.ifCond .ne 9, 3) := by decide +kernel
theorem dX10_part_11 : decode cX10_part 11 = .ok (.aload_n 0, 1) := by decide +kernel
theorem dX10_part_12 : decode cX10_part 12 = .ok (.iconst 1, 1) := by decide +kernel
theorem dX10_part_13 : decode cX10_part 13 = .ok (.invokevirtual 109, 3) := by decide +kernel
theorem dX10_part_16 : decode cX10_part 16 = .ok (.ireturn, 1) := by decide +kernel
theorem dX10_part_17 : decode cX10_part 17 = .ok (.iload_n 2, 1) := by decide +kernel
theorem dX10_part_18 : decode cX10_part 18 = .ok (.ifCond .lt 32, 3) := by decide +kernel
theorem dX10_part_21 : decode cX10_part 21 = .ok (.iload_n 2, 1) := by decide +kernel
theorem dX10_part_22 : decode cX10_part 22 = .ok (.sipush 1000, 3) := by decide +kernel
theorem dX10_part_25 : decode cX10_part 25 = .ok (.if_icmp .gt 25, 3) := by decide +kernel
theorem dX10_part_28 : decode cX10_part 28 = .ok (.aload_n 0, 1) := by decide +kernel
theorem dX10_part_29 : decode cX10_part 29 = .ok (.getfield 36, 3) := by decide +kernel
theorem dX10_part_32 : decode cX10_part 32 = .ok (.invokevirtual 274, 3) := by decide +kernel
theorem dX10_part_35 : decode cX10_part 35 = .ok (.aload_n 0, 1) := by decide +kernel
theorem dX10_part_36 : decode cX10_part 36 = .ok (.getfield 36, 3) := by decide +kernel
theorem dX10_part_39 : decode cX10_part 39 = .ok (.getfield 277, 3) := by decide +kernel
theorem dX10_part_42 : decode cX10_part 42 = .ok (.iload_n 1, 1) := by decide +kernel
theorem dX10_part_43 : decode cX10_part 43 = .ok (.iaload, 1) := by decide +kernel
theorem dX10_part_44 : decode cX10_part 44 = .ok (.isub, 1) := by decide +kernel
theorem dX10_part_45 : decode cX10_part 45 = .ok (.iload_n 2, 1) := by decide +kernel
theorem dX10_part_46 : decode cX10_part 46 = .ok (.iadd, 1) := by decide +kernel
theorem dX10_part_47 : decode cX10_part 47 = .ok (.ifCond .ne 9, 3) := by decide +kernel
theorem dX10_part_50 : decode cX10_part 50 = .ok (.aload_n 0, 1) := by decide +kernel
theorem dX10_part_51 : decode cX10_part 51 = .ok (.iconst 2, 1) := by decide +kernel
theorem dX10_part_52 : decode cX10_part 52 = .ok (.invokevirtual 109, 3) := by decide +kernel
theorem dX10_part_55 : decode cX10_part 55 = .ok (.ireturn, 1) := by decide +kernel
theorem dX10_part_56 : decode cX10_part 56 = .ok (.aload_n 0, 1) := by decide +kernel
theorem dX10_part_57 : decode cX10_part 57 = .ok (.getfield 49, 3) := by decide +kernel
theorem dX10_part_60 : decode cX10_part 60 = .ok (.iconst 4, 1) := by decide +kernel
theorem dX10_part_61 : decode cX10_part 61 = .ok (.iload_n 1, 1) := by decide +kernel
theorem dX10_part_62 : decode cX10_part 62 = .ok (.aload_n 0, 1) := by decide +kernel
theorem dX10_part_63 : decode cX10_part 63 = .ok (.getfield 36, 3) := by decide +kernel
theorem dX10_part_66 : decode cX10_part 66 = .ok (.getfield 277, 3) := by decide +kernel
theorem dX10_part_69 : decode cX10_part 69 = .ok (.iload_n 1, 1) := by decide +kernel
theorem dX10_part_70 : decode cX10_part 70 = .ok (.iaload, 1) := by decide +kernel
theorem dX10_part_71 : decode cX10_part 71 = .ok (.invokevirtual 99, 3) := by decide +kernel
theorem dX10_part_74 : decode cX10_part 74 = .ok (.pop, 1) := by decide +kernel
theorem dX10_part_75 : decode cX10_part 75 = .ok (.aload_n 0, 1) := by decide +kernel
theorem dX10_part_76 : decode cX10_part 76 = .ok (.getfield 36, 3) := by decide +kernel
theorem dX10_part_79 : decode cX10_part 79 = .ok (.getfield 277, 3) := by decide +kernel
theorem dX10_part_82 : decode cX10_part 82 = .ok (.iload_n 1, 1) := by decide +kernel
theorem dX10_part_83 : decode cX10_part 83 = .ok (.iload_n 2, 1) := by decide +kernel
theorem dX10_part_84 : decode cX10_part 84 = .ok (.iastore, 1) := by decide +kernel
theorem dX10_part_85 : decode cX10_part 85 = .ok (.aload_n 0, 1) := by decide +kernel
theorem dX10_part_86 : decode cX10_part 86 = .ok (.invokevirtual 112, 3) := by decide +kernel
theorem dX10_part_89 : decode cX10_part 89 = .ok (.ireturn, 1) := by decide +kernel
theorem dX10_partOf_0 : decode cX10_partOf 0 = .ok (.aload_n 0, 1) := by decide +kernel
theorem dX10_partOf_1 : decode cX10_partOf 1 = .ok (.getfield 36, 3) := by decide +kernel
theorem dX10_partOf_4 : decode cX10_partOf 4 = .ok (.iload_n 1, 1) := by decide +kernel
theorem dX10_partOf_5 : decode cX10_partOf 5 = .ok (.invokevirtual 271, 3) := by decide +kernel
theorem dX10_partOf_8 : decode cX10_partOf 8 = .ok (.ifCond .eq 15, 3) := by decide +kernel
theorem dX10_partOf_11 : decode cX10_partOf 11 = .ok (.aload_n 0, 1) := by decide +kernel
theorem dX10_partOf_12 : decode cX10_partOf 12 = .ok (.getfield 36, 3) := by decide +kernel
theorem dX10_partOf_15 : decode cX10_partOf 15 = .ok (.getfield 277, 3) := by decide +kernel
theorem dX10_partOf_18 : decode cX10_partOf 18 = .ok (.iload_n 1, 1) := by decide +kernel
theorem dX10_partOf_19 : decode cX10_partOf 19 = .ok (.iaload, 1) := by decide +kernel
theorem dX10_partOf_20 : decode cX10_partOf 20 = .ok (.goto 4, 3) := by decide +kernel
theorem dX10_partOf_23 : decode cX10_partOf 23 = .ok (.iconst (-1), 1) := by decide +kernel
theorem dX10_partOf_24 : decode cX10_partOf 24 = .ok (.ireturn, 1) := by decide +kernel
theorem dX10_load_0 : decode cX10_load 0 = .ok (.aload_n 0, 1) := by decide +kernel
theorem dX10_load_1 : decode cX10_load 1 = .ok (.aload_n 0, 1) := by decide +kernel
theorem dX10_load_2 : decode cX10_load 2 = .ok (.getfield 36, 3) := by decide +kernel
theorem dX10_load_5 : decode cX10_load 5 = .ok (.getfield 280, 3) := by decide +kernel
theorem dX10_load_8 : decode cX10_load 8 = .ok (.invokevirtual 166, 3) := by decide +kernel
theorem dX10_load_11 : decode cX10_load 11 = .ok (.astore_n 2, 1) := by decide +kernel
theorem dX10_load_12 : decode cX10_load 12 = .ok (.aload_n 2, 1) := by decide +kernel
theorem dX10_load_13 : decode cX10_load 13 = .ok (.ifnonnull 5, 3) := by decide +kernel
theorem dX10_load_16 : decode cX10_load 16 = .ok (.iconst (-1), 1) := by decide +kernel
theorem dX10_load_17 : decode cX10_load 17 = .ok (.ireturn, 1) := by decide +kernel
theorem dX10_load_18 : decode cX10_load 18 = .ok (.iload_n 1, 1) := by decide +kernel
theorem dX10_load_19 : decode cX10_load 19 = .ok (.tableswitch 79 0 3 #[29, 37, 55, 73], 29) := by decide +kernel
theorem dX10_load_48 : decode cX10_load 48 = .ok (.aload_n 0, 1) := by decide +kernel
theorem dX10_load_49 : decode cX10_load 49 = .ok (.getfield 36, 3) := by decide +kernel
theorem dX10_load_52 : decode cX10_load 52 = .ok (.getfield 280, 3) := by decide +kernel
theorem dX10_load_55 : decode cX10_load 55 = .ok (.ireturn, 1) := by decide +kernel
theorem dX10_load_56 : decode cX10_load 56 = .ok (.aload_n 0, 1) := by decide +kernel
theorem dX10_load_57 : decode cX10_load 57 = .ok (.aload_n 2, 1) := by decide +kernel
theorem dX10_load_58 : decode cX10_load 58 = .ok (.aload_n 0, 1) := by decide +kernel
theorem dX10_load_59 : decode cX10_load 59 = .ok (.aload_n 2, 1) := by decide +kernel
theorem dX10_load_60 : decode cX10_load 60 = .ok (.invokevirtual 283, 3) := by decide +kernel
theorem dX10_load_63 : decode cX10_load 63 = .ok (.invokevirtual 286, 3) := by decide +kernel
theorem dX10_load_66 : decode cX10_load 66 = .ok (.aload_n 0, 1) := by decide +kernel
theorem dX10_load_67 : decode cX10_load 67 = .ok (.getfield 70, 3) := by decide +kernel
theorem dX10_load_70 : decode cX10_load 70 = .ok (.getfield 289, 3) := by decide +kernel
theorem dX10_load_73 : decode cX10_load 73 = .ok (.ireturn, 1) := by decide +kernel
theorem dX10_load_74 : decode cX10_load 74 = .ok (.aload_n 0, 1) := by decide +kernel
theorem dX10_load_75 : decode cX10_load 75 = .ok (.aload_n 2, 1) := by decide +kernel
theorem dX10_load_76 : decode cX10_load 76 = .ok (.aload_n 0, 1) := by decide +kernel
theorem dX10_load_77 : decode cX10_load 77 = .ok (.aload_n 2, 1) := by decide +kernel
theorem dX10_load_78 : decode cX10_load 78 = .ok (.invokevirtual 283, 3) := by decide +kernel
theorem dX10_load_81 : decode cX10_load 81 = .ok (.invokevirtual 286, 3) := by decide +kernel
theorem dX10_load_84 : decode cX10_load 84 = .ok (.aload_n 0, 1) := by decide +kernel
theorem dX10_load_85 : decode cX10_load 85 = .ok (.getfield 70, 3) := by decide +kernel
theorem dX10_load_88 : decode cX10_load 88 = .ok (.getfield 292, 3) := by decide +kernel
theorem dX10_load_91 : decode cX10_load 91 = .ok (.ireturn, 1) := by decide +kernel
theorem dX10_load_92 : decode cX10_load 92 = .ok (.aload_n 0, 1) := by decide +kernel
theorem dX10_load_93 : decode cX10_load 93 = .ok (.aload_n 2, 1) := by decide +kernel
theorem dX10_load_94 : decode cX10_load 94 = .ok (.invokevirtual 283, 3) := by decide +kernel
theorem dX10_load_97 : decode cX10_load 97 = .ok (.ireturn, 1) := by decide +kernel
theorem dX10_load_98 : decode cX10_load 98 = .ok (.iconst (-1), 1) := by decide +kernel
theorem dX10_load_99 : decode cX10_load 99 = .ok (.ireturn, 1) := by decide +kernel
theorem dX10_loadOf_0 : decode cX10_loadOf 0 = .ok (.aload_n 0, 1) := by decide +kernel
theorem dX10_loadOf_1 : decode cX10_loadOf 1 = .ok (.aload_n 0, 1) := by decide +kernel
theorem dX10_loadOf_2 : decode cX10_loadOf 2 = .ok (.getfield 36, 3) := by decide +kernel
theorem dX10_loadOf_5 : decode cX10_loadOf 5 = .ok (.getfield 280, 3) := by decide +kernel
theorem dX10_loadOf_8 : decode cX10_loadOf 8 = .ok (.invokevirtual 166, 3) := by decide +kernel
theorem dX10_loadOf_11 : decode cX10_loadOf 11 = .ok (.astore_n 3, 1) := by decide +kernel
theorem dX10_loadOf_12 : decode cX10_loadOf 12 = .ok (.aload_n 3, 1) := by decide +kernel
theorem dX10_loadOf_13 : decode cX10_loadOf 13 = .ok (.ifnull 14, 3) := by decide +kernel
theorem dX10_loadOf_16 : decode cX10_loadOf 16 = .ok (.aload_n 0, 1) := by decide +kernel
theorem dX10_loadOf_17 : decode cX10_loadOf 17 = .ok (.getfield 10, 3) := by decide +kernel
theorem dX10_loadOf_20 : decode cX10_loadOf 20 = .ok (.iload_n 1, 1) := by decide +kernel
theorem dX10_loadOf_21 : decode cX10_loadOf 21 = .ok (.invokevirtual 106, 3) := by decide +kernel
theorem dX10_loadOf_24 : decode cX10_loadOf 24 = .ok (.ifCond .ne 5, 3) := by decide +kernel
theorem dX10_loadOf_27 : decode cX10_loadOf 27 = .ok (.iconst (-1), 1) := by decide +kernel
theorem dX10_loadOf_28 : decode cX10_loadOf 28 = .ok (.ireturn, 1) := by decide +kernel
theorem dX10_loadOf_29 : decode cX10_loadOf 29 = .ok (.aload_n 0, 1) := by decide +kernel
theorem dX10_loadOf_30 : decode cX10_loadOf 30 = .ok (.aload_n 3, 1) := by decide +kernel
theorem dX10_loadOf_31 : decode cX10_loadOf 31 = .ok (.iload_n 1, 1) := by decide +kernel
theorem dX10_loadOf_32 : decode cX10_loadOf 32 = .ok (.invokevirtual 286, 3) := by decide +kernel
theorem dX10_loadOf_35 : decode cX10_loadOf 35 = .ok (.aload_n 0, 1) := by decide +kernel
theorem dX10_loadOf_36 : decode cX10_loadOf 36 = .ok (.getfield 70, 3) := by decide +kernel
theorem dX10_loadOf_39 : decode cX10_loadOf 39 = .ok (.iload_n 2, 1) := by decide +kernel
theorem dX10_loadOf_40 : decode cX10_loadOf 40 = .ok (.invokevirtual 295, 3) := by decide +kernel
theorem dX10_loadOf_43 : decode cX10_loadOf 43 = .ok (.ireturn, 1) := by decide +kernel
theorem dX10_weight_0 : decode cX10_weight 0 = .ok (.aload_n 0, 1) := by decide +kernel
theorem dX10_weight_1 : decode cX10_weight 1 = .ok (.getfield 10, 3) := by decide +kernel
theorem dX10_weight_4 : decode cX10_weight 4 = .ok (.iload_n 1, 1) := by decide +kernel
theorem dX10_weight_5 : decode cX10_weight 5 = .ok (.invokevirtual 106, 3) := by decide +kernel
theorem dX10_weight_8 : decode cX10_weight 8 = .ok (.ifCond .ne 9, 3) := by decide +kernel
theorem dX10_weight_11 : decode cX10_weight 11 = .ok (.aload_n 0, 1) := by decide +kernel
theorem dX10_weight_12 : decode cX10_weight 12 = .ok (.iconst 1, 1) := by decide +kernel
theorem dX10_weight_13 : decode cX10_weight 13 = .ok (.invokevirtual 109, 3) := by decide +kernel
theorem dX10_weight_16 : decode cX10_weight 16 = .ok (.ireturn, 1) := by decide +kernel
theorem dX10_weight_17 : decode cX10_weight 17 = .ok (.iload_n 2, 1) := by decide +kernel
theorem dX10_weight_18 : decode cX10_weight 18 = .ok (.ifCond .lt 10, 3) := by decide +kernel
theorem dX10_weight_21 : decode cX10_weight 21 = .ok (.iload_n 2, 1) := by decide +kernel
theorem dX10_weight_22 : decode cX10_weight 22 = .ok (.sipush 1000, 3) := by decide +kernel
theorem dX10_weight_25 : decode cX10_weight 25 = .ok (.if_icmp .le 9, 3) := by decide +kernel
theorem dX10_weight_28 : decode cX10_weight 28 = .ok (.aload_n 0, 1) := by decide +kernel
theorem dX10_weight_29 : decode cX10_weight 29 = .ok (.iconst 2, 1) := by decide +kernel
theorem dX10_weight_30 : decode cX10_weight 30 = .ok (.invokevirtual 109, 3) := by decide +kernel
theorem dX10_weight_33 : decode cX10_weight 33 = .ok (.ireturn, 1) := by decide +kernel
theorem dX10_weight_34 : decode cX10_weight 34 = .ok (.aload_n 0, 1) := by decide +kernel
theorem dX10_weight_35 : decode cX10_weight 35 = .ok (.getfield 49, 3) := by decide +kernel
theorem dX10_weight_38 : decode cX10_weight 38 = .ok (.iconst 3, 1) := by decide +kernel
theorem dX10_weight_39 : decode cX10_weight 39 = .ok (.iload_n 1, 1) := by decide +kernel
theorem dX10_weight_40 : decode cX10_weight 40 = .ok (.aload_n 0, 1) := by decide +kernel
theorem dX10_weight_41 : decode cX10_weight 41 = .ok (.getfield 10, 3) := by decide +kernel
theorem dX10_weight_44 : decode cX10_weight 44 = .ok (.getfield 96, 3) := by decide +kernel
theorem dX10_weight_47 : decode cX10_weight 47 = .ok (.iload_n 1, 1) := by decide +kernel
theorem dX10_weight_48 : decode cX10_weight 48 = .ok (.iaload, 1) := by decide +kernel
theorem dX10_weight_49 : decode cX10_weight 49 = .ok (.invokevirtual 99, 3) := by decide +kernel
theorem dX10_weight_52 : decode cX10_weight 52 = .ok (.pop, 1) := by decide +kernel
theorem dX10_weight_53 : decode cX10_weight 53 = .ok (.aload_n 0, 1) := by decide +kernel
theorem dX10_weight_54 : decode cX10_weight 54 = .ok (.getfield 10, 3) := by decide +kernel
theorem dX10_weight_57 : decode cX10_weight 57 = .ok (.getfield 96, 3) := by decide +kernel
theorem dX10_weight_60 : decode cX10_weight 60 = .ok (.iload_n 1, 1) := by decide +kernel
theorem dX10_weight_61 : decode cX10_weight 61 = .ok (.iload_n 2, 1) := by decide +kernel
theorem dX10_weight_62 : decode cX10_weight 62 = .ok (.iastore, 1) := by decide +kernel
theorem dX10_weight_63 : decode cX10_weight 63 = .ok (.aload_n 0, 1) := by decide +kernel
theorem dX10_weight_64 : decode cX10_weight 64 = .ok (.invokevirtual 112, 3) := by decide +kernel
theorem dX10_weight_67 : decode cX10_weight 67 = .ok (.ireturn, 1) := by decide +kernel
theorem dX10_bound_0 : decode cX10_bound 0 = .ok (.aload_n 0, 1) := by decide +kernel
theorem dX10_bound_1 : decode cX10_bound 1 = .ok (.iload_n 1, 1) := by decide +kernel
theorem dX10_bound_2 : decode cX10_bound 2 = .ok (.invokevirtual 166, 3) := by decide +kernel
theorem dX10_bound_5 : decode cX10_bound 5 = .ok (.astore_n 3, 1) := by decide +kernel
theorem dX10_bound_6 : decode cX10_bound 6 = .ok (.aload_n 3, 1) := by decide +kernel
theorem dX10_bound_7 : decode cX10_bound 7 = .ok (.ifnonnull 9, 3) := by decide +kernel
theorem dX10_bound_10 : decode cX10_bound 10 = .ok (.aload_n 0, 1) := by decide +kernel
