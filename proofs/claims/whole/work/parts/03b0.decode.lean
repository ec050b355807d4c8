theorem dX3_init_0 : decode cX3_init 0 = .ok (.aload_n 0, 1) := by decide +kernel
theorem dX3_init_1 : decode cX3_init 1 = .ok (.invokespecial 3, 3) := by decide +kernel
theorem dX3_init_4 : decode cX3_init 4 = .ok (.aload_n 0, 1) := by decide +kernel
theorem dX3_init_5 : decode cX3_init 5 = .ok (.new 9, 3) := by decide +kernel
theorem dX3_init_8 : decode cX3_init 8 = .ok (.dup, 1) := by decide +kernel
theorem dX3_init_9 : decode cX3_init 9 = .ok (.invokespecial 11, 3) := by decide +kernel
theorem dX3_init_12 : decode cX3_init 12 = .ok (.putfield 12, 3) := by decide +kernel
theorem dX3_init_15 : decode cX3_init 15 = .ok (.aload_n 0, 1) := by decide +kernel
theorem dX3_init_16 : decode cX3_init 16 = .ok (.sipush 320, 3) := by decide +kernel
theorem dX3_init_19 : decode cX3_init 19 = .ok (.newarray .int, 2) := by decide +kernel
theorem dX3_init_21 : decode cX3_init 21 = .ok (.putfield 18, 3) := by decide +kernel
theorem dX3_init_24 : decode cX3_init 24 = .ok (.aload_n 0, 1) := by decide +kernel
theorem dX3_init_25 : decode cX3_init 25 = .ok (.bipush 16, 2) := by decide +kernel
theorem dX3_init_27 : decode cX3_init 27 = .ok (.newarray .int, 2) := by decide +kernel
theorem dX3_init_29 : decode cX3_init 29 = .ok (.putfield 22, 3) := by decide +kernel
theorem dX3_init_32 : decode cX3_init 32 = .ok (.aload_n 0, 1) := by decide +kernel
theorem dX3_init_33 : decode cX3_init 33 = .ok (.bipush 16, 2) := by decide +kernel
theorem dX3_init_35 : decode cX3_init 35 = .ok (.newarray .int, 2) := by decide +kernel
theorem dX3_init_37 : decode cX3_init 37 = .ok (.putfield 25, 3) := by decide +kernel
theorem dX3_init_40 : decode cX3_init 40 = .ok (.aload_n 0, 1) := by decide +kernel
theorem dX3_init_41 : decode cX3_init 41 = .ok (.iconst 0, 1) := by decide +kernel
theorem dX3_init_42 : decode cX3_init 42 = .ok (.putfield 28, 3) := by decide +kernel
theorem dX3_init_45 : decode cX3_init 45 = .ok (.aload_n 0, 1) := by decide +kernel
theorem dX3_init_46 : decode cX3_init 46 = .ok (.iconst 0, 1) := by decide +kernel
theorem dX3_init_47 : decode cX3_init 47 = .ok (.putfield 32, 3) := by decide +kernel
theorem dX3_init_50 : decode cX3_init 50 = .ok (.aload_n 0, 1) := by decide +kernel
theorem dX3_init_51 : decode cX3_init 51 = .ok (.bipush 16, 2) := by decide +kernel
theorem dX3_init_53 : decode cX3_init 53 = .ok (.newarray .int, 2) := by decide +kernel
theorem dX3_init_55 : decode cX3_init 55 = .ok (.putfield 36, 3) := by decide +kernel
theorem dX3_init_58 : decode cX3_init 58 = .ok (.aload_n 0, 1) := by decide +kernel
theorem dX3_init_59 : decode cX3_init 59 = .ok (.bipush 16, 2) := by decide +kernel
theorem dX3_init_61 : decode cX3_init 61 = .ok (.newarray .int, 2) := by decide +kernel
theorem dX3_init_63 : decode cX3_init 63 = .ok (.putfield 39, 3) := by decide +kernel
theorem dX3_init_66 : decode cX3_init 66 = .ok (.aload_n 0, 1) := by decide +kernel
theorem dX3_init_67 : decode cX3_init 67 = .ok (.iconst 0, 1) := by decide +kernel
theorem dX3_init_68 : decode cX3_init 68 = .ok (.putfield 42, 3) := by decide +kernel
theorem dX3_init_71 : decode cX3_init 71 = .ok (.aload_n 0, 1) := by decide +kernel
theorem dX3_init_72 : decode cX3_init 72 = .ok (.iconst 0, 1) := by decide +kernel
theorem dX3_init_73 : decode cX3_init 73 = .ok (.putfield 45, 3) := by decide +kernel
theorem dX3_init_76 : decode cX3_init 76 = .ok (.return_, 1) := by decide +kernel
theorem dX3_begin_0 : decode cX3_begin 0 = .ok (.aload_n 0, 1) := by decide +kernel
theorem dX3_begin_1 : decode cX3_begin 1 = .ok (.getfield 12, 3) := by decide +kernel
theorem dX3_begin_4 : decode cX3_begin 4 = .ok (.iload_n 1, 1) := by decide +kernel
theorem dX3_begin_5 : decode cX3_begin 5 = .ok (.invokevirtual 48, 3) := by decide +kernel
theorem dX3_begin_8 : decode cX3_begin 8 = .ok (.return_, 1) := by decide +kernel
theorem dX3_gatherMost_0 : decode cX3_gatherMost 0 = .ok (.aload_n 0, 1) := by decide +kernel
theorem dX3_gatherMost_1 : decode cX3_gatherMost 1 = .ok (.iconst 0, 1) := by decide +kernel
theorem dX3_gatherMost_2 : decode cX3_gatherMost 2 = .ok (.putfield 42, 3) := by decide +kernel
theorem dX3_gatherMost_5 : decode cX3_gatherMost 5 = .ok (.iconst 0, 1) := by decide +kernel
theorem dX3_gatherMost_6 : decode cX3_gatherMost 6 = .ok (.istore_n 3, 1) := by decide +kernel
theorem dX3_gatherMost_7 : decode cX3_gatherMost 7 = .ok (.iload_n 3, 1) := by decide +kernel
theorem dX3_gatherMost_8 : decode cX3_gatherMost 8 = .ok (.aload_n 1, 1) := by decide +kernel
theorem dX3_gatherMost_9 : decode cX3_gatherMost 9 = .ok (.getfield 52, 3) := by decide +kernel
theorem dX3_gatherMost_12 : decode cX3_gatherMost 12 = .ok (.if_icmp .ge 36, 3) := by decide +kernel
theorem dX3_gatherMost_15 : decode cX3_gatherMost 15 = .ok (.iload_n 3, 1) := by decide +kernel
theorem dX3_gatherMost_16 : decode cX3_gatherMost 16 = .ok (.bipush 16, 2) := by decide +kernel
theorem dX3_gatherMost_18 : decode cX3_gatherMost 18 = .ok (.if_icmp .ge 30, 3) := by decide +kernel
theorem dX3_gatherMost_21 : decode cX3_gatherMost 21 = .ok (.iload_n 2, 1) := by decide +kernel
theorem dX3_gatherMost_22 : decode cX3_gatherMost 22 = .ok (.iload_n 3, 1) := by decide +kernel
theorem dX3_gatherMost_23 : decode cX3_gatherMost 23 = .ok (.ishr, 1) := by decide +kernel
theorem dX3_gatherMost_24 : decode cX3_gatherMost 24 = .ok (.iconst 1, 1) := by decide +kernel
theorem dX3_gatherMost_25 : decode cX3_gatherMost 25 = .ok (.iand, 1) := by decide +kernel
theorem dX3_gatherMost_26 : decode cX3_gatherMost 26 = .ok (.ifCond .eq 16, 3) := by decide +kernel
theorem dX3_gatherMost_29 : decode cX3_gatherMost 29 = .ok (.aload_n 0, 1) := by decide +kernel
theorem dX3_gatherMost_30 : decode cX3_gatherMost 30 = .ok (.iconst 1, 1) := by decide +kernel
theorem dX3_gatherMost_31 : decode cX3_gatherMost 31 = .ok (.iload_n 3, 1) := by decide +kernel
theorem dX3_gatherMost_32 : decode cX3_gatherMost 32 = .ok (.ishl, 1) := by decide +kernel
theorem dX3_gatherMost_33 : decode cX3_gatherMost 33 = .ok (.aload_n 1, 1) := by decide +kernel
theorem dX3_gatherMost_34 : decode cX3_gatherMost 34 = .ok (.getfield 57, 3) := by decide +kernel
theorem dX3_gatherMost_37 : decode cX3_gatherMost 37 = .ok (.iload_n 3, 1) := by decide +kernel
theorem dX3_gatherMost_38 : decode cX3_gatherMost 38 = .ok (.iaload, 1) := by decide +kernel
theorem dX3_gatherMost_39 : decode cX3_gatherMost 39 = .ok (.invokevirtual 58, 3) := by decide +kernel
theorem dX3_gatherMost_42 : decode cX3_gatherMost 42 = .ok (.iinc 3 1, 3) := by decide +kernel
theorem dX3_gatherMost_45 : decode cX3_gatherMost 45 = .ok (.goto (-38), 3) := by decide +kernel
theorem dX3_gatherMost_48 : decode cX3_gatherMost 48 = .ok (.aload_n 0, 1) := by decide +kernel
theorem dX3_gatherMost_49 : decode cX3_gatherMost 49 = .ok (.iconst 0, 1) := by decide +kernel
theorem dX3_gatherMost_50 : decode cX3_gatherMost 50 = .ok (.putfield 45, 3) := by decide +kernel
theorem dX3_gatherMost_53 : decode cX3_gatherMost 53 = .ok (.aload_n 1, 1) := by decide +kernel
theorem dX3_gatherMost_54 : decode cX3_gatherMost 54 = .ok (.iload_n 2, 1) := by decide +kernel
theorem dX3_gatherMost_55 : decode cX3_gatherMost 55 = .ok (.invokevirtual 62, 3) := by decide +kernel
theorem dX3_gatherMost_58 : decode cX3_gatherMost 58 = .ok (.istore_n 3, 1) := by decide +kernel
theorem dX3_gatherMost_59 : decode cX3_gatherMost 59 = .ok (.aload_n 0, 1) := by decide +kernel
theorem dX3_gatherMost_60 : decode cX3_gatherMost 60 = .ok (.iconst 0, 1) := by decide +kernel
theorem dX3_gatherMost_61 : decode cX3_gatherMost 61 = .ok (.iconst 0, 1) := by decide +kernel
theorem dX3_gatherMost_62 : decode cX3_gatherMost 62 = .ok (.iload_n 3, 1) := by decide +kernel
theorem dX3_gatherMost_63 : decode cX3_gatherMost 63 = .ok (.iload_n 3, 1) := by decide +kernel
theorem dX3_gatherMost_64 : decode cX3_gatherMost 64 = .ok (.invokestatic 66, 3) := by decide +kernel
theorem dX3_gatherMost_67 : decode cX3_gatherMost 67 = .ok (.return_, 1) := by decide +kernel
theorem dX3_orderByStrength_0 : decode cX3_orderByStrength 0 = .ok (.aload_n 0, 1) := by decide +kernel
theorem dX3_orderByStrength_1 : decode cX3_orderByStrength 1 = .ok (.getfield 42, 3) := by decide +kernel
theorem dX3_orderByStrength_4 : decode cX3_orderByStrength 4 = .ok (.ifCond .lt 12, 3) := by decide +kernel
theorem dX3_orderByStrength_7 : decode cX3_orderByStrength 7 = .ok (.aload_n 0, 1) := by decide +kernel
theorem dX3_orderByStrength_8 : decode cX3_orderByStrength 8 = .ok (.getfield 42, 3) := by decide +kernel
theorem dX3_orderByStrength_11 : decode cX3_orderByStrength 11 = .ok (.bipush 16, 2) := by decide +kernel
theorem dX3_orderByStrength_13 : decode cX3_orderByStrength 13 = .ok (.if_icmp .lt 4, 3) := by decide +kernel
theorem dX3_orderByStrength_16 : decode cX3_orderByStrength 16 = .ok (.return_, 1) := by decide +kernel
theorem dX3_orderByStrength_17 : decode cX3_orderByStrength 17 = .ok (.aload_n 0, 1) := by decide +kernel
theorem dX3_orderByStrength_18 : decode cX3_orderByStrength 18 = .ok (.getfield 42, 3) := by decide +kernel
theorem dX3_orderByStrength_21 : decode cX3_orderByStrength 21 = .ok (.istore_n 3, 1) := by decide +kernel
theorem dX3_orderByStrength_22 : decode cX3_orderByStrength 22 = .ok (.iload_n 3, 1) := by decide +kernel
theorem dX3_orderByStrength_23 : decode cX3_orderByStrength 23 = .ok (.ifCond .le 49, 3) := by decide +kernel
theorem dX3_orderByStrength_26 : decode cX3_orderByStrength 26 = .ok (.aload_n 0, 1) := by decide +kernel
theorem dX3_orderByStrength_27 : decode cX3_orderByStrength 27 = .ok (.getfield 39, 3) := by decide +kernel
theorem dX3_orderByStrength_30 : decode cX3_orderByStrength 30 = .ok (.iload_n 3, 1) := by decide +kernel
theorem dX3_orderByStrength_31 : decode cX3_orderByStrength 31 = .ok (.iconst 1, 1) := by decide +kernel
theorem dX3_orderByStrength_32 : decode cX3_orderByStrength 32 = .ok (.isub, 1) := by decide +kernel
theorem dX3_orderByStrength_33 : decode cX3_orderByStrength 33 = .ok (.iaload, 1) := by decide +kernel
theorem dX3_orderByStrength_34 : decode cX3_orderByStrength 34 = .ok (.iload_n 2, 1) := by decide +kernel
theorem dX3_orderByStrength_35 : decode cX3_orderByStrength 35 = .ok (.if_icmp .ge 37, 3) := by decide +kernel
theorem dX3_orderByStrength_38 : decode cX3_orderByStrength 38 = .ok (.aload_n 0, 1) := by decide +kernel
theorem dX3_orderByStrength_39 : decode cX3_orderByStrength 39 = .ok (.getfield 36, 3) := by decide +kernel
theorem dX3_orderByStrength_42 : decode cX3_orderByStrength 42 = .ok (.iload_n 3, 1) := by decide +kernel
theorem dX3_orderByStrength_43 : decode cX3_orderByStrength 43 = .ok (.aload_n 0, 1) := by decide +kernel
theorem dX3_orderByStrength_44 : decode cX3_orderByStrength 44 = .ok (.getfield 36, 3) := by decide +kernel
theorem dX3_orderByStrength_47 : decode cX3_orderByStrength 47 = .ok (.iload_n 3, 1) := by decide +kernel
theorem dX3_orderByStrength_48 : decode cX3_orderByStrength 48 = .ok (.iconst 1, 1) := by decide +kernel
theorem dX3_orderByStrength_49 : decode cX3_orderByStrength 49 = .ok (.isub, 1) := by decide +kernel
theorem dX3_orderByStrength_50 : decode cX3_orderByStrength 50 = .ok (.iaload, 1) := by decide +kernel
theorem dX3_orderByStrength_51 : decode cX3_orderByStrength 51 = .ok (.iastore, 1) := by decide +kernel
theorem dX3_orderByStrength_52 : decode cX3_orderByStrength 52 = .ok (.aload_n 0, 1) := by decide +kernel
theorem dX3_orderByStrength_53 : decode cX3_orderByStrength 53 = .ok (.getfield 39, 3) := by decide +kernel
theorem dX3_orderByStrength_56 : decode cX3_orderByStrength 56 = .ok (.iload_n 3, 1) := by decide +kernel
theorem dX3_orderByStrength_57 : decode cX3_orderByStrength 57 = .ok (.aload_n 0, 1) := by decide +kernel
theorem dX3_orderByStrength_58 : decode cX3_orderByStrength 58 = .ok (.getfield 39, 3) := by decide +kernel
theorem dX3_orderByStrength_61 : decode cX3_orderByStrength 61 = .ok (.iload_n 3, 1) := by decide +kernel
theorem dX3_orderByStrength_62 : decode cX3_orderByStrength 62 = .ok (.iconst 1, 1) := by decide +kernel
theorem dX3_orderByStrength_63 : decode cX3_orderByStrength 63 = .ok (.isub, 1) := by decide +kernel
theorem dX3_orderByStrength_64 : decode cX3_orderByStrength 64 = .ok (.iaload, 1) := by decide +kernel
theorem dX3_orderByStrength_65 : decode cX3_orderByStrength 65 = .ok (.iastore, 1) := by decide +kernel
theorem dX3_orderByStrength_66 : decode cX3_orderByStrength 66 = .ok (.iinc 3 (-1), 3) := by decide +kernel
theorem dX3_orderByStrength_69 : decode cX3_orderByStrength 69 = .ok (.goto (-47), 3) := by decide +kernel
theorem dX3_orderByStrength_72 : decode cX3_orderByStrength 72 = .ok (.aload_n 0, 1) := by decide +kernel
theorem dX3_orderByStrength_73 : decode cX3_orderByStrength 73 = .ok (.getfield 36, 3) := by decide +kernel
theorem dX3_orderByStrength_76 : decode cX3_orderByStrength 76 = .ok (.iload_n 3, 1) := by decide +kernel
theorem dX3_orderByStrength_77 : decode cX3_orderByStrength 77 = .ok (.iload_n 1, 1) := by decide +kernel
theorem dX3_orderByStrength_78 : decode cX3_orderByStrength 78 = .ok (.iastore, 1) := by decide +kernel
theorem dX3_orderByStrength_79 : decode cX3_orderByStrength 79 = .ok (.aload_n 0, 1) := by decide +kernel
theorem dX3_orderByStrength_80 : decode cX3_orderByStrength 80 = .ok (.getfield 39, 3) := by decide +kernel
theorem dX3_orderByStrength_83 : decode cX3_orderByStrength 83 = .ok (.iload_n 3, 1) := by decide +kernel
theorem dX3_orderByStrength_84 : decode cX3_orderByStrength 84 = .ok (.iload_n 2, 1) := by decide +kernel
theorem dX3_orderByStrength_85 : decode cX3_orderByStrength 85 = .ok (.iastore, 1) := by decide +kernel
theorem dX3_orderByStrength_86 : decode cX3_orderByStrength 86 = .ok (.aload_n 0, 1) := by decide +kernel
theorem dX3_orderByStrength_87 : decode cX3_orderByStrength 87 = .ok (.dup, 1) := by decide +kernel
theorem dX3_orderByStrength_88 : decode cX3_orderByStrength 88 = .ok (.getfield 42, 3) := by decide +kernel
theorem dX3_orderByStrength_91 : decode cX3_orderByStrength 91 = .ok (.iconst 1, 1) := by decide +kernel
theorem dX3_orderByStrength_92 : decode cX3_orderByStrength 92 = .ok (.iadd, 1) := by decide +kernel
theorem dX3_orderByStrength_93 : decode cX3_orderByStrength 93 = .ok (.putfield 42, 3) := by decide +kernel
theorem dX3_orderByStrength_96 : decode cX3_orderByStrength 96 = .ok (.return_, 1) := by decide +kernel
theorem dX3_takeStrong_0 : decode cX3_takeStrong 0 = .ok (.iconst 2, 1) := by decide +kernel
theorem dX3_takeStrong_1 : decode cX3_takeStrong 1 = .ok (.iload 4, 2) := by decide +kernel
theorem dX3_takeStrong_3 : decode cX3_takeStrong 3 = .ok (.imul, 1) := by decide +kernel
theorem dX3_takeStrong_4 : decode cX3_takeStrong 4 = .ok (.iload_n 3, 1) := by decide +kernel
theorem dX3_takeStrong_5 : decode cX3_takeStrong 5 = .ok (.if_icmp .le 7, 3) := by decide +kernel
theorem dX3_takeStrong_8 : decode cX3_takeStrong 8 = .ok (.iconst 1, 1) := by decide +kernel
theorem dX3_takeStrong_9 : decode cX3_takeStrong 9 = .ok (.goto 4, 3) := by decide +kernel
theorem dX3_takeStrong_12 : decode cX3_takeStrong 12 = .ok (.iconst 0, 1) := by decide +kernel
theorem dX3_takeStrong_13 : decode cX3_takeStrong 13 = .ok (.istore 5, 2) := by decide +kernel
theorem dX3_takeStrong_15 : decode cX3_takeStrong 15 = .ok (.iload_n 1, 1) := by decide +kernel
theorem dX3_takeStrong_16 : decode cX3_takeStrong 16 = .ok (.ifCond .lt 31, 3) := by decide +kernel
theorem dX3_takeStrong_19 : decode cX3_takeStrong 19 = .ok (.iload_n 1, 1) := by decide +kernel
theorem dX3_takeStrong_20 : decode cX3_takeStrong 20 = .ok (.aload_n 0, 1) := by decide +kernel
theorem dX3_takeStrong_21 : decode cX3_takeStrong 21 = .ok (.getfield 42, 3) := by decide +kernel
theorem dX3_takeStrong_24 : decode cX3_takeStrong 24 = .ok (.if_icmp .ge 23, 3) := by decide +kernel
theorem dX3_takeStrong_27 : decode cX3_takeStrong 27 = .ok (.iload_n 1, 1) := by decide +kernel
theorem dX3_takeStrong_28 : decode cX3_takeStrong 28 = .ok (.bipush 16, 2) := by decide +kernel
theorem dX3_takeStrong_30 : decode cX3_takeStrong 30 = .ok (.if_icmp .ge 17, 3) := by decide +kernel
theorem dX3_takeStrong_33 : decode cX3_takeStrong 33 = .ok (.iload 5, 2) := by decide +kernel
theorem dX3_takeStrong_35 : decode cX3_takeStrong 35 = .ok (.ifCond .eq 12, 3) := by decide +kernel
theorem dX3_takeStrong_38 : decode cX3_takeStrong 38 = .ok (.aload_n 0, 1) := by decide +kernel
theorem dX3_takeStrong_39 : decode cX3_takeStrong 39 = .ok (.getfield 45, 3) := by decide +kernel
theorem dX3_takeStrong_42 : decode cX3_takeStrong 42 = .ok (.bipush 120, 2) := by decide +kernel
theorem dX3_takeStrong_44 : decode cX3_takeStrong 44 = .ok (.if_icmp .le 4, 3) := by decide +kernel
theorem dX3_takeStrong_47 : decode cX3_takeStrong 47 = .ok (.return_, 1) := by decide +kernel
theorem dX3_takeStrong_48 : decode cX3_takeStrong 48 = .ok (.aload_n 0, 1) := by decide +kernel
theorem dX3_takeStrong_49 : decode cX3_takeStrong 49 = .ok (.getfield 39, 3) := by decide +kernel
theorem dX3_takeStrong_52 : decode cX3_takeStrong 52 = .ok (.iload_n 1, 1) := by decide +kernel
theorem dX3_takeStrong_53 : decode cX3_takeStrong 53 = .ok (.iaload, 1) := by decide +kernel
theorem dX3_takeStrong_54 : decode cX3_takeStrong 54 = .ok (.istore 6, 2) := by decide +kernel
theorem dX3_takeStrong_56 : decode cX3_takeStrong 56 = .ok (.iload_n 2, 1) := by decide +kernel
theorem dX3_takeStrong_57 : decode cX3_takeStrong 57 = .ok (.aload_n 0, 1) := by decide +kernel
theorem dX3_takeStrong_58 : decode cX3_takeStrong 58 = .ok (.getfield 36, 3) := by decide +kernel
theorem dX3_takeStrong_61 : decode cX3_takeStrong 61 = .ok (.iload_n 1, 1) := by decide +kernel
theorem dX3_takeStrong_62 : decode cX3_takeStrong 62 = .ok (.iaload, 1) := by decide +kernel
theorem dX3_takeStrong_63 : decode cX3_takeStrong 63 = .ok (.ior, 1) := by decide +kernel
theorem dX3_takeStrong_64 : decode cX3_takeStrong 64 = .ok (.istore 7, 2) := by decide +kernel
theorem dX3_takeStrong_66 : decode cX3_takeStrong 66 = .ok (.iconst 2, 1) := by decide +kernel
theorem dX3_takeStrong_67 : decode cX3_takeStrong 67 = .ok (.iload 6, 2) := by decide +kernel
theorem dX3_takeStrong_69 : decode cX3_takeStrong 69 = .ok (.imul, 1) := by decide +kernel
theorem dX3_takeStrong_70 : decode cX3_takeStrong 70 = .ok (.iload_n 3, 1) := by decide +kernel
theorem dX3_takeStrong_71 : decode cX3_takeStrong 71 = .ok (.if_icmp .le 25, 3) := by decide +kernel
theorem dX3_takeStrong_74 : decode cX3_takeStrong 74 = .ok (.aload_n 0, 1) := by decide +kernel
theorem dX3_takeStrong_75 : decode cX3_takeStrong 75 = .ok (.getfield 12, 3) := by decide +kernel
theorem dX3_takeStrong_78 : decode cX3_takeStrong 78 = .ok (.iload 7, 2) := by decide +kernel
theorem dX3_takeStrong_80 : decode cX3_takeStrong 80 = .ok (.invokevirtual 70, 3) := by decide +kernel
theorem dX3_takeStrong_83 : decode cX3_takeStrong 83 = .ok (.aload_n 0, 1) := by decide +kernel
theorem dX3_takeStrong_84 : decode cX3_takeStrong 84 = .ok (.dup, 1) := by decide +kernel
theorem dX3_takeStrong_85 : decode cX3_takeStrong 85 = .ok (.getfield 45, 3) := by decide +kernel
theorem dX3_takeStrong_88 : decode cX3_takeStrong 88 = .ok (.iconst 1, 1) := by decide +kernel
theorem dX3_takeStrong_89 : decode cX3_takeStrong 89 = .ok (.iadd, 1) := by decide +kernel
theorem dX3_takeStrong_90 : decode cX3_takeStrong 90 = .ok (.putfield 45, 3) := by decide +kernel
theorem dX3_takeStrong_93 : decode cX3_takeStrong 93 = .ok (.goto 23, 3) := by decide +kernel
theorem dX3_takeStrong_96 : decode cX3_takeStrong 96 = .ok (.aload_n 0, 1) := by decide +kernel
theorem dX3_takeStrong_97 : decode cX3_takeStrong 97 = .ok (.iload_n 1, 1) := by decide +kernel
theorem dX3_takeStrong_98 : decode cX3_takeStrong 98 = .ok (.iconst 1, 1) := by decide +kernel
theorem dX3_takeStrong_99 : decode cX3_takeStrong 99 = .ok (.iadd, 1) := by decide +kernel
theorem dX3_takeStrong_100 : decode cX3_takeStrong 100 = .ok (.iload 7, 2) := by decide +kernel
theorem dX3_takeStrong_102 : decode cX3_takeStrong 102 = .ok (.iload_n 3, 1) := by decide +kernel
theorem dX3_takeStrong_103 : decode cX3_takeStrong 103 = .ok (.iconst 2, 1) := by decide +kernel
theorem dX3_takeStrong_104 : decode cX3_takeStrong 104 = .ok (.iload 6, 2) := by decide +kernel
theorem dX3_takeStrong_106 : decode cX3_takeStrong 106 = .ok (.imul, 1) := by decide +kernel
theorem dX3_takeStrong_107 : decode cX3_takeStrong 107 = .ok (.isub, 1) := by decide +kernel
theorem dX3_takeStrong_108 : decode cX3_takeStrong 108 = .ok (.iload 4, 2) := by decide +kernel
theorem dX3_takeStrong_110 : decode cX3_takeStrong 110 = .ok (.iload 6, 2) := by decide +kernel
theorem dX3_takeStrong_112 : decode cX3_takeStrong 112 = .ok (.isub, 1) := by decide +kernel
theorem dX3_takeStrong_113 : decode cX3_takeStrong 113 = .ok (.invokestatic 66, 3) := by decide +kernel
theorem dX3_takeStrong_116 : decode cX3_takeStrong 116 = .ok (.aload_n 0, 1) := by decide +kernel
theorem dX3_takeStrong_117 : decode cX3_takeStrong 117 = .ok (.iload_n 1, 1) := by decide +kernel
theorem dX3_takeStrong_118 : decode cX3_takeStrong 118 = .ok (.iconst 1, 1) := by decide +kernel
theorem dX3_takeStrong_119 : decode cX3_takeStrong 119 = .ok (.iadd, 1) := by decide +kernel
theorem dX3_takeStrong_120 : decode cX3_takeStrong 120 = .ok (.iload_n 2, 1) := by decide +kernel
theorem dX3_takeStrong_121 : decode cX3_takeStrong 121 = .ok (.iload_n 3, 1) := by decide +kernel
theorem dX3_takeStrong_122 : decode cX3_takeStrong 122 = .ok (.iload 4, 2) := by decide +kernel
theorem dX3_takeStrong_124 : decode cX3_takeStrong 124 = .ok (.iload 6, 2) := by decide +kernel
theorem dX3_takeStrong_126 : decode cX3_takeStrong 126 = .ok (.isub, 1) := by decide +kernel
theorem dX3_takeStrong_127 : decode cX3_takeStrong 127 = .ok (.invokestatic 66, 3) := by decide +kernel
theorem dX3_takeStrong_130 : decode cX3_takeStrong 130 = .ok (.return_, 1) := by decide +kernel
theorem dX3_dropRows_0 : decode cX3_dropRows 0 = .ok (.aload_n 0, 1) := by decide +kernel
theorem dX3_dropRows_1 : decode cX3_dropRows 1 = .ok (.iconst 0, 1) := by decide +kernel
theorem dX3_dropRows_2 : decode cX3_dropRows 2 = .ok (.putfield 28, 3) := by decide +kernel
theorem dX3_dropRows_5 : decode cX3_dropRows 5 = .ok (.aload_n 0, 1) := by decide +kernel
theorem dX3_dropRows_6 : decode cX3_dropRows 6 = .ok (.iconst 0, 1) := by decide +kernel
theorem dX3_dropRows_7 : decode cX3_dropRows 7 = .ok (.putfield 32, 3) := by decide +kernel
theorem dX3_dropRows_10 : decode cX3_dropRows 10 = .ok (.return_, 1) := by decide +kernel
theorem dX3_addRow_0 : decode cX3_addRow 0 = .ok (.iload_n 1, 1) := by decide +kernel
theorem dX3_addRow_1 : decode cX3_addRow 1 = .ok (.ifCond .le 19, 3) := by decide +kernel
theorem dX3_addRow_4 : decode cX3_addRow 4 = .ok (.aload_n 0, 1) := by decide +kernel
theorem dX3_addRow_5 : decode cX3_addRow 5 = .ok (.getfield 28, 3) := by decide +kernel
theorem dX3_addRow_8 : decode cX3_addRow 8 = .ok (.ifCond .lt 12, 3) := by decide +kernel
theorem dX3_addRow_11 : decode cX3_addRow 11 = .ok (.aload_n 0, 1) := by decide +kernel
theorem dX3_addRow_12 : decode cX3_addRow 12 = .ok (.getfield 28, 3) := by decide +kernel
theorem dX3_addRow_15 : decode cX3_addRow 15 = .ok (.bipush 16, 2) := by decide +kernel
theorem dX3_addRow_17 : decode cX3_addRow 17 = .ok (.if_icmp .lt 8, 3) := by decide +kernel
theorem dX3_addRow_20 : decode cX3_addRow 20 = .ok (.aload_n 0, 1) := by decide +kernel
theorem dX3_addRow_21 : decode cX3_addRow 21 = .ok (.iconst 1, 1) := by decide +kernel
theorem dX3_addRow_22 : decode cX3_addRow 22 = .ok (.putfield 32, 3) := by decide +kernel
theorem dX3_addRow_25 : decode cX3_addRow 25 = .ok (.aload_n 0, 1) := by decide +kernel
theorem dX3_addRow_26 : decode cX3_addRow 26 = .ok (.getfield 32, 3) := by decide +kernel
theorem dX3_addRow_29 : decode cX3_addRow 29 = .ok (.ifCond .ne 23, 3) := by decide +kernel
theorem dX3_addRow_32 : decode cX3_addRow 32 = .ok (.aload_n 0, 1) := by decide +kernel
theorem dX3_addRow_33 : decode cX3_addRow 33 = .ok (.getfield 25, 3) := by decide +kernel
theorem dX3_addRow_36 : decode cX3_addRow 36 = .ok (.aload_n 0, 1) := by decide +kernel
theorem dX3_addRow_37 : decode cX3_addRow 37 = .ok (.getfield 28, 3) := by decide +kernel
theorem dX3_addRow_40 : decode cX3_addRow 40 = .ok (.iload_n 1, 1) := by decide +kernel
theorem dX3_addRow_41 : decode cX3_addRow 41 = .ok (.iastore, 1) := by decide +kernel
theorem dX3_addRow_42 : decode cX3_addRow 42 = .ok (.aload_n 0, 1) := by decide +kernel
theorem dX3_addRow_43 : decode cX3_addRow 43 = .ok (.dup, 1) := by decide +kernel
theorem dX3_addRow_44 : decode cX3_addRow 44 = .ok (.getfield 28, 3) := by decide +kernel
theorem dX3_addRow_47 : decode cX3_addRow 47 = .ok (.iconst 1, 1) := by decide +kernel
theorem dX3_addRow_48 : decode cX3_addRow 48 = .ok (.iadd, 1) := by decide +kernel
theorem dX3_addRow_49 : decode cX3_addRow 49 = .ok (.putfield 28, 3) := by decide +kernel
theorem dX3_addRow_52 : decode cX3_addRow 52 = .ok (.return_, 1) := by decide +kernel
theorem dX3_keepersOfRows_0 : decode cX3_keepersOfRows 0 = .ok (.iconst 0, 1) := by decide +kernel
theorem dX3_keepersOfRows_1 : decode cX3_keepersOfRows 1 = .ok (.istore_n 1, 1) := by decide +kernel
theorem dX3_keepersOfRows_2 : decode cX3_keepersOfRows 2 = .ok (.iconst 0, 1) := by decide +kernel
theorem dX3_keepersOfRows_3 : decode cX3_keepersOfRows 3 = .ok (.istore_n 2, 1) := by decide +kernel
theorem dX3_keepersOfRows_4 : decode cX3_keepersOfRows 4 = .ok (.iload_n 2, 1) := by decide +kernel
theorem dX3_keepersOfRows_5 : decode cX3_keepersOfRows 5 = .ok (.aload_n 0, 1) := by decide +kernel
theorem dX3_keepersOfRows_6 : decode cX3_keepersOfRows 6 = .ok (.getfield 28, 3) := by decide +kernel
theorem dX3_keepersOfRows_9 : decode cX3_keepersOfRows 9 = .ok (.if_icmp .ge 18, 3) := by decide +kernel
theorem dX3_keepersOfRows_12 : decode cX3_keepersOfRows 12 = .ok (.iload_n 1, 1) := by decide +kernel
theorem dX3_keepersOfRows_13 : decode cX3_keepersOfRows 13 = .ok (.aload_n 0, 1) := by decide +kernel
theorem dX3_keepersOfRows_14 : decode cX3_keepersOfRows 14 = .ok (.getfield 25, 3) := by decide +kernel
theorem dX3_keepersOfRows_17 : decode cX3_keepersOfRows 17 = .ok (.iload_n 2, 1) := by decide +kernel
theorem dX3_keepersOfRows_18 : decode cX3_keepersOfRows 18 = .ok (.iaload, 1) := by decide +kernel
theorem dX3_keepersOfRows_19 : decode cX3_keepersOfRows 19 = .ok (.iadd, 1) := by decide +kernel
theorem dX3_keepersOfRows_20 : decode cX3_keepersOfRows 20 = .ok (.istore_n 1, 1) := by decide +kernel
theorem dX3_keepersOfRows_21 : decode cX3_keepersOfRows 21 = .ok (.iinc 2 1, 3) := by decide +kernel
theorem dX3_keepersOfRows_24 : decode cX3_keepersOfRows 24 = .ok (.goto (-20), 3) := by decide +kernel
theorem dX3_keepersOfRows_27 : decode cX3_keepersOfRows 27 = .ok (.iload_n 1, 1) := by decide +kernel
theorem dX3_keepersOfRows_28 : decode cX3_keepersOfRows 28 = .ok (.ireturn, 1) := by decide +kernel
theorem dX3_gatherRows_0 : decode cX3_gatherRows 0 = .ok (.iload_n 1, 1) := by decide +kernel
theorem dX3_gatherRows_1 : decode cX3_gatherRows 1 = .ok (.aload_n 0, 1) := by decide +kernel
theorem dX3_gatherRows_2 : decode cX3_gatherRows 2 = .ok (.invokevirtual 73, 3) := by decide +kernel
theorem dX3_gatherRows_5 : decode cX3_gatherRows 5 = .ok (.iadd, 1) := by decide +kernel
theorem dX3_gatherRows_6 : decode cX3_gatherRows 6 = .ok (.istore_n 2, 1) := by decide +kernel
theorem dX3_gatherRows_7 : decode cX3_gatherRows 7 = .ok (.iconst 1, 1) := by decide +kernel
theorem dX3_gatherRows_8 : decode cX3_gatherRows 8 = .ok (.istore_n 3, 1) := by decide +kernel
theorem dX3_gatherRows_9 : decode cX3_gatherRows 9 = .ok (.aload_n 0, 1) := by decide +kernel
theorem dX3_gatherRows_10 : decode cX3_gatherRows 10 = .ok (.getfield 18, 3) := by decide +kernel
theorem dX3_gatherRows_13 : decode cX3_gatherRows 13 = .ok (.iconst 0, 1) := by decide +kernel
theorem dX3_gatherRows_14 : decode cX3_gatherRows 14 = .ok (.iconst 0, 1) := by decide +kernel
theorem dX3_gatherRows_15 : decode cX3_gatherRows 15 = .ok (.iastore, 1) := by decide +kernel
theorem dX3_gatherRows_16 : decode cX3_gatherRows 16 = .ok (.aload_n 0, 1) := by decide +kernel
theorem dX3_gatherRows_17 : decode cX3_gatherRows 17 = .ok (.getfield 28, 3) := by decide +kernel
theorem dX3_gatherRows_20 : decode cX3_gatherRows 20 = .ok (.iconst 1, 1) := by decide +kernel
theorem dX3_gatherRows_21 : decode cX3_gatherRows 21 = .ok (.isub, 1) := by decide +kernel
theorem dX3_gatherRows_22 : decode cX3_gatherRows 22 = .ok (.istore 4, 2) := by decide +kernel
theorem dX3_gatherRows_24 : decode cX3_gatherRows 24 = .ok (.iload 4, 2) := by decide +kernel
theorem dX3_gatherRows_26 : decode cX3_gatherRows 26 = .ok (.ifCond .lt 79, 3) := by decide +kernel
theorem dX3_gatherRows_29 : decode cX3_gatherRows 29 = .ok (.aload_n 0, 1) := by decide +kernel
theorem dX3_gatherRows_30 : decode cX3_gatherRows 30 = .ok (.getfield 25, 3) := by decide +kernel
theorem dX3_gatherRows_33 : decode cX3_gatherRows 33 = .ok (.iload 4, 2) := by decide +kernel
theorem dX3_gatherRows_35 : decode cX3_gatherRows 35 = .ok (.iaload, 1) := by decide +kernel
theorem dX3_gatherRows_36 : decode cX3_gatherRows 36 = .ok (.istore 5, 2) := by decide +kernel
theorem dX3_gatherRows_38 : decode cX3_gatherRows 38 = .ok (.iload_n 2, 1) := by decide +kernel
theorem dX3_gatherRows_39 : decode cX3_gatherRows 39 = .ok (.iload 5, 2) := by decide +kernel
theorem dX3_gatherRows_41 : decode cX3_gatherRows 41 = .ok (.isub, 1) := by decide +kernel
theorem dX3_gatherRows_42 : decode cX3_gatherRows 42 = .ok (.istore_n 2, 1) := by decide +kernel
theorem dX3_gatherRows_43 : decode cX3_gatherRows 43 = .ok (.iconst 1, 1) := by decide +kernel
theorem dX3_gatherRows_44 : decode cX3_gatherRows 44 = .ok (.iload 5, 2) := by decide +kernel
theorem dX3_gatherRows_46 : decode cX3_gatherRows 46 = .ok (.ishl, 1) := by decide +kernel
theorem dX3_gatherRows_47 : decode cX3_gatherRows 47 = .ok (.iconst 1, 1) := by decide +kernel
theorem dX3_gatherRows_48 : decode cX3_gatherRows 48 = .ok (.isub, 1) := by decide +kernel
theorem dX3_gatherRows_49 : decode cX3_gatherRows 49 = .ok (.iload_n 2, 1) := by decide +kernel
theorem dX3_gatherRows_50 : decode cX3_gatherRows 50 = .ok (.ishl, 1) := by decide +kernel
theorem dX3_gatherRows_51 : decode cX3_gatherRows 51 = .ok (.istore 6, 2) := by decide +kernel
theorem dX3_gatherRows_53 : decode cX3_gatherRows 53 = .ok (.iconst 0, 1) := by decide +kernel
theorem dX3_gatherRows_54 : decode cX3_gatherRows 54 = .ok (.istore 7, 2) := by decide +kernel
theorem dX3_gatherRows_56 : decode cX3_gatherRows 56 = .ok (.iload 7, 2) := by decide +kernel
theorem dX3_gatherRows_58 : decode cX3_gatherRows 58 = .ok (.iload_n 3, 1) := by decide +kernel
theorem dX3_gatherRows_59 : decode cX3_gatherRows 59 = .ok (.if_icmp .ge 26, 3) := by decide +kernel
theorem dX3_gatherRows_62 : decode cX3_gatherRows 62 = .ok (.aload_n 0, 1) := by decide +kernel
theorem dX3_gatherRows_63 : decode cX3_gatherRows 63 = .ok (.getfield 12, 3) := by decide +kernel
theorem dX3_gatherRows_66 : decode cX3_gatherRows 66 = .ok (.iload 6, 2) := by decide +kernel
theorem dX3_gatherRows_68 : decode cX3_gatherRows 68 = .ok (.aload_n 0, 1) := by decide +kernel
theorem dX3_gatherRows_69 : decode cX3_gatherRows 69 = .ok (.getfield 18, 3) := by decide +kernel
theorem dX3_gatherRows_72 : decode cX3_gatherRows 72 = .ok (.iload 7, 2) := by decide +kernel
theorem dX3_gatherRows_74 : decode cX3_gatherRows 74 = .ok (.iaload, 1) := by decide +kernel
theorem dX3_gatherRows_75 : decode cX3_gatherRows 75 = .ok (.ior, 1) := by decide +kernel
theorem dX3_gatherRows_76 : decode cX3_gatherRows 76 = .ok (.invokevirtual 70, 3) := by decide +kernel
theorem dX3_gatherRows_79 : decode cX3_gatherRows 79 = .ok (.iinc 7 1, 3) := by decide +kernel
theorem dX3_gatherRows_82 : decode cX3_gatherRows 82 = .ok (.goto (-26), 3) := by decide +kernel
theorem dX3_gatherRows_85 : decode cX3_gatherRows 85 = .ok (.iload 4, 2) := by decide +kernel
theorem dX3_gatherRows_87 : decode cX3_gatherRows 87 = .ok (.ifCond .le 12, 3) := by decide +kernel
theorem dX3_gatherRows_90 : decode cX3_gatherRows 90 = .ok (.aload_n 0, 1) := by decide +kernel
theorem dX3_gatherRows_91 : decode cX3_gatherRows 91 = .ok (.iload_n 3, 1) := by decide +kernel
theorem dX3_gatherRows_92 : decode cX3_gatherRows 92 = .ok (.iload_n 2, 1) := by decide +kernel
theorem dX3_gatherRows_93 : decode cX3_gatherRows 93 = .ok (.iload 5, 2) := by decide +kernel
theorem dX3_gatherRows_95 : decode cX3_gatherRows 95 = .ok (.invokevirtual 77, 3) := by decide +kernel
theorem dX3_gatherRows_98 : decode cX3_gatherRows 98 = .ok (.istore_n 3, 1) := by decide +kernel
theorem dX3_gatherRows_99 : decode cX3_gatherRows 99 = .ok (.iinc 4 (-1), 3) := by decide +kernel
theorem dX3_gatherRows_102 : decode cX3_gatherRows 102 = .ok (.goto (-78), 3) := by decide +kernel
theorem dX3_gatherRows_105 : decode cX3_gatherRows 105 = .ok (.return_, 1) := by decide +kernel
theorem dX3_chooseOne_0 : decode cX3_chooseOne 0 = .ok (.iload_n 1, 1) := by decide +kernel
theorem dX3_chooseOne_1 : decode cX3_chooseOne 1 = .ok (.iload_n 3, 1) := by decide +kernel
theorem dX3_chooseOne_2 : decode cX3_chooseOne 2 = .ok (.imul, 1) := by decide +kernel
theorem dX3_chooseOne_3 : decode cX3_chooseOne 3 = .ok (.istore 4, 2) := by decide +kernel
theorem dX3_chooseOne_5 : decode cX3_chooseOne 5 = .ok (.iload_n 1, 1) := by decide +kernel
theorem dX3_chooseOne_6 : decode cX3_chooseOne 6 = .ok (.ifCond .lt 15, 3) := by decide +kernel
theorem dX3_chooseOne_9 : decode cX3_chooseOne 9 = .ok (.iload_n 3, 1) := by decide +kernel
theorem dX3_chooseOne_10 : decode cX3_chooseOne 10 = .ok (.ifCond .le 11, 3) := by decide +kernel
theorem dX3_chooseOne_13 : decode cX3_chooseOne 13 = .ok (.iload 4, 2) := by decide +kernel
theorem dX3_chooseOne_15 : decode cX3_chooseOne 15 = .ok (.sipush 320, 3) := by decide +kernel
theorem dX3_chooseOne_18 : decode cX3_chooseOne 18 = .ok (.if_icmp .le 5, 3) := by decide +kernel
theorem dX3_chooseOne_21 : decode cX3_chooseOne 21 = .ok (.iload_n 1, 1) := by decide +kernel
theorem dX3_chooseOne_22 : decode cX3_chooseOne 22 = .ok (.ireturn, 1) := by decide +kernel
theorem dX3_chooseOne_23 : decode cX3_chooseOne 23 = .ok (.iload 4, 2) := by decide +kernel
theorem dX3_chooseOne_25 : decode cX3_chooseOne 25 = .ok (.iconst 1, 1) := by decide +kernel
theorem dX3_chooseOne_26 : decode cX3_chooseOne 26 = .ok (.isub, 1) := by decide +kernel
theorem dX3_chooseOne_27 : decode cX3_chooseOne 27 = .ok (.istore 5, 2) := by decide +kernel
theorem dX3_chooseOne_29 : decode cX3_chooseOne 29 = .ok (.iload 5, 2) := by decide +kernel
theorem dX3_chooseOne_31 : decode cX3_chooseOne 31 = .ok (.ifCond .lt 34, 3) := by decide +kernel
theorem dX3_chooseOne_34 : decode cX3_chooseOne 34 = .ok (.aload_n 0, 1) := by decide +kernel
theorem dX3_chooseOne_35 : decode cX3_chooseOne 35 = .ok (.getfield 18, 3) := by decide +kernel
theorem dX3_chooseOne_38 : decode cX3_chooseOne 38 = .ok (.iload 5, 2) := by decide +kernel
theorem dX3_chooseOne_40 : decode cX3_chooseOne 40 = .ok (.aload_n 0, 1) := by decide +kernel
theorem dX3_chooseOne_41 : decode cX3_chooseOne 41 = .ok (.getfield 18, 3) := by decide +kernel
theorem dX3_chooseOne_44 : decode cX3_chooseOne 44 = .ok (.iload 5, 2) := by decide +kernel
theorem dX3_chooseOne_46 : decode cX3_chooseOne 46 = .ok (.iload_n 3, 1) := by decide +kernel
theorem dX3_chooseOne_47 : decode cX3_chooseOne 47 = .ok (.idiv, 1) := by decide +kernel
theorem dX3_chooseOne_48 : decode cX3_chooseOne 48 = .ok (.iaload, 1) := by decide +kernel
theorem dX3_chooseOne_49 : decode cX3_chooseOne 49 = .ok (.iconst 1, 1) := by decide +kernel
theorem dX3_chooseOne_50 : decode cX3_chooseOne 50 = .ok (.iload_n 2, 1) := by decide +kernel
theorem dX3_chooseOne_51 : decode cX3_chooseOne 51 = .ok (.iload 5, 2) := by decide +kernel
theorem dX3_chooseOne_53 : decode cX3_chooseOne 53 = .ok (.iload_n 3, 1) := by decide +kernel
theorem dX3_chooseOne_54 : decode cX3_chooseOne 54 = .ok (.irem, 1) := by decide +kernel
theorem dX3_chooseOne_55 : decode cX3_chooseOne 55 = .ok (.iadd, 1) := by decide +kernel
theorem dX3_chooseOne_56 : decode cX3_chooseOne 56 = .ok (.ishl, 1) := by decide +kernel
theorem dX3_chooseOne_57 : decode cX3_chooseOne 57 = .ok (.ior, 1) := by decide +kernel
theorem dX3_chooseOne_58 : decode cX3_chooseOne 58 = .ok (.iastore, 1) := by decide +kernel
theorem dX3_chooseOne_59 : decode cX3_chooseOne 59 = .ok (.iinc 5 (-1), 3) := by decide +kernel
theorem dX3_chooseOne_62 : decode cX3_chooseOne 62 = .ok (.goto (-33), 3) := by decide +kernel
theorem dX3_chooseOne_65 : decode cX3_chooseOne 65 = .ok (.iload 4, 2) := by decide +kernel
theorem dX3_chooseOne_67 : decode cX3_chooseOne 67 = .ok (.ireturn, 1) := by decide +kernel
theorem dX3_gatherTree_0 : decode cX3_gatherTree 0 = .ok (.iconst 0, 1) := by decide +kernel
theorem dX3_gatherTree_1 : decode cX3_gatherTree 1 = .ok (.istore_n 3, 1) := by decide +kernel
theorem dX3_gatherTree_2 : decode cX3_gatherTree 2 = .ok (.iload_n 1, 1) := by decide +kernel
theorem dX3_gatherTree_3 : decode cX3_gatherTree 3 = .ok (.bipush 15, 2) := by decide +kernel
theorem dX3_gatherTree_5 : decode cX3_gatherTree 5 = .ok (.invokestatic 81, 3) := by decide +kernel
theorem dX3_gatherTree_8 : decode cX3_gatherTree 8 = .ok (.istore 4, 2) := by decide +kernel
theorem dX3_gatherTree_10 : decode cX3_gatherTree 10 = .ok (.iload 4, 2) := by decide +kernel
theorem dX3_gatherTree_12 : decode cX3_gatherTree 12 = .ok (.iconst 1, 1) := by decide +kernel
theorem dX3_gatherTree_13 : decode cX3_gatherTree 13 = .ok (.if_icmp .lt 56, 3) := by decide +kernel
theorem dX3_gatherTree_16 : decode cX3_gatherTree 16 = .ok (.aload_n 0, 1) := by decide +kernel
theorem dX3_gatherTree_17 : decode cX3_gatherTree 17 = .ok (.getfield 22, 3) := by decide +kernel
theorem dX3_gatherTree_20 : decode cX3_gatherTree 20 = .ok (.iload 4, 2) := by decide +kernel
theorem dX3_gatherTree_22 : decode cX3_gatherTree 22 = .ok (.iload_n 3, 1) := by decide +kernel
theorem dX3_gatherTree_23 : decode cX3_gatherTree 23 = .ok (.iastore, 1) := by decide +kernel
theorem dX3_gatherTree_24 : decode cX3_gatherTree 24 = .ok (.iconst 1, 1) := by decide +kernel
theorem dX3_gatherTree_25 : decode cX3_gatherTree 25 = .ok (.iload_n 2, 1) := by decide +kernel
theorem dX3_gatherTree_26 : decode cX3_gatherTree 26 = .ok (.iload 4, 2) := by decide +kernel
theorem dX3_gatherTree_28 : decode cX3_gatherTree 28 = .ok (.iadd, 1) := by decide +kernel
theorem dX3_gatherTree_29 : decode cX3_gatherTree 29 = .ok (.iconst 1, 1) := by decide +kernel
theorem dX3_gatherTree_30 : decode cX3_gatherTree 30 = .ok (.isub, 1) := by decide +kernel
theorem dX3_gatherTree_31 : decode cX3_gatherTree 31 = .ok (.ishl, 1) := by decide +kernel
theorem dX3_gatherTree_32 : decode cX3_gatherTree 32 = .ok (.istore 5, 2) := by decide +kernel
theorem dX3_gatherTree_34 : decode cX3_gatherTree 34 = .ok (.iconst 2, 1) := by decide +kernel
theorem dX3_gatherTree_35 : decode cX3_gatherTree 35 = .ok (.iload 4, 2) := by decide +kernel
theorem dX3_gatherTree_37 : decode cX3_gatherTree 37 = .ok (.imul, 1) := by decide +kernel
theorem dX3_gatherTree_38 : decode cX3_gatherTree 38 = .ok (.iload_n 1, 1) := by decide +kernel
theorem dX3_gatherTree_39 : decode cX3_gatherTree 39 = .ok (.if_icmp .le 14, 3) := by decide +kernel
theorem dX3_gatherTree_42 : decode cX3_gatherTree 42 = .ok (.aload_n 0, 1) := by decide +kernel
theorem dX3_gatherTree_43 : decode cX3_gatherTree 43 = .ok (.iload_n 3, 1) := by decide +kernel
theorem dX3_gatherTree_44 : decode cX3_gatherTree 44 = .ok (.iload 5, 2) := by decide +kernel
theorem dX3_gatherTree_46 : decode cX3_gatherTree 46 = .ok (.invokevirtual 87, 3) := by decide +kernel
theorem dX3_gatherTree_49 : decode cX3_gatherTree 49 = .ok (.istore_n 3, 1) := by decide +kernel
theorem dX3_gatherTree_50 : decode cX3_gatherTree 50 = .ok (.goto 13, 3) := by decide +kernel
theorem dX3_gatherTree_53 : decode cX3_gatherTree 53 = .ok (.aload_n 0, 1) := by decide +kernel
theorem dX3_gatherTree_54 : decode cX3_gatherTree 54 = .ok (.iload 4, 2) := by decide +kernel
theorem dX3_gatherTree_56 : decode cX3_gatherTree 56 = .ok (.iload 5, 2) := by decide +kernel
theorem dX3_gatherTree_58 : decode cX3_gatherTree 58 = .ok (.iload_n 3, 1) := by decide +kernel
theorem dX3_gatherTree_59 : decode cX3_gatherTree 59 = .ok (.invokevirtual 90, 3) := by decide +kernel
theorem dX3_gatherTree_62 : decode cX3_gatherTree 62 = .ok (.istore_n 3, 1) := by decide +kernel
theorem dX3_gatherTree_63 : decode cX3_gatherTree 63 = .ok (.iinc 4 (-1), 3) := by decide +kernel
theorem dX3_gatherTree_66 : decode cX3_gatherTree 66 = .ok (.goto (-56), 3) := by decide +kernel
theorem dX3_gatherTree_69 : decode cX3_gatherTree 69 = .ok (.aload_n 0, 1) := by decide +kernel
theorem dX3_gatherTree_70 : decode cX3_gatherTree 70 = .ok (.getfield 22, 3) := by decide +kernel
theorem dX3_gatherTree_73 : decode cX3_gatherTree 73 = .ok (.iconst 1, 1) := by decide +kernel
theorem dX3_gatherTree_74 : decode cX3_gatherTree 74 = .ok (.iaload, 1) := by decide +kernel
theorem dX3_gatherTree_75 : decode cX3_gatherTree 75 = .ok (.istore 4, 2) := by decide +kernel
theorem dX3_gatherTree_77 : decode cX3_gatherTree 77 = .ok (.iload 4, 2) := by decide +kernel
theorem dX3_gatherTree_79 : decode cX3_gatherTree 79 = .ok (.ifCond .lt 37, 3) := by decide +kernel
theorem dX3_gatherTree_82 : decode cX3_gatherTree 82 = .ok (.iload 4, 2) := by decide +kernel
theorem dX3_gatherTree_84 : decode cX3_gatherTree 84 = .ok (.iload_n 3, 1) := by decide +kernel
theorem dX3_gatherTree_85 : decode cX3_gatherTree 85 = .ok (.if_icmp .ge 31, 3) := by decide +kernel
theorem dX3_gatherTree_88 : decode cX3_gatherTree 88 = .ok (.iload 4, 2) := by decide +kernel
theorem dX3_gatherTree_90 : decode cX3_gatherTree 90 = .ok (.sipush 320, 3) := by decide +kernel
theorem dX3_gatherTree_93 : decode cX3_gatherTree 93 = .ok (.if_icmp .ge 23, 3) := by decide +kernel
theorem dX3_gatherTree_96 : decode cX3_gatherTree 96 = .ok (.aload_n 0, 1) := by decide +kernel
theorem dX3_gatherTree_97 : decode cX3_gatherTree 97 = .ok (.getfield 12, 3) := by decide +kernel
theorem dX3_gatherTree_100 : decode cX3_gatherTree 100 = .ok (.aload_n 0, 1) := by decide +kernel
theorem dX3_gatherTree_101 : decode cX3_gatherTree 101 = .ok (.getfield 18, 3) := by decide +kernel
theorem dX3_gatherTree_104 : decode cX3_gatherTree 104 = .ok (.iload 4, 2) := by decide +kernel
theorem dX3_gatherTree_106 : decode cX3_gatherTree 106 = .ok (.iaload, 1) := by decide +kernel
theorem dX3_gatherTree_107 : decode cX3_gatherTree 107 = .ok (.invokevirtual 70, 3) := by decide +kernel
theorem dX3_gatherTree_110 : decode cX3_gatherTree 110 = .ok (.iinc 4 1, 3) := by decide +kernel
theorem dX3_gatherTree_113 : decode cX3_gatherTree 113 = .ok (.goto (-36), 3) := by decide +kernel
theorem dX3_gatherTree_116 : decode cX3_gatherTree 116 = .ok (.return_, 1) := by decide +kernel
theorem dX3_addNode_0 : decode cX3_addNode 0 = .ok (.iload_n 3, 1) := by decide +kernel
theorem dX3_addNode_1 : decode cX3_addNode 1 = .ok (.istore 4, 2) := by decide +kernel
theorem dX3_addNode_3 : decode cX3_addNode 3 = .ok (.iconst 2, 1) := by decide +kernel
theorem dX3_addNode_4 : decode cX3_addNode 4 = .ok (.iload_n 1, 1) := by decide +kernel
theorem dX3_addNode_5 : decode cX3_addNode 5 = .ok (.imul, 1) := by decide +kernel
theorem dX3_addNode_6 : decode cX3_addNode 6 = .ok (.iconst 1, 1) := by decide +kernel
theorem dX3_addNode_7 : decode cX3_addNode 7 = .ok (.iadd, 1) := by decide +kernel
theorem dX3_addNode_8 : decode cX3_addNode 8 = .ok (.istore 5, 2) := by decide +kernel
theorem dX3_addNode_10 : decode cX3_addNode 10 = .ok (.iload_n 1, 1) := by decide +kernel
theorem dX3_addNode_11 : decode cX3_addNode 11 = .ok (.iconst 1, 1) := by decide +kernel
theorem dX3_addNode_12 : decode cX3_addNode 12 = .ok (.if_icmp .lt 10, 3) := by decide +kernel
theorem dX3_addNode_15 : decode cX3_addNode 15 = .ok (.iload 5, 2) := by decide +kernel
theorem dX3_addNode_17 : decode cX3_addNode 17 = .ok (.bipush 16, 2) := by decide +kernel
theorem dX3_addNode_19 : decode cX3_addNode 19 = .ok (.if_icmp .lt 6, 3) := by decide +kernel
theorem dX3_addNode_22 : decode cX3_addNode 22 = .ok (.iload 4, 2) := by decide +kernel
theorem dX3_addNode_24 : decode cX3_addNode 24 = .ok (.ireturn, 1) := by decide +kernel
theorem dX3_addNode_25 : decode cX3_addNode 25 = .ok (.aload_n 0, 1) := by decide +kernel
theorem dX3_addNode_26 : decode cX3_addNode 26 = .ok (.getfield 22, 3) := by decide +kernel
theorem dX3_addNode_29 : decode cX3_addNode 29 = .ok (.iload 5, 2) := by decide +kernel
theorem dX3_addNode_31 : decode cX3_addNode 31 = .ok (.iaload, 1) := by decide +kernel
theorem dX3_addNode_32 : decode cX3_addNode 32 = .ok (.istore 6, 2) := by decide +kernel
theorem dX3_addNode_34 : decode cX3_addNode 34 = .ok (.aload_n 0, 1) := by decide +kernel
theorem dX3_addNode_35 : decode cX3_addNode 35 = .ok (.getfield 22, 3) := by decide +kernel
theorem dX3_addNode_38 : decode cX3_addNode 38 = .ok (.iload 5, 2) := by decide +kernel
theorem dX3_addNode_40 : decode cX3_addNode 40 = .ok (.iconst 1, 1) := by decide +kernel
theorem dX3_addNode_41 : decode cX3_addNode 41 = .ok (.isub, 1) := by decide +kernel
theorem dX3_addNode_42 : decode cX3_addNode 42 = .ok (.iaload, 1) := by decide +kernel
theorem dX3_addNode_43 : decode cX3_addNode 43 = .ok (.istore 7, 2) := by decide +kernel
theorem dX3_addNode_45 : decode cX3_addNode 45 = .ok (.aload_n 0, 1) := by decide +kernel
theorem dX3_addNode_46 : decode cX3_addNode 46 = .ok (.getfield 22, 3) := by decide +kernel
theorem dX3_addNode_49 : decode cX3_addNode 49 = .ok (.iload 5, 2) := by decide +kernel
theorem dX3_addNode_51 : decode cX3_addNode 51 = .ok (.iconst 2, 1) := by decide +kernel
theorem dX3_addNode_52 : decode cX3_addNode 52 = .ok (.isub, 1) := by decide +kernel
theorem dX3_addNode_53 : decode cX3_addNode 53 = .ok (.iaload, 1) := by decide +kernel
theorem dX3_addNode_54 : decode cX3_addNode 54 = .ok (.istore 8, 2) := by decide +kernel
theorem dX3_addNode_56 : decode cX3_addNode 56 = .ok (.iload 6, 2) := by decide +kernel
theorem dX3_addNode_58 : decode cX3_addNode 58 = .ok (.istore 9, 2) := by decide +kernel
theorem dX3_addNode_60 : decode cX3_addNode 60 = .ok (.iload 9, 2) := by decide +kernel
theorem dX3_addNode_62 : decode cX3_addNode 62 = .ok (.ifCond .lt 41, 3) := by decide +kernel
theorem dX3_addNode_65 : decode cX3_addNode 65 = .ok (.iload 9, 2) := by decide +kernel
theorem dX3_addNode_67 : decode cX3_addNode 67 = .ok (.iload 8, 2) := by decide +kernel
theorem dX3_addNode_69 : decode cX3_addNode 69 = .ok (.if_icmp .ge 34, 3) := by decide +kernel
theorem dX3_addNode_72 : decode cX3_addNode 72 = .ok (.iload 9, 2) := by decide +kernel
theorem dX3_addNode_74 : decode cX3_addNode 74 = .ok (.sipush 320, 3) := by decide +kernel
theorem dX3_addNode_77 : decode cX3_addNode 77 = .ok (.if_icmp .ge 26, 3) := by decide +kernel
theorem dX3_addNode_80 : decode cX3_addNode 80 = .ok (.aload_n 0, 1) := by decide +kernel
theorem dX3_addNode_81 : decode cX3_addNode 81 = .ok (.iload 4, 2) := by decide +kernel
theorem dX3_addNode_83 : decode cX3_addNode 83 = .ok (.iload_n 2, 1) := by decide +kernel
theorem dX3_addNode_84 : decode cX3_addNode 84 = .ok (.aload_n 0, 1) := by decide +kernel
theorem dX3_addNode_85 : decode cX3_addNode 85 = .ok (.getfield 18, 3) := by decide +kernel
theorem dX3_addNode_88 : decode cX3_addNode 88 = .ok (.iload 9, 2) := by decide +kernel
theorem dX3_addNode_90 : decode cX3_addNode 90 = .ok (.iaload, 1) := by decide +kernel
theorem dX3_addNode_91 : decode cX3_addNode 91 = .ok (.ior, 1) := by decide +kernel
theorem dX3_addNode_92 : decode cX3_addNode 92 = .ok (.invokevirtual 87, 3) := by decide +kernel
theorem dX3_addNode_95 : decode cX3_addNode 95 = .ok (.istore 4, 2) := by decide +kernel
theorem dX3_addNode_97 : decode cX3_addNode 97 = .ok (.iinc 9 1, 3) := by decide +kernel
theorem dX3_addNode_100 : decode cX3_addNode 100 = .ok (.goto (-40), 3) := by decide +kernel
theorem dX3_addNode_103 : decode cX3_addNode 103 = .ok (.iload 7, 2) := by decide +kernel
theorem dX3_addNode_105 : decode cX3_addNode 105 = .ok (.istore 9, 2) := by decide +kernel
theorem dX3_addNode_107 : decode cX3_addNode 107 = .ok (.iload 9, 2) := by decide +kernel
theorem dX3_addNode_109 : decode cX3_addNode 109 = .ok (.ifCond .lt 77, 3) := by decide +kernel
theorem dX3_addNode_112 : decode cX3_addNode 112 = .ok (.iload 9, 2) := by decide +kernel
theorem dX3_addNode_114 : decode cX3_addNode 114 = .ok (.iload 8, 2) := by decide +kernel
theorem dX3_addNode_116 : decode cX3_addNode 116 = .ok (.if_icmp .ge 70, 3) := by decide +kernel
theorem dX3_addNode_119 : decode cX3_addNode 119 = .ok (.iload 9, 2) := by decide +kernel
theorem dX3_addNode_121 : decode cX3_addNode 121 = .ok (.sipush 320, 3) := by decide +kernel
theorem dX3_addNode_124 : decode cX3_addNode 124 = .ok (.if_icmp .ge 62, 3) := by decide +kernel
theorem dX3_addNode_127 : decode cX3_addNode 127 = .ok (.iload 6, 2) := by decide +kernel
theorem dX3_addNode_129 : decode cX3_addNode 129 = .ok (.istore 10, 2) := by decide +kernel
theorem dX3_addNode_131 : decode cX3_addNode 131 = .ok (.iload 10, 2) := by decide +kernel
theorem dX3_addNode_133 : decode cX3_addNode 133 = .ok (.ifCond .lt 47, 3) := by decide +kernel
theorem dX3_addNode_136 : decode cX3_addNode 136 = .ok (.iload 10, 2) := by decide +kernel
theorem dX3_addNode_138 : decode cX3_addNode 138 = .ok (.iload 7, 2) := by decide +kernel
theorem dX3_addNode_140 : decode cX3_addNode 140 = .ok (.if_icmp .ge 40, 3) := by decide +kernel
theorem dX3_addNode_143 : decode cX3_addNode 143 = .ok (.iload 10, 2) := by decide +kernel
theorem dX3_addNode_145 : decode cX3_addNode 145 = .ok (.sipush 320, 3) := by decide +kernel
theorem dX3_addNode_148 : decode cX3_addNode 148 = .ok (.if_icmp .ge 32, 3) := by decide +kernel
theorem dX3_addNode_151 : decode cX3_addNode 151 = .ok (.aload_n 0, 1) := by decide +kernel
theorem dX3_addNode_152 : decode cX3_addNode 152 = .ok (.iload 4, 2) := by decide +kernel
theorem dX3_addNode_154 : decode cX3_addNode 154 = .ok (.aload_n 0, 1) := by decide +kernel
theorem dX3_addNode_155 : decode cX3_addNode 155 = .ok (.getfield 18, 3) := by decide +kernel
theorem dX3_addNode_158 : decode cX3_addNode 158 = .ok (.iload 9, 2) := by decide +kernel
theorem dX3_addNode_160 : decode cX3_addNode 160 = .ok (.iaload, 1) := by decide +kernel
theorem dX3_addNode_161 : decode cX3_addNode 161 = .ok (.aload_n 0, 1) := by decide +kernel
theorem dX3_addNode_162 : decode cX3_addNode 162 = .ok (.getfield 18, 3) := by decide +kernel
theorem dX3_addNode_165 : decode cX3_addNode 165 = .ok (.iload 10, 2) := by decide +kernel
theorem dX3_addNode_167 : decode cX3_addNode 167 = .ok (.iaload, 1) := by decide +kernel
theorem dX3_addNode_168 : decode cX3_addNode 168 = .ok (.ior, 1) := by decide +kernel
theorem dX3_addNode_169 : decode cX3_addNode 169 = .ok (.invokevirtual 87, 3) := by decide +kernel
theorem dX3_addNode_172 : decode cX3_addNode 172 = .ok (.istore 4, 2) := by decide +kernel
theorem dX3_addNode_174 : decode cX3_addNode 174 = .ok (.iinc 10 1, 3) := by decide +kernel
theorem dX3_addNode_177 : decode cX3_addNode 177 = .ok (.goto (-46), 3) := by decide +kernel
theorem dX3_addNode_180 : decode cX3_addNode 180 = .ok (.iinc 9 1, 3) := by decide +kernel
theorem dX3_addNode_183 : decode cX3_addNode 183 = .ok (.goto (-76), 3) := by decide +kernel
theorem dX3_addNode_186 : decode cX3_addNode 186 = .ok (.iload 4, 2) := by decide +kernel
theorem dX3_addNode_188 : decode cX3_addNode 188 = .ok (.ireturn, 1) := by decide +kernel
theorem dX3_addWay_0 : decode cX3_addWay 0 = .ok (.iload_n 1, 1) := by decide +kernel
theorem dX3_addWay_1 : decode cX3_addWay 1 = .ok (.ifCond .lt 10, 3) := by decide +kernel
theorem dX3_addWay_4 : decode cX3_addWay 4 = .ok (.iload_n 1, 1) := by decide +kernel
theorem dX3_addWay_5 : decode cX3_addWay 5 = .ok (.sipush 320, 3) := by decide +kernel
theorem dX3_addWay_8 : decode cX3_addWay 8 = .ok (.if_icmp .lt 5, 3) := by decide +kernel
theorem dX3_addWay_11 : decode cX3_addWay 11 = .ok (.iload_n 1, 1) := by decide +kernel
theorem dX3_addWay_12 : decode cX3_addWay 12 = .ok (.ireturn, 1) := by decide +kernel
theorem dX3_addWay_13 : decode cX3_addWay 13 = .ok (.aload_n 0, 1) := by decide +kernel
theorem dX3_addWay_14 : decode cX3_addWay 14 = .ok (.getfield 18, 3) := by decide +kernel
theorem dX3_addWay_17 : decode cX3_addWay 17 = .ok (.iload_n 1, 1) := by decide +kernel
theorem dX3_addWay_18 : decode cX3_addWay 18 = .ok (.iload_n 2, 1) := by decide +kernel
theorem dX3_addWay_19 : decode cX3_addWay 19 = .ok (.iastore, 1) := by decide +kernel
theorem dX3_addWay_20 : decode cX3_addWay 20 = .ok (.iload_n 1, 1) := by decide +kernel
theorem dX3_addWay_21 : decode cX3_addWay 21 = .ok (.iconst 1, 1) := by decide +kernel
theorem dX3_addWay_22 : decode cX3_addWay 22 = .ok (.iadd, 1) := by decide +kernel
theorem dX3_addWay_23 : decode cX3_addWay 23 = .ok (.ireturn, 1) := by decide +kernel
theorem dX3_gatherPlane_0 : decode cX3_gatherPlane 0 = .ok (.iconst 0, 1) := by decide +kernel
theorem dX3_gatherPlane_1 : decode cX3_gatherPlane 1 = .ok (.istore_n 3, 1) := by decide +kernel
theorem dX3_gatherPlane_2 : decode cX3_gatherPlane 2 = .ok (.iload_n 3, 1) := by decide +kernel
theorem dX3_gatherPlane_3 : decode cX3_gatherPlane 3 = .ok (.iload_n 1, 1) := by decide +kernel
theorem dX3_gatherPlane_4 : decode cX3_gatherPlane 4 = .ok (.if_icmp .ge 62, 3) := by decide +kernel
theorem dX3_gatherPlane_7 : decode cX3_gatherPlane 7 = .ok (.iload_n 3, 1) := by decide +kernel
theorem dX3_gatherPlane_8 : decode cX3_gatherPlane 8 = .ok (.iload_n 1, 1) := by decide +kernel
theorem dX3_gatherPlane_9 : decode cX3_gatherPlane 9 = .ok (.invokestatic 93, 3) := by decide +kernel
theorem dX3_gatherPlane_12 : decode cX3_gatherPlane 12 = .ok (.iload_n 3, 1) := by decide +kernel
theorem dX3_gatherPlane_13 : decode cX3_gatherPlane 13 = .ok (.iconst 1, 1) := by decide +kernel
theorem dX3_gatherPlane_14 : decode cX3_gatherPlane 14 = .ok (.iadd, 1) := by decide +kernel
theorem dX3_gatherPlane_15 : decode cX3_gatherPlane 15 = .ok (.iload_n 1, 1) := by decide +kernel
theorem dX3_gatherPlane_16 : decode cX3_gatherPlane 16 = .ok (.invokestatic 93, 3) := by decide +kernel
theorem dX3_gatherPlane_19 : decode cX3_gatherPlane 19 = .ok (.ior, 1) := by decide +kernel
theorem dX3_gatherPlane_20 : decode cX3_gatherPlane 20 = .ok (.iload_n 3, 1) := by decide +kernel
theorem dX3_gatherPlane_21 : decode cX3_gatherPlane 21 = .ok (.iconst 3, 1) := by decide +kernel
theorem dX3_gatherPlane_22 : decode cX3_gatherPlane 22 = .ok (.iadd, 1) := by decide +kernel
theorem dX3_gatherPlane_23 : decode cX3_gatherPlane 23 = .ok (.iload_n 1, 1) := by decide +kernel
theorem dX3_gatherPlane_24 : decode cX3_gatherPlane 24 = .ok (.invokestatic 93, 3) := by decide +kernel
theorem dX3_gatherPlane_27 : decode cX3_gatherPlane 27 = .ok (.ior, 1) := by decide +kernel
theorem dX3_gatherPlane_28 : decode cX3_gatherPlane 28 = .ok (.istore 4, 2) := by decide +kernel
theorem dX3_gatherPlane_30 : decode cX3_gatherPlane 30 = .ok (.iload_n 1, 1) := by decide +kernel
theorem dX3_gatherPlane_31 : decode cX3_gatherPlane 31 = .ok (.bipush 13, 2) := by decide +kernel
theorem dX3_gatherPlane_33 : decode cX3_gatherPlane 33 = .ok (.if_icmp .ne 16, 3) := by decide +kernel
theorem dX3_gatherPlane_36 : decode cX3_gatherPlane 36 = .ok (.iload 4, 2) := by decide +kernel
theorem dX3_gatherPlane_38 : decode cX3_gatherPlane 38 = .ok (.iload_n 3, 1) := by decide +kernel
theorem dX3_gatherPlane_39 : decode cX3_gatherPlane 39 = .ok (.bipush 9, 2) := by decide +kernel
theorem dX3_gatherPlane_41 : decode cX3_gatherPlane 41 = .ok (.iadd, 1) := by decide +kernel
theorem dX3_gatherPlane_42 : decode cX3_gatherPlane 42 = .ok (.iload_n 1, 1) := by decide +kernel
theorem dX3_gatherPlane_43 : decode cX3_gatherPlane 43 = .ok (.invokestatic 93, 3) := by decide +kernel
theorem dX3_gatherPlane_46 : decode cX3_gatherPlane 46 = .ok (.ior, 1) := by decide +kernel
theorem dX3_gatherPlane_47 : decode cX3_gatherPlane 47 = .ok (.istore 4, 2) := by decide +kernel
theorem dX3_gatherPlane_49 : decode cX3_gatherPlane 49 = .ok (.aload_n 0, 1) := by decide +kernel
theorem dX3_gatherPlane_50 : decode cX3_gatherPlane 50 = .ok (.getfield 12, 3) := by decide +kernel
theorem dX3_gatherPlane_53 : decode cX3_gatherPlane 53 = .ok (.iload 4, 2) := by decide +kernel
theorem dX3_gatherPlane_55 : decode cX3_gatherPlane 55 = .ok (.iload_n 2, 1) := by decide +kernel
theorem dX3_gatherPlane_56 : decode cX3_gatherPlane 56 = .ok (.ishl, 1) := by decide +kernel
theorem dX3_gatherPlane_57 : decode cX3_gatherPlane 57 = .ok (.invokevirtual 70, 3) := by decide +kernel
theorem dX3_gatherPlane_60 : decode cX3_gatherPlane 60 = .ok (.iinc 3 1, 3) := by decide +kernel
theorem dX3_gatherPlane_63 : decode cX3_gatherPlane 63 = .ok (.goto (-61), 3) := by decide +kernel
theorem dX3_gatherPlane_66 : decode cX3_gatherPlane 66 = .ok (.return_, 1) := by decide +kernel
theorem dX3_point_0 : decode cX3_point 0 = .ok (.iconst 1, 1) := by decide +kernel
theorem dX3_point_1 : decode cX3_point 1 = .ok (.iload_n 0, 1) := by decide +kernel
theorem dX3_point_2 : decode cX3_point 2 = .ok (.iload_n 1, 1) := by decide +kernel
theorem dX3_point_3 : decode cX3_point 3 = .ok (.if_icmp .ge 7, 3) := by decide +kernel
theorem dX3_point_6 : decode cX3_point 6 = .ok (.iload_n 0, 1) := by decide +kernel
theorem dX3_point_7 : decode cX3_point 7 = .ok (.goto 6, 3) := by decide +kernel
theorem dX3_point_10 : decode cX3_point 10 = .ok (.iload_n 0, 1) := by decide +kernel
theorem dX3_point_11 : decode cX3_point 11 = .ok (.iload_n 1, 1) := by decide +kernel
theorem dX3_point_12 : decode cX3_point 12 = .ok (.isub, 1) := by decide +kernel
theorem dX3_point_13 : decode cX3_point 13 = .ok (.ishl, 1) := by decide +kernel
theorem dX3_point_14 : decode cX3_point 14 = .ok (.ireturn, 1) := by decide +kernel
theorem dX3_gatherJoin_0 : decode cX3_gatherJoin 0 = .ok (.iconst 1, 1) := by decide +kernel
theorem dX3_gatherJoin_1 : decode cX3_gatherJoin 1 = .ok (.iload_n 2, 1) := by decide +kernel
theorem dX3_gatherJoin_2 : decode cX3_gatherJoin 2 = .ok (.ishl, 1) := by decide +kernel
theorem dX3_gatherJoin_3 : decode cX3_gatherJoin 3 = .ok (.istore 4, 2) := by decide +kernel
theorem dX3_gatherJoin_5 : decode cX3_gatherJoin 5 = .ok (.iconst 0, 1) := by decide +kernel
theorem dX3_gatherJoin_6 : decode cX3_gatherJoin 6 = .ok (.istore 5, 2) := by decide +kernel
theorem dX3_gatherJoin_8 : decode cX3_gatherJoin 8 = .ok (.iload 5, 2) := by decide +kernel
theorem dX3_gatherJoin_10 : decode cX3_gatherJoin 10 = .ok (.aload_n 1, 1) := by decide +kernel
theorem dX3_gatherJoin_11 : decode cX3_gatherJoin 11 = .ok (.getfield 96, 3) := by decide +kernel
theorem dX3_gatherJoin_14 : decode cX3_gatherJoin 14 = .ok (.if_icmp .ge 56, 3) := by decide +kernel
theorem dX3_gatherJoin_17 : decode cX3_gatherJoin 17 = .ok (.aload_n 1, 1) := by decide +kernel
theorem dX3_gatherJoin_18 : decode cX3_gatherJoin 18 = .ok (.getfield 99, 3) := by decide +kernel
theorem dX3_gatherJoin_21 : decode cX3_gatherJoin 21 = .ok (.iload 5, 2) := by decide +kernel
theorem dX3_gatherJoin_23 : decode cX3_gatherJoin 23 = .ok (.iaload, 1) := by decide +kernel
theorem dX3_gatherJoin_24 : decode cX3_gatherJoin 24 = .ok (.iload 4, 2) := by decide +kernel
theorem dX3_gatherJoin_26 : decode cX3_gatherJoin 26 = .ok (.iand, 1) := by decide +kernel
theorem dX3_gatherJoin_27 : decode cX3_gatherJoin 27 = .ok (.ifCond .ne 20, 3) := by decide +kernel
theorem dX3_gatherJoin_30 : decode cX3_gatherJoin 30 = .ok (.aload_n 0, 1) := by decide +kernel
theorem dX3_gatherJoin_31 : decode cX3_gatherJoin 31 = .ok (.getfield 12, 3) := by decide +kernel
theorem dX3_gatherJoin_34 : decode cX3_gatherJoin 34 = .ok (.aload_n 1, 1) := by decide +kernel
theorem dX3_gatherJoin_35 : decode cX3_gatherJoin 35 = .ok (.getfield 99, 3) := by decide +kernel
theorem dX3_gatherJoin_38 : decode cX3_gatherJoin 38 = .ok (.iload 5, 2) := by decide +kernel
theorem dX3_gatherJoin_40 : decode cX3_gatherJoin 40 = .ok (.iaload, 1) := by decide +kernel
theorem dX3_gatherJoin_41 : decode cX3_gatherJoin 41 = .ok (.invokevirtual 70, 3) := by decide +kernel
theorem dX3_gatherJoin_44 : decode cX3_gatherJoin 44 = .ok (.goto 20, 3) := by decide +kernel
theorem dX3_gatherJoin_47 : decode cX3_gatherJoin 47 = .ok (.aload_n 0, 1) := by decide +kernel
theorem dX3_gatherJoin_48 : decode cX3_gatherJoin 48 = .ok (.aload_n 1, 1) := by decide +kernel
theorem dX3_gatherJoin_49 : decode cX3_gatherJoin 49 = .ok (.getfield 99, 3) := by decide +kernel
theorem dX3_gatherJoin_52 : decode cX3_gatherJoin 52 = .ok (.iload 5, 2) := by decide +kernel
theorem dX3_gatherJoin_54 : decode cX3_gatherJoin 54 = .ok (.iaload, 1) := by decide +kernel
theorem dX3_gatherJoin_55 : decode cX3_gatherJoin 55 = .ok (.iload 4, 2) := by decide +kernel
theorem dX3_gatherJoin_57 : decode cX3_gatherJoin 57 = .ok (.iconst (-1), 1) := by decide +kernel
theorem dX3_gatherJoin_58 : decode cX3_gatherJoin 58 = .ok (.ixor, 1) := by decide +kernel
theorem dX3_gatherJoin_59 : decode cX3_gatherJoin 59 = .ok (.iand, 1) := by decide +kernel
theorem dX3_gatherJoin_60 : decode cX3_gatherJoin 60 = .ok (.aload_n 3, 1) := by decide +kernel
theorem dX3_gatherJoin_61 : decode cX3_gatherJoin 61 = .ok (.invokevirtual 102, 3) := by decide +kernel
theorem dX3_gatherJoin_64 : decode cX3_gatherJoin 64 = .ok (.iinc 5 1, 3) := by decide +kernel
theorem dX3_gatherJoin_67 : decode cX3_gatherJoin 67 = .ok (.goto (-59), 3) := by decide +kernel
theorem dX3_gatherJoin_70 : decode cX3_gatherJoin 70 = .ok (.return_, 1) := by decide +kernel
theorem dX3_gatherBoth_0 : decode cX3_gatherBoth 0 = .ok (.iconst 0, 1) := by decide +kernel
theorem dX3_gatherBoth_1 : decode cX3_gatherBoth 1 = .ok (.istore_n 3, 1) := by decide +kernel
theorem dX3_gatherBoth_2 : decode cX3_gatherBoth 2 = .ok (.iload_n 3, 1) := by decide +kernel
theorem dX3_gatherBoth_3 : decode cX3_gatherBoth 3 = .ok (.aload_n 1, 1) := by decide +kernel
theorem dX3_gatherBoth_4 : decode cX3_gatherBoth 4 = .ok (.getfield 96, 3) := by decide +kernel
theorem dX3_gatherBoth_7 : decode cX3_gatherBoth 7 = .ok (.if_icmp .ge 20, 3) := by decide +kernel
theorem dX3_gatherBoth_10 : decode cX3_gatherBoth 10 = .ok (.aload_n 0, 1) := by decide +kernel
theorem dX3_gatherBoth_11 : decode cX3_gatherBoth 11 = .ok (.aload_n 1, 1) := by decide +kernel
theorem dX3_gatherBoth_12 : decode cX3_gatherBoth 12 = .ok (.getfield 99, 3) := by decide +kernel
theorem dX3_gatherBoth_15 : decode cX3_gatherBoth 15 = .ok (.iload_n 3, 1) := by decide +kernel
theorem dX3_gatherBoth_16 : decode cX3_gatherBoth 16 = .ok (.iaload, 1) := by decide +kernel
theorem dX3_gatherBoth_17 : decode cX3_gatherBoth 17 = .ok (.aload_n 2, 1) := by decide +kernel
theorem dX3_gatherBoth_18 : decode cX3_gatherBoth 18 = .ok (.invokevirtual 102, 3) := by decide +kernel
theorem dX3_gatherBoth_21 : decode cX3_gatherBoth 21 = .ok (.iinc 3 1, 3) := by decide +kernel
theorem dX3_gatherBoth_24 : decode cX3_gatherBoth 24 = .ok (.goto (-22), 3) := by decide +kernel
theorem dX3_gatherBoth_27 : decode cX3_gatherBoth 27 = .ok (.return_, 1) := by decide +kernel
theorem dX3_putWithEach_0 : decode cX3_putWithEach 0 = .ok (.iconst 0, 1) := by decide +kernel
theorem dX3_putWithEach_1 : decode cX3_putWithEach 1 = .ok (.istore_n 3, 1) := by decide +kernel
theorem dX3_putWithEach_2 : decode cX3_putWithEach 2 = .ok (.iload_n 3, 1) := by decide +kernel
theorem dX3_putWithEach_3 : decode cX3_putWithEach 3 = .ok (.aload_n 2, 1) := by decide +kernel
theorem dX3_putWithEach_4 : decode cX3_putWithEach 4 = .ok (.getfield 96, 3) := by decide +kernel
theorem dX3_putWithEach_7 : decode cX3_putWithEach 7 = .ok (.if_icmp .ge 24, 3) := by decide +kernel
theorem dX3_putWithEach_10 : decode cX3_putWithEach 10 = .ok (.aload_n 0, 1) := by decide +kernel
theorem dX3_putWithEach_11 : decode cX3_putWithEach 11 = .ok (.getfield 12, 3) := by decide +kernel
theorem dX3_putWithEach_14 : decode cX3_putWithEach 14 = .ok (.iload_n 1, 1) := by decide +kernel
theorem dX3_putWithEach_15 : decode cX3_putWithEach 15 = .ok (.aload_n 2, 1) := by decide +kernel
theorem dX3_putWithEach_16 : decode cX3_putWithEach 16 = .ok (.getfield 99, 3) := by decide +kernel
theorem dX3_putWithEach_19 : decode cX3_putWithEach 19 = .ok (.iload_n 3, 1) := by decide +kernel
theorem dX3_putWithEach_20 : decode cX3_putWithEach 20 = .ok (.iaload, 1) := by decide +kernel
theorem dX3_putWithEach_21 : decode cX3_putWithEach 21 = .ok (.ior, 1) := by decide +kernel
theorem dX3_putWithEach_22 : decode cX3_putWithEach 22 = .ok (.invokevirtual 70, 3) := by decide +kernel
theorem dX3_putWithEach_25 : decode cX3_putWithEach 25 = .ok (.iinc 3 1, 3) := by decide +kernel
theorem dX3_putWithEach_28 : decode cX3_putWithEach 28 = .ok (.goto (-26), 3) := by decide +kernel
theorem dX3_putWithEach_31 : decode cX3_putWithEach 31 = .ok (.return_, 1) := by decide +kernel
theorem dX3_gatherWithin_0 : decode cX3_gatherWithin 0 = .ok (.iconst 0, 1) := by decide +kernel
theorem dX3_gatherWithin_1 : decode cX3_gatherWithin 1 = .ok (.istore_n 3, 1) := by decide +kernel
theorem dX3_gatherWithin_2 : decode cX3_gatherWithin 2 = .ok (.iload_n 3, 1) := by decide +kernel
theorem dX3_gatherWithin_3 : decode cX3_gatherWithin 3 = .ok (.aload_n 1, 1) := by decide +kernel
theorem dX3_gatherWithin_4 : decode cX3_gatherWithin 4 = .ok (.getfield 96, 3) := by decide +kernel
theorem dX3_gatherWithin_7 : decode cX3_gatherWithin 7 = .ok (.if_icmp .ge 35, 3) := by decide +kernel
theorem dX3_gatherWithin_10 : decode cX3_gatherWithin 10 = .ok (.aload_n 1, 1) := by decide +kernel
theorem dX3_gatherWithin_11 : decode cX3_gatherWithin 11 = .ok (.getfield 99, 3) := by decide +kernel
theorem dX3_gatherWithin_14 : decode cX3_gatherWithin 14 = .ok (.iload_n 3, 1) := by decide +kernel
theorem dX3_gatherWithin_15 : decode cX3_gatherWithin 15 = .ok (.iaload, 1) := by decide +kernel
theorem dX3_gatherWithin_16 : decode cX3_gatherWithin 16 = .ok (.iload_n 2, 1) := by decide +kernel
theorem dX3_gatherWithin_17 : decode cX3_gatherWithin 17 = .ok (.iconst (-1), 1) := by decide +kernel
theorem dX3_gatherWithin_18 : decode cX3_gatherWithin 18 = .ok (.ixor, 1) := by decide +kernel
theorem dX3_gatherWithin_19 : decode cX3_gatherWithin 19 = .ok (.iand, 1) := by decide +kernel
theorem dX3_gatherWithin_20 : decode cX3_gatherWithin 20 = .ok (.ifCond .ne 16, 3) := by decide +kernel
theorem dX3_gatherWithin_23 : decode cX3_gatherWithin 23 = .ok (.aload_n 0, 1) := by decide +kernel
theorem dX3_gatherWithin_24 : decode cX3_gatherWithin 24 = .ok (.getfield 12, 3) := by decide +kernel
theorem dX3_gatherWithin_27 : decode cX3_gatherWithin 27 = .ok (.aload_n 1, 1) := by decide +kernel
theorem dX3_gatherWithin_28 : decode cX3_gatherWithin 28 = .ok (.getfield 99, 3) := by decide +kernel
theorem dX3_gatherWithin_31 : decode cX3_gatherWithin 31 = .ok (.iload_n 3, 1) := by decide +kernel
theorem dX3_gatherWithin_32 : decode cX3_gatherWithin 32 = .ok (.iaload, 1) := by decide +kernel
theorem dX3_gatherWithin_33 : decode cX3_gatherWithin 33 = .ok (.invokevirtual 70, 3) := by decide +kernel
theorem dX3_gatherWithin_36 : decode cX3_gatherWithin 36 = .ok (.iinc 3 1, 3) := by decide +kernel
theorem dX3_gatherWithin_39 : decode cX3_gatherWithin 39 = .ok (.goto (-37), 3) := by decide +kernel
theorem dX3_gatherWithin_42 : decode cX3_gatherWithin 42 = .ok (.return_, 1) := by decide +kernel
theorem dX3_gatherHolding_0 : decode cX3_gatherHolding 0 = .ok (.aload_n 0, 1) := by decide +kernel
theorem dX3_gatherHolding_1 : decode cX3_gatherHolding 1 = .ok (.aload_n 1, 1) := by decide +kernel
theorem dX3_gatherHolding_2 : decode cX3_gatherHolding 2 = .ok (.iconst (-1), 1) := by decide +kernel
theorem dX3_gatherHolding_3 : decode cX3_gatherHolding 3 = .ok (.invokevirtual 106, 3) := by decide +kernel
theorem dX3_gatherHolding_6 : decode cX3_gatherHolding 6 = .ok (.aload_n 0, 1) := by decide +kernel
theorem dX3_gatherHolding_7 : decode cX3_gatherHolding 7 = .ok (.getfield 12, 3) := by decide +kernel
theorem dX3_gatherHolding_10 : decode cX3_gatherHolding 10 = .ok (.invokevirtual 110, 3) := by decide +kernel
theorem dX3_gatherHolding_13 : decode cX3_gatherHolding 13 = .ok (.return_, 1) := by decide +kernel
theorem dX3_gatherMeeting_0 : decode cX3_gatherMeeting 0 = .ok (.aload_n 0, 1) := by decide +kernel
theorem dX3_gatherMeeting_1 : decode cX3_gatherMeeting 1 = .ok (.aload_n 1, 1) := by decide +kernel
theorem dX3_gatherMeeting_2 : decode cX3_gatherMeeting 2 = .ok (.invokevirtual 113, 3) := by decide +kernel
theorem dX3_gatherMeeting_5 : decode cX3_gatherMeeting 5 = .ok (.aload_n 0, 1) := by decide +kernel
theorem dX3_gatherMeeting_6 : decode cX3_gatherMeeting 6 = .ok (.getfield 12, 3) := by decide +kernel
theorem dX3_gatherMeeting_9 : decode cX3_gatherMeeting 9 = .ok (.invokevirtual 117, 3) := by decide +kernel
theorem dX3_gatherMeeting_12 : decode cX3_gatherMeeting 12 = .ok (.return_, 1) := by decide +kernel
theorem dX3_gatherBetter_0 : decode cX3_gatherBetter 0 = .ok (.aload_n 0, 1) := by decide +kernel
theorem dX3_gatherBetter_1 : decode cX3_gatherBetter 1 = .ok (.aload_n 1, 1) := by decide +kernel
theorem dX3_gatherBetter_2 : decode cX3_gatherBetter 2 = .ok (.invokevirtual 113, 3) := by decide +kernel
theorem dX3_gatherBetter_5 : decode cX3_gatherBetter 5 = .ok (.aload_n 0, 1) := by decide +kernel
theorem dX3_gatherBetter_6 : decode cX3_gatherBetter 6 = .ok (.getfield 12, 3) := by decide +kernel
theorem dX3_gatherBetter_9 : decode cX3_gatherBetter 9 = .ok (.bipush 120, 2) := by decide +kernel
theorem dX3_gatherBetter_11 : decode cX3_gatherBetter 11 = .ok (.invokevirtual 120, 3) := by decide +kernel
theorem dX3_gatherBetter_14 : decode cX3_gatherBetter 14 = .ok (.return_, 1) := by decide +kernel
theorem dX7_init_0 : decode cX7_init 0 = .ok (.aload_n 0, 1) := by decide +kernel
theorem dX7_init_1 : decode cX7_init 1 = .ok (.invokespecial 3, 3) := by decide +kernel
theorem dX7_init_4 : decode cX7_init 4 = .ok (.aload_n 0, 1) := by decide +kernel
theorem dX7_init_5 : decode cX7_init 5 = .ok (.sipush 1024, 3) := by decide +kernel
theorem dX7_init_8 : decode cX7_init 8 = .ok (.newarray .long, 2) := by decide +kernel
theorem dX7_init_10 : decode cX7_init 10 = .ok (.putfield 11, 3) := by decide +kernel
theorem dX7_init_13 : decode cX7_init 13 = .ok (.aload_n 0, 1) := by decide +kernel
theorem dX7_init_14 : decode cX7_init 14 = .ok (.bipush 64, 2) := by decide +kernel
theorem dX7_init_16 : decode cX7_init 16 = .ok (.newarray .long, 2) := by decide +kernel
theorem dX7_init_18 : decode cX7_init 18 = .ok (.putfield 15, 3) := by decide +kernel
theorem dX7_init_21 : decode cX7_init 21 = .ok (.aload_n 0, 1) := by decide +kernel
theorem dX7_init_22 : decode cX7_init 22 = .ok (.iconst 1, 1) := by decide +kernel
theorem dX7_init_23 : decode cX7_init 23 = .ok (.putfield 18, 3) := by decide +kernel
theorem dX7_init_26 : decode cX7_init 26 = .ok (.return_, 1) := by decide +kernel
theorem dX7_clear_0 : decode cX7_clear 0 = .ok (.iload_n 1, 1) := by decide +kernel
theorem dX7_clear_1 : decode cX7_clear 1 = .ok (.bipush 6, 2) := by decide +kernel
theorem dX7_clear_3 : decode cX7_clear 3 = .ok (.invokestatic 22, 3) := by decide +kernel
theorem dX7_clear_6 : decode cX7_clear 6 = .ok (.bipush 16, 2) := by decide +kernel
theorem dX7_clear_8 : decode cX7_clear 8 = .ok (.invokestatic 28, 3) := by decide +kernel
theorem dX7_clear_11 : decode cX7_clear 11 = .ok (.bipush 6, 2) := by decide +kernel
theorem dX7_clear_13 : decode cX7_clear 13 = .ok (.isub, 1) := by decide +kernel
theorem dX7_clear_14 : decode cX7_clear 14 = .ok (.istore_n 2, 1) := by decide +kernel
theorem dX7_clear_15 : decode cX7_clear 15 = .ok (.aload_n 0, 1) := by decide +kernel
theorem dX7_clear_16 : decode cX7_clear 16 = .ok (.iconst 1, 1) := by decide +kernel
theorem dX7_clear_17 : decode cX7_clear 17 = .ok (.iload_n 2, 1) := by decide +kernel
theorem dX7_clear_18 : decode cX7_clear 18 = .ok (.ishl, 1) := by decide +kernel
theorem dX7_clear_19 : decode cX7_clear 19 = .ok (.putfield 18, 3) := by decide +kernel
theorem dX7_clear_22 : decode cX7_clear 22 = .ok (.iconst 0, 1) := by decide +kernel
theorem dX7_clear_23 : decode cX7_clear 23 = .ok (.istore_n 3, 1) := by decide +kernel
theorem dX7_clear_24 : decode cX7_clear 24 = .ok (.iload_n 3, 1) := by decide +kernel
theorem dX7_clear_25 : decode cX7_clear 25 = .ok (.aload_n 0, 1) := by decide +kernel
theorem dX7_clear_26 : decode cX7_clear 26 = .ok (.getfield 18, 3) := by decide +kernel
theorem dX7_clear_29 : decode cX7_clear 29 = .ok (.if_icmp .ge 16, 3) := by decide +kernel
theorem dX7_clear_32 : decode cX7_clear 32 = .ok (.aload_n 0, 1) := by decide +kernel
theorem dX7_clear_33 : decode cX7_clear 33 = .ok (.getfield 11, 3) := by decide +kernel
theorem dX7_clear_36 : decode cX7_clear 36 = .ok (.iload_n 3, 1) := by decide +kernel
theorem dX7_clear_37 : decode cX7_clear 37 = .ok (.lconst 0, 1) := by decide +kernel
theorem dX7_clear_38 : decode cX7_clear 38 = .ok (.lastore, 1) := by decide +kernel
theorem dX7_clear_39 : decode cX7_clear 39 = .ok (.iinc 3 1, 3) := by decide +kernel
theorem dX7_clear_42 : decode cX7_clear 42 = .ok (.goto (-18), 3) := by decide +kernel
theorem dX7_clear_45 : decode cX7_clear 45 = .ok (.return_, 1) := by decide +kernel
theorem dX7_put_0 : decode cX7_put 0 = .ok (.iload_n 1, 1) := by decide +kernel
theorem dX7_put_1 : decode cX7_put 1 = .ok (.bipush 6, 2) := by decide +kernel
theorem dX7_put_3 : decode cX7_put 3 = .ok (.iushr, 1) := by decide +kernel
theorem dX7_put_4 : decode cX7_put 4 = .ok (.istore_n 2, 1) := by decide +kernel
theorem dX7_put_5 : decode cX7_put 5 = .ok (.iload_n 2, 1) := by decide +kernel
theorem dX7_put_6 : decode cX7_put 6 = .ok (.aload_n 0, 1) := by decide +kernel
theorem dX7_put_7 : decode cX7_put 7 = .ok (.getfield 18, 3) := by decide +kernel
theorem dX7_put_10 : decode cX7_put 10 = .ok (.if_icmp .ge 18, 3) := by decide +kernel
theorem dX7_put_13 : decode cX7_put 13 = .ok (.aload_n 0, 1) := by decide +kernel
theorem dX7_put_14 : decode cX7_put 14 = .ok (.getfield 11, 3) := by decide +kernel
theorem dX7_put_17 : decode cX7_put 17 = .ok (.iload_n 2, 1) := by decide +kernel
theorem dX7_put_18 : decode cX7_put 18 = .ok (.dup2, 1) := by decide +kernel
theorem dX7_put_19 : decode cX7_put 19 = .ok (.laload, 1) := by decide +kernel
theorem dX7_put_20 : decode cX7_put 20 = .ok (.lconst 1, 1) := by decide +kernel
theorem dX7_put_21 : decode cX7_put 21 = .ok (.iload_n 1, 1) := by decide +kernel
theorem dX7_put_22 : decode cX7_put 22 = .ok (.bipush 63, 2) := by decide +kernel
theorem dX7_put_24 : decode cX7_put 24 = .ok (.iand, 1) := by decide +kernel
theorem dX7_put_25 : decode cX7_put 25 = .ok (.lshl, 1) := by decide +kernel
theorem dX7_put_26 : decode cX7_put 26 = .ok (.lor, 1) := by decide +kernel
theorem dX7_put_27 : decode cX7_put 27 = .ok (.lastore, 1) := by decide +kernel
theorem dX7_put_28 : decode cX7_put 28 = .ok (.return_, 1) := by decide +kernel
theorem dX7_putUpwards_0 : decode cX7_putUpwards 0 = .ok (.lconst 1, 1) := by decide +kernel
theorem dX7_putUpwards_1 : decode cX7_putUpwards 1 = .ok (.iload_n 1, 1) := by decide +kernel
theorem dX7_putUpwards_2 : decode cX7_putUpwards 2 = .ok (.bipush 63, 2) := by decide +kernel
theorem dX7_putUpwards_4 : decode cX7_putUpwards 4 = .ok (.iand, 1) := by decide +kernel
theorem dX7_putUpwards_5 : decode cX7_putUpwards 5 = .ok (.lshl, 1) := by decide +kernel
theorem dX7_putUpwards_6 : decode cX7_putUpwards 6 = .ok (.invokestatic 31, 3) := by decide +kernel
theorem dX7_putUpwards_9 : decode cX7_putUpwards 9 = .ok (.lstore_n 2, 1) := by decide +kernel
theorem dX7_putUpwards_10 : decode cX7_putUpwards 10 = .ok (.iload_n 1, 1) := by decide +kernel
theorem dX7_putUpwards_11 : decode cX7_putUpwards 11 = .ok (.bipush 6, 2) := by decide +kernel
theorem dX7_putUpwards_13 : decode cX7_putUpwards 13 = .ok (.iushr, 1) := by decide +kernel
theorem dX7_putUpwards_14 : decode cX7_putUpwards 14 = .ok (.istore 4, 2) := by decide +kernel
theorem dX7_putUpwards_16 : decode cX7_putUpwards 16 = .ok (.iload 4, 2) := by decide +kernel
theorem dX7_putUpwards_18 : decode cX7_putUpwards 18 = .ok (.istore 5, 2) := by decide +kernel
theorem dX7_putUpwards_20 : decode cX7_putUpwards 20 = .ok (.iload 5, 2) := by decide +kernel
theorem dX7_putUpwards_22 : decode cX7_putUpwards 22 = .ok (.aload_n 0, 1) := by decide +kernel
theorem dX7_putUpwards_23 : decode cX7_putUpwards 23 = .ok (.getfield 18, 3) := by decide +kernel
theorem dX7_putUpwards_26 : decode cX7_putUpwards 26 = .ok (.if_icmp .ge 26, 3) := by decide +kernel
theorem dX7_putUpwards_29 : decode cX7_putUpwards 29 = .ok (.aload_n 0, 1) := by decide +kernel
theorem dX7_putUpwards_30 : decode cX7_putUpwards 30 = .ok (.getfield 11, 3) := by decide +kernel
theorem dX7_putUpwards_33 : decode cX7_putUpwards 33 = .ok (.iload 5, 2) := by decide +kernel
theorem dX7_putUpwards_35 : decode cX7_putUpwards 35 = .ok (.dup2, 1) := by decide +kernel
theorem dX7_putUpwards_36 : decode cX7_putUpwards 36 = .ok (.laload, 1) := by decide +kernel
theorem dX7_putUpwards_37 : decode cX7_putUpwards 37 = .ok (.lload_n 2, 1) := by decide +kernel
theorem dX7_putUpwards_38 : decode cX7_putUpwards 38 = .ok (.lor, 1) := by decide +kernel
theorem dX7_putUpwards_39 : decode cX7_putUpwards 39 = .ok (.lastore, 1) := by decide +kernel
theorem dX7_putUpwards_40 : decode cX7_putUpwards 40 = .ok (.iload 5, 2) := by decide +kernel
theorem dX7_putUpwards_42 : decode cX7_putUpwards 42 = .ok (.iconst 1, 1) := by decide +kernel
theorem dX7_putUpwards_43 : decode cX7_putUpwards 43 = .ok (.iadd, 1) := by decide +kernel
theorem dX7_putUpwards_44 : decode cX7_putUpwards 44 = .ok (.iload 4, 2) := by decide +kernel
theorem dX7_putUpwards_46 : decode cX7_putUpwards 46 = .ok (.ior, 1) := by decide +kernel
theorem dX7_putUpwards_47 : decode cX7_putUpwards 47 = .ok (.istore 5, 2) := by decide +kernel
theorem dX7_putUpwards_49 : decode cX7_putUpwards 49 = .ok (.goto (-29), 3) := by decide +kernel
theorem dX7_putUpwards_52 : decode cX7_putUpwards 52 = .ok (.return_, 1) := by decide +kernel
theorem dX7_closeUpwards_0 : decode cX7_closeUpwards 0 = .ok (.iconst 0, 1) := by decide +kernel
theorem dX7_closeUpwards_1 : decode cX7_closeUpwards 1 = .ok (.istore_n 1, 1) := by decide +kernel
theorem dX7_closeUpwards_2 : decode cX7_closeUpwards 2 = .ok (.iload_n 1, 1) := by decide +kernel
theorem dX7_closeUpwards_3 : decode cX7_closeUpwards 3 = .ok (.aload_n 0, 1) := by decide +kernel
theorem dX7_closeUpwards_4 : decode cX7_closeUpwards 4 = .ok (.getfield 18, 3) := by decide +kernel
theorem dX7_closeUpwards_7 : decode cX7_closeUpwards 7 = .ok (.if_icmp .ge 24, 3) := by decide +kernel
theorem dX7_closeUpwards_10 : decode cX7_closeUpwards 10 = .ok (.aload_n 0, 1) := by decide +kernel
theorem dX7_closeUpwards_11 : decode cX7_closeUpwards 11 = .ok (.getfield 11, 3) := by decide +kernel
theorem dX7_closeUpwards_14 : decode cX7_closeUpwards 14 = .ok (.iload_n 1, 1) := by decide +kernel
theorem dX7_closeUpwards_15 : decode cX7_closeUpwards 15 = .ok (.aload_n 0, 1) := by decide +kernel
theorem dX7_closeUpwards_16 : decode cX7_closeUpwards 16 = .ok (.getfield 11, 3) := by decide +kernel
theorem dX7_closeUpwards_19 : decode cX7_closeUpwards 19 = .ok (.iload_n 1, 1) := by decide +kernel
theorem dX7_closeUpwards_20 : decode cX7_closeUpwards 20 = .ok (.laload, 1) := by decide +kernel
theorem dX7_closeUpwards_21 : decode cX7_closeUpwards 21 = .ok (.invokestatic 31, 3) := by decide +kernel
theorem dX7_closeUpwards_24 : decode cX7_closeUpwards 24 = .ok (.lastore, 1) := by decide +kernel
theorem dX7_closeUpwards_25 : decode cX7_closeUpwards 25 = .ok (.iinc 1 1, 3) := by decide +kernel
theorem dX7_closeUpwards_28 : decode cX7_closeUpwards 28 = .ok (.goto (-26), 3) := by decide +kernel
theorem dX7_closeUpwards_31 : decode cX7_closeUpwards 31 = .ok (.iconst 1, 1) := by decide +kernel
theorem dX7_closeUpwards_32 : decode cX7_closeUpwards 32 = .ok (.istore_n 1, 1) := by decide +kernel
theorem dX7_closeUpwards_33 : decode cX7_closeUpwards 33 = .ok (.iload_n 1, 1) := by decide +kernel
theorem dX7_closeUpwards_34 : decode cX7_closeUpwards 34 = .ok (.aload_n 0, 1) := by decide +kernel
theorem dX7_closeUpwards_35 : decode cX7_closeUpwards 35 = .ok (.getfield 18, 3) := by decide +kernel
theorem dX7_closeUpwards_38 : decode cX7_closeUpwards 38 = .ok (.if_icmp .ge 46, 3) := by decide +kernel
theorem dX7_closeUpwards_41 : decode cX7_closeUpwards 41 = .ok (.iload_n 1, 1) := by decide +kernel
theorem dX7_closeUpwards_42 : decode cX7_closeUpwards 42 = .ok (.istore_n 2, 1) := by decide +kernel
theorem dX7_closeUpwards_43 : decode cX7_closeUpwards 43 = .ok (.iload_n 2, 1) := by decide +kernel
theorem dX7_closeUpwards_44 : decode cX7_closeUpwards 44 = .ok (.aload_n 0, 1) := by decide +kernel
theorem dX7_closeUpwards_45 : decode cX7_closeUpwards 45 = .ok (.getfield 18, 3) := by decide +kernel
theorem dX7_closeUpwards_48 : decode cX7_closeUpwards 48 = .ok (.if_icmp .ge 29, 3) := by decide +kernel
theorem dX7_closeUpwards_51 : decode cX7_closeUpwards 51 = .ok (.aload_n 0, 1) := by decide +kernel
theorem dX7_closeUpwards_52 : decode cX7_closeUpwards 52 = .ok (.getfield 11, 3) := by decide +kernel
theorem dX7_closeUpwards_55 : decode cX7_closeUpwards 55 = .ok (.iload_n 2, 1) := by decide +kernel
theorem dX7_closeUpwards_56 : decode cX7_closeUpwards 56 = .ok (.dup2, 1) := by decide +kernel
theorem dX7_closeUpwards_57 : decode cX7_closeUpwards 57 = .ok (.laload, 1) := by decide +kernel
theorem dX7_closeUpwards_58 : decode cX7_closeUpwards 58 = .ok (.aload_n 0, 1) := by decide +kernel
theorem dX7_closeUpwards_59 : decode cX7_closeUpwards 59 = .ok (.getfield 11, 3) := by decide +kernel
theorem dX7_closeUpwards_62 : decode cX7_closeUpwards 62 = .ok (.iload_n 2, 1) := by decide +kernel
theorem dX7_closeUpwards_63 : decode cX7_closeUpwards 63 = .ok (.iload_n 1, 1) := by decide +kernel
theorem dX7_closeUpwards_64 : decode cX7_closeUpwards 64 = .ok (.isub, 1) := by decide +kernel
theorem dX7_closeUpwards_65 : decode cX7_closeUpwards 65 = .ok (.laload, 1) := by decide +kernel
theorem dX7_closeUpwards_66 : decode cX7_closeUpwards 66 = .ok (.lor, 1) := by decide +kernel
theorem dX7_closeUpwards_67 : decode cX7_closeUpwards 67 = .ok (.lastore, 1) := by decide +kernel
theorem dX7_closeUpwards_68 : decode cX7_closeUpwards 68 = .ok (.iload_n 2, 1) := by decide +kernel
theorem dX7_closeUpwards_69 : decode cX7_closeUpwards 69 = .ok (.iconst 1, 1) := by decide +kernel
theorem dX7_closeUpwards_70 : decode cX7_closeUpwards 70 = .ok (.iadd, 1) := by decide +kernel
theorem dX7_closeUpwards_71 : decode cX7_closeUpwards 71 = .ok (.iload_n 1, 1) := by decide +kernel
theorem dX7_closeUpwards_72 : decode cX7_closeUpwards 72 = .ok (.ior, 1) := by decide +kernel
theorem dX7_closeUpwards_73 : decode cX7_closeUpwards 73 = .ok (.istore_n 2, 1) := by decide +kernel
theorem dX7_closeUpwards_74 : decode cX7_closeUpwards 74 = .ok (.goto (-31), 3) := by decide +kernel
theorem dX7_closeUpwards_77 : decode cX7_closeUpwards 77 = .ok (.iload_n 1, 1) := by decide +kernel
theorem dX7_closeUpwards_78 : decode cX7_closeUpwards 78 = .ok (.iconst 1, 1) := by decide +kernel
theorem dX7_closeUpwards_79 : decode cX7_closeUpwards 79 = .ok (.ishl, 1) := by decide +kernel
theorem dX7_closeUpwards_80 : decode cX7_closeUpwards 80 = .ok (.istore_n 1, 1) := by decide +kernel
theorem dX7_closeUpwards_81 : decode cX7_closeUpwards 81 = .ok (.goto (-48), 3) := by decide +kernel
theorem dX7_closeUpwards_84 : decode cX7_closeUpwards 84 = .ok (.return_, 1) := by decide +kernel
theorem dX7_keepLeast_0 : decode cX7_keepLeast 0 = .ok (.aload_n 0, 1) := by decide +kernel
theorem dX7_keepLeast_1 : decode cX7_keepLeast 1 = .ok (.getfield 18, 3) := by decide +kernel
theorem dX7_keepLeast_4 : decode cX7_keepLeast 4 = .ok (.iconst 1, 1) := by decide +kernel
theorem dX7_keepLeast_5 : decode cX7_keepLeast 5 = .ok (.isub, 1) := by decide +kernel
theorem dX7_keepLeast_6 : decode cX7_keepLeast 6 = .ok (.istore_n 1, 1) := by decide +kernel
theorem dX7_keepLeast_7 : decode cX7_keepLeast 7 = .ok (.iload_n 1, 1) := by decide +kernel
theorem dX7_keepLeast_8 : decode cX7_keepLeast 8 = .ok (.ifCond .lt 70, 3) := by decide +kernel
theorem dX7_keepLeast_11 : decode cX7_keepLeast 11 = .ok (.aload_n 0, 1) := by decide +kernel
theorem dX7_keepLeast_12 : decode cX7_keepLeast 12 = .ok (.getfield 11, 3) := by decide +kernel
theorem dX7_keepLeast_15 : decode cX7_keepLeast 15 = .ok (.iload_n 1, 1) := by decide +kernel
theorem dX7_keepLeast_16 : decode cX7_keepLeast 16 = .ok (.laload, 1) := by decide +kernel
theorem dX7_keepLeast_17 : decode cX7_keepLeast 17 = .ok (.invokestatic 35, 3) := by decide +kernel
theorem dX7_keepLeast_20 : decode cX7_keepLeast 20 = .ok (.lstore_n 2, 1) := by decide +kernel
theorem dX7_keepLeast_21 : decode cX7_keepLeast 21 = .ok (.iconst 1, 1) := by decide +kernel
theorem dX7_keepLeast_22 : decode cX7_keepLeast 22 = .ok (.istore 4, 2) := by decide +kernel
theorem dX7_keepLeast_24 : decode cX7_keepLeast 24 = .ok (.iload 4, 2) := by decide +kernel
theorem dX7_keepLeast_26 : decode cX7_keepLeast 26 = .ok (.iload_n 1, 1) := by decide +kernel
theorem dX7_keepLeast_27 : decode cX7_keepLeast 27 = .ok (.if_icmp .gt 31, 3) := by decide +kernel
theorem dX7_keepLeast_30 : decode cX7_keepLeast 30 = .ok (.iload_n 1, 1) := by decide +kernel
theorem dX7_keepLeast_31 : decode cX7_keepLeast 31 = .ok (.iload 4, 2) := by decide +kernel
theorem dX7_keepLeast_33 : decode cX7_keepLeast 33 = .ok (.iand, 1) := by decide +kernel
theorem dX7_keepLeast_34 : decode cX7_keepLeast 34 = .ok (.ifCond .eq 15, 3) := by decide +kernel
theorem dX7_keepLeast_37 : decode cX7_keepLeast 37 = .ok (.lload_n 2, 1) := by decide +kernel
theorem dX7_keepLeast_38 : decode cX7_keepLeast 38 = .ok (.aload_n 0, 1) := by decide +kernel
theorem dX7_keepLeast_39 : decode cX7_keepLeast 39 = .ok (.getfield 11, 3) := by decide +kernel
theorem dX7_keepLeast_42 : decode cX7_keepLeast 42 = .ok (.iload_n 1, 1) := by decide +kernel
theorem dX7_keepLeast_43 : decode cX7_keepLeast 43 = .ok (.iload 4, 2) := by decide +kernel
theorem dX7_keepLeast_45 : decode cX7_keepLeast 45 = .ok (.isub, 1) := by decide +kernel
theorem dX7_keepLeast_46 : decode cX7_keepLeast 46 = .ok (.laload, 1) := by decide +kernel
theorem dX7_keepLeast_47 : decode cX7_keepLeast 47 = .ok (.lor, 1) := by decide +kernel
theorem dX7_keepLeast_48 : decode cX7_keepLeast 48 = .ok (.lstore_n 2, 1) := by decide +kernel
theorem dX7_keepLeast_49 : decode cX7_keepLeast 49 = .ok (.iload 4, 2) := by decide +kernel
theorem dX7_keepLeast_51 : decode cX7_keepLeast 51 = .ok (.iconst 1, 1) := by decide +kernel
theorem dX7_keepLeast_52 : decode cX7_keepLeast 52 = .ok (.ishl, 1) := by decide +kernel
theorem dX7_keepLeast_53 : decode cX7_keepLeast 53 = .ok (.istore 4, 2) := by decide +kernel
theorem dX7_keepLeast_55 : decode cX7_keepLeast 55 = .ok (.goto (-31), 3) := by decide +kernel
theorem dX7_keepLeast_58 : decode cX7_keepLeast 58 = .ok (.aload_n 0, 1) := by decide +kernel
theorem dX7_keepLeast_59 : decode cX7_keepLeast 59 = .ok (.getfield 11, 3) := by decide +kernel
theorem dX7_keepLeast_62 : decode cX7_keepLeast 62 = .ok (.iload_n 1, 1) := by decide +kernel
theorem dX7_keepLeast_63 : decode cX7_keepLeast 63 = .ok (.dup2, 1) := by decide +kernel
theorem dX7_keepLeast_64 : decode cX7_keepLeast 64 = .ok (.laload, 1) := by decide +kernel
theorem dX7_keepLeast_65 : decode cX7_keepLeast 65 = .ok (.lload_n 2, 1) := by decide +kernel
theorem dX7_keepLeast_66 : decode cX7_keepLeast 66 = .ok (.ldc2_w 38, 3) := by decide +kernel
theorem dX7_keepLeast_69 : decode cX7_keepLeast 69 = .ok (.lxor, 1) := by decide +kernel
theorem dX7_keepLeast_70 : decode cX7_keepLeast 70 = .ok (.land, 1) := by decide +kernel
theorem dX7_keepLeast_71 : decode cX7_keepLeast 71 = .ok (.lastore, 1) := by decide +kernel
theorem dX7_keepLeast_72 : decode cX7_keepLeast 72 = .ok (.iinc 1 (-1), 3) := by decide +kernel
theorem dX7_keepLeast_75 : decode cX7_keepLeast 75 = .ok (.goto (-68), 3) := by decide +kernel
theorem dX7_keepLeast_78 : decode cX7_keepLeast 78 = .ok (.return_, 1) := by decide +kernel
theorem dX7_turnIntoMeeting_0 : decode cX7_turnIntoMeeting 0 = .ok (.iconst 0, 1) := by decide +kernel
theorem dX7_turnIntoMeeting_1 : decode cX7_turnIntoMeeting 1 = .ok (.istore_n 1, 1) := by decide +kernel
theorem dX7_turnIntoMeeting_2 : decode cX7_turnIntoMeeting 2 = .ok (.aload_n 0, 1) := by decide +kernel
theorem dX7_turnIntoMeeting_3 : decode cX7_turnIntoMeeting 3 = .ok (.getfield 18, 3) := by decide +kernel
theorem dX7_turnIntoMeeting_6 : decode cX7_turnIntoMeeting 6 = .ok (.iconst 1, 1) := by decide +kernel
theorem dX7_turnIntoMeeting_7 : decode cX7_turnIntoMeeting 7 = .ok (.isub, 1) := by decide +kernel
theorem dX7_turnIntoMeeting_8 : decode cX7_turnIntoMeeting 8 = .ok (.istore_n 2, 1) := by decide +kernel
theorem dX7_turnIntoMeeting_9 : decode cX7_turnIntoMeeting 9 = .ok (.iload_n 1, 1) := by decide +kernel
theorem dX7_turnIntoMeeting_10 : decode cX7_turnIntoMeeting 10 = .ok (.iload_n 2, 1) := by decide +kernel
theorem dX7_turnIntoMeeting_11 : decode cX7_turnIntoMeeting 11 = .ok (.if_icmp .gt 56, 3) := by decide +kernel
theorem dX7_turnIntoMeeting_14 : decode cX7_turnIntoMeeting 14 = .ok (.aload_n 0, 1) := by decide +kernel
theorem dX7_turnIntoMeeting_15 : decode cX7_turnIntoMeeting 15 = .ok (.getfield 11, 3) := by decide +kernel
theorem dX7_turnIntoMeeting_18 : decode cX7_turnIntoMeeting 18 = .ok (.iload_n 1, 1) := by decide +kernel
theorem dX7_turnIntoMeeting_19 : decode cX7_turnIntoMeeting 19 = .ok (.laload, 1) := by decide +kernel
theorem dX7_turnIntoMeeting_20 : decode cX7_turnIntoMeeting 20 = .ok (.invokestatic 40, 3) := by decide +kernel
theorem dX7_turnIntoMeeting_23 : decode cX7_turnIntoMeeting 23 = .ok (.ldc2_w 38, 3) := by decide +kernel
theorem dX7_turnIntoMeeting_26 : decode cX7_turnIntoMeeting 26 = .ok (.lxor, 1) := by decide +kernel
theorem dX7_turnIntoMeeting_27 : decode cX7_turnIntoMeeting 27 = .ok (.lstore_n 3, 1) := by decide +kernel
theorem dX7_turnIntoMeeting_28 : decode cX7_turnIntoMeeting 28 = .ok (.aload_n 0, 1) := by decide +kernel
theorem dX7_turnIntoMeeting_29 : decode cX7_turnIntoMeeting 29 = .ok (.getfield 11, 3) := by decide +kernel
theorem dX7_turnIntoMeeting_32 : decode cX7_turnIntoMeeting 32 = .ok (.iload_n 2, 1) := by decide +kernel
theorem dX7_turnIntoMeeting_33 : decode cX7_turnIntoMeeting 33 = .ok (.laload, 1) := by decide +kernel
theorem dX7_turnIntoMeeting_34 : decode cX7_turnIntoMeeting 34 = .ok (.invokestatic 40, 3) := by decide +kernel
theorem dX7_turnIntoMeeting_37 : decode cX7_turnIntoMeeting 37 = .ok (.ldc2_w 38, 3) := by decide +kernel
theorem dX7_turnIntoMeeting_40 : decode cX7_turnIntoMeeting 40 = .ok (.lxor, 1) := by decide +kernel
theorem dX7_turnIntoMeeting_41 : decode cX7_turnIntoMeeting 41 = .ok (.lstore 5, 2) := by decide +kernel
theorem dX7_turnIntoMeeting_43 : decode cX7_turnIntoMeeting 43 = .ok (.aload_n 0, 1) := by decide +kernel
theorem dX7_turnIntoMeeting_44 : decode cX7_turnIntoMeeting 44 = .ok (.getfield 11, 3) := by decide +kernel
theorem dX7_turnIntoMeeting_47 : decode cX7_turnIntoMeeting 47 = .ok (.iload_n 1, 1) := by decide +kernel
theorem dX7_turnIntoMeeting_48 : decode cX7_turnIntoMeeting 48 = .ok (.lload 5, 2) := by decide +kernel
theorem dX7_turnIntoMeeting_50 : decode cX7_turnIntoMeeting 50 = .ok (.lastore, 1) := by decide +kernel
theorem dX7_turnIntoMeeting_51 : decode cX7_turnIntoMeeting 51 = .ok (.aload_n 0, 1) := by decide +kernel
theorem dX7_turnIntoMeeting_52 : decode cX7_turnIntoMeeting 52 = .ok (.getfield 11, 3) := by decide +kernel
theorem dX7_turnIntoMeeting_55 : decode cX7_turnIntoMeeting 55 = .ok (.iload_n 2, 1) := by decide +kernel
theorem dX7_turnIntoMeeting_56 : decode cX7_turnIntoMeeting 56 = .ok (.lload_n 3, 1) := by decide +kernel
theorem dX7_turnIntoMeeting_57 : decode cX7_turnIntoMeeting 57 = .ok (.lastore, 1) := by decide +kernel
theorem dX7_turnIntoMeeting_58 : decode cX7_turnIntoMeeting 58 = .ok (.iinc 1 1, 3) := by decide +kernel
theorem dX7_turnIntoMeeting_61 : decode cX7_turnIntoMeeting 61 = .ok (.iinc 2 (-1), 3) := by decide +kernel
theorem dX7_turnIntoMeeting_64 : decode cX7_turnIntoMeeting 64 = .ok (.goto (-55), 3) := by decide +kernel
theorem dX7_turnIntoMeeting_67 : decode cX7_turnIntoMeeting 67 = .ok (.return_, 1) := by decide +kernel
theorem dX7_complete_0 : decode cX7_complete 0 = .ok (.iconst 0, 1) := by decide +kernel
theorem dX7_complete_1 : decode cX7_complete 1 = .ok (.istore_n 2, 1) := by decide +kernel
theorem dX7_complete_2 : decode cX7_complete 2 = .ok (.aload_n 0, 1) := by decide +kernel
theorem dX7_complete_3 : decode cX7_complete 3 = .ok (.iconst 0, 1) := by decide +kernel
theorem dX7_complete_4 : decode cX7_complete 4 = .ok (.invokevirtual 43, 3) := by decide +kernel
theorem dX7_complete_7 : decode cX7_complete 7 = .ok (.istore_n 3, 1) := by decide +kernel
theorem dX7_complete_8 : decode cX7_complete 8 = .ok (.iload_n 3, 1) := by decide +kernel
theorem dX7_complete_9 : decode cX7_complete 9 = .ok (.ifCond .lt 25, 3) := by decide +kernel
theorem dX7_complete_12 : decode cX7_complete 12 = .ok (.iload_n 2, 1) := by decide +kernel
theorem dX7_complete_13 : decode cX7_complete 13 = .ok (.iload_n 1, 1) := by decide +kernel
theorem dX7_complete_14 : decode cX7_complete 14 = .ok (.if_icmp .gt 20, 3) := by decide +kernel
theorem dX7_complete_17 : decode cX7_complete 17 = .ok (.aload_n 0, 1) := by decide +kernel
theorem dX7_complete_18 : decode cX7_complete 18 = .ok (.iload_n 3, 1) := by decide +kernel
theorem dX7_complete_19 : decode cX7_complete 19 = .ok (.invokevirtual 47, 3) := by decide +kernel
theorem dX7_complete_22 : decode cX7_complete 22 = .ok (.iinc 2 1, 3) := by decide +kernel
theorem dX7_complete_25 : decode cX7_complete 25 = .ok (.aload_n 0, 1) := by decide +kernel
theorem dX7_complete_26 : decode cX7_complete 26 = .ok (.iload_n 3, 1) := by decide +kernel
theorem dX7_complete_27 : decode cX7_complete 27 = .ok (.invokevirtual 43, 3) := by decide +kernel
theorem dX7_complete_30 : decode cX7_complete 30 = .ok (.istore_n 3, 1) := by decide +kernel
theorem dX7_complete_31 : decode cX7_complete 31 = .ok (.goto (-23), 3) := by decide +kernel
theorem dX7_complete_34 : decode cX7_complete 34 = .ok (.return_, 1) := by decide +kernel
theorem dX7_nextOpen_0 : decode cX7_nextOpen 0 = .ok (.iload_n 1, 1) := by decide +kernel
theorem dX7_nextOpen_1 : decode cX7_nextOpen 1 = .ok (.bipush 6, 2) := by decide +kernel
theorem dX7_nextOpen_3 : decode cX7_nextOpen 3 = .ok (.iushr, 1) := by decide +kernel
theorem dX7_nextOpen_4 : decode cX7_nextOpen 4 = .ok (.istore_n 2, 1) := by decide +kernel
theorem dX7_nextOpen_5 : decode cX7_nextOpen 5 = .ok (.iload_n 2, 1) := by decide +kernel
theorem dX7_nextOpen_6 : decode cX7_nextOpen 6 = .ok (.aload_n 0, 1) := by decide +kernel
theorem dX7_nextOpen_7 : decode cX7_nextOpen 7 = .ok (.getfield 18, 3) := by decide +kernel
theorem dX7_nextOpen_10 : decode cX7_nextOpen 10 = .ok (.if_icmp .ge 57, 3) := by decide +kernel
theorem dX7_nextOpen_13 : decode cX7_nextOpen 13 = .ok (.aload_n 0, 1) := by decide +kernel
theorem dX7_nextOpen_14 : decode cX7_nextOpen 14 = .ok (.getfield 11, 3) := by decide +kernel
theorem dX7_nextOpen_17 : decode cX7_nextOpen 17 = .ok (.iload_n 2, 1) := by decide +kernel
theorem dX7_nextOpen_18 : decode cX7_nextOpen 18 = .ok (.laload, 1) := by decide +kernel
theorem dX7_nextOpen_19 : decode cX7_nextOpen 19 = .ok (.ldc2_w 38, 3) := by decide +kernel
theorem dX7_nextOpen_22 : decode cX7_nextOpen 22 = .ok (.lxor, 1) := by decide +kernel
theorem dX7_nextOpen_23 : decode cX7_nextOpen 23 = .ok (.aload_n 0, 1) := by decide +kernel
theorem dX7_nextOpen_24 : decode cX7_nextOpen 24 = .ok (.getfield 11, 3) := by decide +kernel
theorem dX7_nextOpen_27 : decode cX7_nextOpen 27 = .ok (.aload_n 0, 1) := by decide +kernel
theorem dX7_nextOpen_28 : decode cX7_nextOpen 28 = .ok (.getfield 18, 3) := by decide +kernel
theorem dX7_nextOpen_31 : decode cX7_nextOpen 31 = .ok (.iconst 1, 1) := by decide +kernel
theorem dX7_nextOpen_32 : decode cX7_nextOpen 32 = .ok (.isub, 1) := by decide +kernel
theorem dX7_nextOpen_33 : decode cX7_nextOpen 33 = .ok (.iload_n 2, 1) := by decide +kernel
theorem dX7_nextOpen_34 : decode cX7_nextOpen 34 = .ok (.isub, 1) := by decide +kernel
theorem dX7_nextOpen_35 : decode cX7_nextOpen 35 = .ok (.laload, 1) := by decide +kernel
theorem dX7_nextOpen_36 : decode cX7_nextOpen 36 = .ok (.invokestatic 40, 3) := by decide +kernel
theorem dX7_nextOpen_39 : decode cX7_nextOpen 39 = .ok (.ldc2_w 38, 3) := by decide +kernel
theorem dX7_nextOpen_42 : decode cX7_nextOpen 42 = .ok (.lxor, 1) := by decide +kernel
theorem dX7_nextOpen_43 : decode cX7_nextOpen 43 = .ok (.land, 1) := by decide +kernel
theorem dX7_nextOpen_44 : decode cX7_nextOpen 44 = .ok (.lstore_n 3, 1) := by decide +kernel
theorem dX7_nextOpen_45 : decode cX7_nextOpen 45 = .ok (.lload_n 3, 1) := by decide +kernel
theorem dX7_nextOpen_46 : decode cX7_nextOpen 46 = .ok (.lconst 0, 1) := by decide +kernel
theorem dX7_nextOpen_47 : decode cX7_nextOpen 47 = .ok (.lcmp, 1) := by decide +kernel
theorem dX7_nextOpen_48 : decode cX7_nextOpen 48 = .ok (.ifCond .eq 13, 3) := by decide +kernel
theorem dX7_nextOpen_51 : decode cX7_nextOpen 51 = .ok (.iload_n 2, 1) := by decide +kernel
theorem dX7_nextOpen_52 : decode cX7_nextOpen 52 = .ok (.bipush 6, 2) := by decide +kernel
theorem dX7_nextOpen_54 : decode cX7_nextOpen 54 = .ok (.ishl, 1) := by decide +kernel
theorem dX7_nextOpen_55 : decode cX7_nextOpen 55 = .ok (.lload_n 3, 1) := by decide +kernel
theorem dX7_nextOpen_56 : decode cX7_nextOpen 56 = .ok (.invokestatic 51, 3) := by decide +kernel
theorem dX7_nextOpen_59 : decode cX7_nextOpen 59 = .ok (.iadd, 1) := by decide +kernel
theorem dX7_nextOpen_60 : decode cX7_nextOpen 60 = .ok (.ireturn, 1) := by decide +kernel
theorem dX7_nextOpen_61 : decode cX7_nextOpen 61 = .ok (.iinc 2 1, 3) := by decide +kernel
theorem dX7_nextOpen_64 : decode cX7_nextOpen 64 = .ok (.goto (-59), 3) := by decide +kernel
theorem dX7_nextOpen_67 : decode cX7_nextOpen 67 = .ok (.iconst (-1), 1) := by decide +kernel
theorem dX7_nextOpen_68 : decode cX7_nextOpen 68 = .ok (.ireturn, 1) := by decide +kernel
theorem dX7_countSets_0 : decode cX7_countSets 0 = .ok (.iconst 0, 1) := by decide +kernel
theorem dX7_countSets_1 : decode cX7_countSets 1 = .ok (.istore_n 1, 1) := by decide +kernel
theorem dX7_countSets_2 : decode cX7_countSets 2 = .ok (.iconst 0, 1) := by decide +kernel
theorem dX7_countSets_3 : decode cX7_countSets 3 = .ok (.istore_n 2, 1) := by decide +kernel
theorem dX7_countSets_4 : decode cX7_countSets 4 = .ok (.iload_n 2, 1) := by decide +kernel
theorem dX7_countSets_5 : decode cX7_countSets 5 = .ok (.aload_n 0, 1) := by decide +kernel
theorem dX7_countSets_6 : decode cX7_countSets 6 = .ok (.getfield 18, 3) := by decide +kernel
theorem dX7_countSets_9 : decode cX7_countSets 9 = .ok (.if_icmp .ge 21, 3) := by decide +kernel
theorem dX7_countSets_12 : decode cX7_countSets 12 = .ok (.iload_n 1, 1) := by decide +kernel
theorem dX7_countSets_13 : decode cX7_countSets 13 = .ok (.aload_n 0, 1) := by decide +kernel
theorem dX7_countSets_14 : decode cX7_countSets 14 = .ok (.getfield 11, 3) := by decide +kernel
theorem dX7_countSets_17 : decode cX7_countSets 17 = .ok (.iload_n 2, 1) := by decide +kernel
theorem dX7_countSets_18 : decode cX7_countSets 18 = .ok (.laload, 1) := by decide +kernel
theorem dX7_countSets_19 : decode cX7_countSets 19 = .ok (.invokestatic 55, 3) := by decide +kernel
theorem dX7_countSets_22 : decode cX7_countSets 22 = .ok (.iadd, 1) := by decide +kernel
theorem dX7_countSets_23 : decode cX7_countSets 23 = .ok (.istore_n 1, 1) := by decide +kernel
theorem dX7_countSets_24 : decode cX7_countSets 24 = .ok (.iinc 2 1, 3) := by decide +kernel
theorem dX7_countSets_27 : decode cX7_countSets 27 = .ok (.goto (-23), 3) := by decide +kernel
theorem dX7_countSets_30 : decode cX7_countSets 30 = .ok (.iload_n 1, 1) := by decide +kernel
theorem dX7_countSets_31 : decode cX7_countSets 31 = .ok (.ireturn, 1) := by decide +kernel
theorem dX7_next_0 : decode cX7_next 0 = .ok (.iload_n 1, 1) := by decide +kernel
theorem dX7_next_1 : decode cX7_next 1 = .ok (.bipush 6, 2) := by decide +kernel
theorem dX7_next_3 : decode cX7_next 3 = .ok (.iushr, 1) := by decide +kernel
theorem dX7_next_4 : decode cX7_next 4 = .ok (.istore_n 2, 1) := by decide +kernel
theorem dX7_next_5 : decode cX7_next 5 = .ok (.iload_n 2, 1) := by decide +kernel
theorem dX7_next_6 : decode cX7_next 6 = .ok (.istore_n 3, 1) := by decide +kernel
theorem dX7_next_7 : decode cX7_next 7 = .ok (.iload_n 3, 1) := by decide +kernel
theorem dX7_next_8 : decode cX7_next 8 = .ok (.aload_n 0, 1) := by decide +kernel
theorem dX7_next_9 : decode cX7_next 9 = .ok (.getfield 18, 3) := by decide +kernel
theorem dX7_next_12 : decode cX7_next 12 = .ok (.if_icmp .ge 58, 3) := by decide +kernel
theorem dX7_next_15 : decode cX7_next 15 = .ok (.iload_n 3, 1) := by decide +kernel
theorem dX7_next_16 : decode cX7_next 16 = .ok (.iload_n 2, 1) := by decide +kernel
theorem dX7_next_17 : decode cX7_next 17 = .ok (.if_icmp .ne 21, 3) := by decide +kernel
theorem dX7_next_20 : decode cX7_next 20 = .ok (.aload_n 0, 1) := by decide +kernel
theorem dX7_next_21 : decode cX7_next 21 = .ok (.getfield 11, 3) := by decide +kernel
theorem dX7_next_24 : decode cX7_next 24 = .ok (.iload_n 3, 1) := by decide +kernel
theorem dX7_next_25 : decode cX7_next 25 = .ok (.laload, 1) := by decide +kernel
theorem dX7_next_26 : decode cX7_next 26 = .ok (.ldc2_w 38, 3) := by decide +kernel
theorem dX7_next_29 : decode cX7_next 29 = .ok (.iload_n 1, 1) := by decide +kernel
theorem dX7_next_30 : decode cX7_next 30 = .ok (.bipush 63, 2) := by decide +kernel
theorem dX7_next_32 : decode cX7_next 32 = .ok (.iand, 1) := by decide +kernel
theorem dX7_next_33 : decode cX7_next 33 = .ok (.lshl, 1) := by decide +kernel
theorem dX7_next_34 : decode cX7_next 34 = .ok (.land, 1) := by decide +kernel
theorem dX7_next_35 : decode cX7_next 35 = .ok (.goto 9, 3) := by decide +kernel
theorem dX7_next_38 : decode cX7_next 38 = .ok (.aload_n 0, 1) := by decide +kernel
theorem dX7_next_39 : decode cX7_next 39 = .ok (.getfield 11, 3) := by decide +kernel
theorem dX7_next_42 : decode cX7_next 42 = .ok (.iload_n 3, 1) := by decide +kernel
theorem dX7_next_43 : decode cX7_next 43 = .ok (.laload, 1) := by decide +kernel
theorem dX7_next_44 : decode cX7_next 44 = .ok (.lstore 4, 2) := by decide +kernel
theorem dX7_next_46 : decode cX7_next 46 = .ok (.lload 4, 2) := by decide +kernel
theorem dX7_next_48 : decode cX7_next 48 = .ok (.lconst 0, 1) := by decide +kernel
theorem dX7_next_49 : decode cX7_next 49 = .ok (.lcmp, 1) := by decide +kernel
theorem dX7_next_50 : decode cX7_next 50 = .ok (.ifCond .eq 14, 3) := by decide +kernel
theorem dX7_next_53 : decode cX7_next 53 = .ok (.iload_n 3, 1) := by decide +kernel
theorem dX7_next_54 : decode cX7_next 54 = .ok (.bipush 6, 2) := by decide +kernel
theorem dX7_next_56 : decode cX7_next 56 = .ok (.ishl, 1) := by decide +kernel
theorem dX7_next_57 : decode cX7_next 57 = .ok (.lload 4, 2) := by decide +kernel
theorem dX7_next_59 : decode cX7_next 59 = .ok (.invokestatic 51, 3) := by decide +kernel
theorem dX7_next_62 : decode cX7_next 62 = .ok (.iadd, 1) := by decide +kernel
theorem dX7_next_63 : decode cX7_next 63 = .ok (.ireturn, 1) := by decide +kernel
theorem dX7_next_64 : decode cX7_next 64 = .ok (.iinc 3 1, 3) := by decide +kernel
theorem dX7_next_67 : decode cX7_next 67 = .ok (.goto (-60), 3) := by decide +kernel
theorem dX7_next_70 : decode cX7_next 70 = .ok (.iconst (-1), 1) := by decide +kernel
theorem dX7_next_71 : decode cX7_next 71 = .ok (.ireturn, 1) := by decide +kernel
theorem dX7_smallestSet_0 : decode cX7_smallestSet 0 = .ok (.aload_n 0, 1) := by decide +kernel
theorem dX7_smallestSet_1 : decode cX7_smallestSet 1 = .ok (.iconst 0, 1) := by decide +kernel
theorem dX7_smallestSet_2 : decode cX7_smallestSet 2 = .ok (.invokevirtual 60, 3) := by decide +kernel
theorem dX7_smallestSet_5 : decode cX7_smallestSet 5 = .ok (.istore_n 1, 1) := by decide +kernel
theorem dX7_smallestSet_6 : decode cX7_smallestSet 6 = .ok (.iload_n 1, 1) := by decide +kernel
theorem dX7_smallestSet_7 : decode cX7_smallestSet 7 = .ok (.istore_n 2, 1) := by decide +kernel
theorem dX7_smallestSet_8 : decode cX7_smallestSet 8 = .ok (.iconst 0, 1) := by decide +kernel
theorem dX7_smallestSet_9 : decode cX7_smallestSet 9 = .ok (.istore_n 3, 1) := by decide +kernel
theorem dX7_smallestSet_10 : decode cX7_smallestSet 10 = .ok (.iload_n 3, 1) := by decide +kernel
theorem dX7_smallestSet_11 : decode cX7_smallestSet 11 = .ok (.ldc 63, 2) := by decide +kernel
theorem dX7_smallestSet_13 : decode cX7_smallestSet 13 = .ok (.if_icmp .ge 34, 3) := by decide +kernel
theorem dX7_smallestSet_16 : decode cX7_smallestSet 16 = .ok (.iload_n 2, 1) := by decide +kernel
theorem dX7_smallestSet_17 : decode cX7_smallestSet 17 = .ok (.ifCond .lt 30, 3) := by decide +kernel
theorem dX7_smallestSet_20 : decode cX7_smallestSet 20 = .ok (.iload_n 2, 1) := by decide +kernel
theorem dX7_smallestSet_21 : decode cX7_smallestSet 21 = .ok (.invokestatic 64, 3) := by decide +kernel
theorem dX7_smallestSet_24 : decode cX7_smallestSet 24 = .ok (.iload_n 1, 1) := by decide +kernel
theorem dX7_smallestSet_25 : decode cX7_smallestSet 25 = .ok (.invokestatic 64, 3) := by decide +kernel
theorem dX7_smallestSet_28 : decode cX7_smallestSet 28 = .ok (.if_icmp .ge 5, 3) := by decide +kernel
theorem dX7_smallestSet_31 : decode cX7_smallestSet 31 = .ok (.iload_n 2, 1) := by decide +kernel
theorem dX7_smallestSet_32 : decode cX7_smallestSet 32 = .ok (.istore_n 1, 1) := by decide +kernel
theorem dX7_smallestSet_33 : decode cX7_smallestSet 33 = .ok (.aload_n 0, 1) := by decide +kernel
theorem dX7_smallestSet_34 : decode cX7_smallestSet 34 = .ok (.iload_n 2, 1) := by decide +kernel
theorem dX7_smallestSet_35 : decode cX7_smallestSet 35 = .ok (.iconst 1, 1) := by decide +kernel
theorem dX7_smallestSet_36 : decode cX7_smallestSet 36 = .ok (.iadd, 1) := by decide +kernel
theorem dX7_smallestSet_37 : decode cX7_smallestSet 37 = .ok (.invokevirtual 60, 3) := by decide +kernel
theorem dX7_smallestSet_40 : decode cX7_smallestSet 40 = .ok (.istore_n 2, 1) := by decide +kernel
theorem dX7_smallestSet_41 : decode cX7_smallestSet 41 = .ok (.iinc 3 1, 3) := by decide +kernel
theorem dX7_smallestSet_44 : decode cX7_smallestSet 44 = .ok (.goto (-34), 3) := by decide +kernel
theorem dX7_smallestSet_47 : decode cX7_smallestSet 47 = .ok (.iload_n 1, 1) := by decide +kernel
theorem dX7_smallestSet_48 : decode cX7_smallestSet 48 = .ok (.ireturn, 1) := by decide +kernel
theorem dX7_chanceOfSets_0 : decode cX7_chanceOfSets 0 = .ok (.aload_n 0, 1) := by decide +kernel
theorem dX7_chanceOfSets_1 : decode cX7_chanceOfSets 1 = .ok (.aload_n 1, 1) := by decide +kernel
theorem dX7_chanceOfSets_2 : decode cX7_chanceOfSets 2 = .ok (.invokevirtual 68, 3) := by decide +kernel
theorem dX7_chanceOfSets_5 : decode cX7_chanceOfSets 5 = .ok (.iconst 0, 1) := by decide +kernel
theorem dX7_chanceOfSets_6 : decode cX7_chanceOfSets 6 = .ok (.istore_n 2, 1) := by decide +kernel
theorem dX7_chanceOfSets_7 : decode cX7_chanceOfSets 7 = .ok (.iload_n 2, 1) := by decide +kernel
theorem dX7_chanceOfSets_8 : decode cX7_chanceOfSets 8 = .ok (.aload_n 0, 1) := by decide +kernel
theorem dX7_chanceOfSets_9 : decode cX7_chanceOfSets 9 = .ok (.getfield 18, 3) := by decide +kernel
theorem dX7_chanceOfSets_12 : decode cX7_chanceOfSets 12 = .ok (.if_icmp .ge 25, 3) := by decide +kernel
theorem dX7_chanceOfSets_15 : decode cX7_chanceOfSets 15 = .ok (.aload_n 0, 1) := by decide +kernel
theorem dX7_chanceOfSets_16 : decode cX7_chanceOfSets 16 = .ok (.getfield 11, 3) := by decide +kernel
theorem dX7_chanceOfSets_19 : decode cX7_chanceOfSets 19 = .ok (.iload_n 2, 1) := by decide +kernel
theorem dX7_chanceOfSets_20 : decode cX7_chanceOfSets 20 = .ok (.aload_n 0, 1) := by decide +kernel
theorem dX7_chanceOfSets_21 : decode cX7_chanceOfSets 21 = .ok (.aload_n 0, 1) := by decide +kernel
theorem dX7_chanceOfSets_22 : decode cX7_chanceOfSets 22 = .ok (.getfield 11, 3) := by decide +kernel
theorem dX7_chanceOfSets_25 : decode cX7_chanceOfSets 25 = .ok (.iload_n 2, 1) := by decide +kernel
theorem dX7_chanceOfSets_26 : decode cX7_chanceOfSets 26 = .ok (.laload, 1) := by decide +kernel
theorem dX7_chanceOfSets_27 : decode cX7_chanceOfSets 27 = .ok (.invokevirtual 72, 3) := by decide +kernel
theorem dX7_chanceOfSets_30 : decode cX7_chanceOfSets 30 = .ok (.lastore, 1) := by decide +kernel
theorem dX7_chanceOfSets_31 : decode cX7_chanceOfSets 31 = .ok (.iinc 2 1, 3) := by decide +kernel
theorem dX7_chanceOfSets_34 : decode cX7_chanceOfSets 34 = .ok (.goto (-27), 3) := by decide +kernel
theorem dX7_chanceOfSets_37 : decode cX7_chanceOfSets 37 = .ok (.lconst 1, 1) := by decide +kernel
theorem dX7_chanceOfSets_38 : decode cX7_chanceOfSets 38 = .ok (.lstore_n 2, 1) := by decide +kernel
theorem dX7_chanceOfSets_39 : decode cX7_chanceOfSets 39 = .ok (.bipush 15, 2) := by decide +kernel
theorem dX7_chanceOfSets_41 : decode cX7_chanceOfSets 41 = .ok (.istore 4, 2) := by decide +kernel
theorem dX7_chanceOfSets_43 : decode cX7_chanceOfSets 43 = .ok (.iload 4, 2) := by decide +kernel
theorem dX7_chanceOfSets_45 : decode cX7_chanceOfSets 45 = .ok (.bipush 6, 2) := by decide +kernel
theorem dX7_chanceOfSets_47 : decode cX7_chanceOfSets 47 = .ok (.if_icmp .lt 48, 3) := by decide +kernel
theorem dX7_chanceOfSets_50 : decode cX7_chanceOfSets 50 = .ok (.iconst 1, 1) := by decide +kernel
theorem dX7_chanceOfSets_51 : decode cX7_chanceOfSets 51 = .ok (.iload 4, 2) := by decide +kernel
theorem dX7_chanceOfSets_53 : decode cX7_chanceOfSets 53 = .ok (.bipush 6, 2) := by decide +kernel
theorem dX7_chanceOfSets_55 : decode cX7_chanceOfSets 55 = .ok (.isub, 1) := by decide +kernel
theorem dX7_chanceOfSets_56 : decode cX7_chanceOfSets 56 = .ok (.ishl, 1) := by decide +kernel
theorem dX7_chanceOfSets_57 : decode cX7_chanceOfSets 57 = .ok (.istore 5, 2) := by decide +kernel
theorem dX7_chanceOfSets_59 : decode cX7_chanceOfSets 59 = .ok (.iload 5, 2) := by decide +kernel
theorem dX7_chanceOfSets_61 : decode cX7_chanceOfSets 61 = .ok (.aload_n 0, 1) := by decide +kernel
theorem dX7_chanceOfSets_62 : decode cX7_chanceOfSets 62 = .ok (.getfield 18, 3) := by decide +kernel
theorem dX7_chanceOfSets_65 : decode cX7_chanceOfSets 65 = .ok (.if_icmp .lt 12, 3) := by decide +kernel
theorem dX7_chanceOfSets_68 : decode cX7_chanceOfSets 68 = .ok (.lload_n 2, 1) := by decide +kernel
theorem dX7_chanceOfSets_69 : decode cX7_chanceOfSets 69 = .ok (.ldc2_w 75, 3) := by decide +kernel
theorem dX7_chanceOfSets_72 : decode cX7_chanceOfSets 72 = .ok (.lmul, 1) := by decide +kernel
theorem dX7_chanceOfSets_73 : decode cX7_chanceOfSets 73 = .ok (.lstore_n 2, 1) := by decide +kernel
theorem dX7_chanceOfSets_74 : decode cX7_chanceOfSets 74 = .ok (.goto 15, 3) := by decide +kernel
theorem dX7_chanceOfSets_77 : decode cX7_chanceOfSets 77 = .ok (.aload_n 0, 1) := by decide +kernel
theorem dX7_chanceOfSets_78 : decode cX7_chanceOfSets 78 = .ok (.iload 5, 2) := by decide +kernel
theorem dX7_chanceOfSets_80 : decode cX7_chanceOfSets 80 = .ok (.aload_n 1, 1) := by decide +kernel
theorem dX7_chanceOfSets_81 : decode cX7_chanceOfSets 81 = .ok (.iload 4, 2) := by decide +kernel
theorem dX7_chanceOfSets_83 : decode cX7_chanceOfSets 83 = .ok (.invokevirtual 77, 3) := by decide +kernel
theorem dX7_chanceOfSets_86 : decode cX7_chanceOfSets 86 = .ok (.invokevirtual 82, 3) := by decide +kernel
theorem dX7_chanceOfSets_89 : decode cX7_chanceOfSets 89 = .ok (.iinc 4 (-1), 3) := by decide +kernel
theorem dX7_chanceOfSets_92 : decode cX7_chanceOfSets 92 = .ok (.goto (-49), 3) := by decide +kernel
theorem dX7_chanceOfSets_95 : decode cX7_chanceOfSets 95 = .ok (.aload_n 0, 1) := by decide +kernel
theorem dX7_chanceOfSets_96 : decode cX7_chanceOfSets 96 = .ok (.getfield 11, 3) := by decide +kernel
theorem dX7_chanceOfSets_99 : decode cX7_chanceOfSets 99 = .ok (.iconst 0, 1) := by decide +kernel
theorem dX7_chanceOfSets_100 : decode cX7_chanceOfSets 100 = .ok (.laload, 1) := by decide +kernel
theorem dX7_chanceOfSets_101 : decode cX7_chanceOfSets 101 = .ok (.lload_n 2, 1) := by decide +kernel
theorem dX7_chanceOfSets_102 : decode cX7_chanceOfSets 102 = .ok (.lmul, 1) := by decide +kernel
theorem dX7_chanceOfSets_103 : decode cX7_chanceOfSets 103 = .ok (.lreturn, 1) := by decide +kernel
theorem dX7_fold_0 : decode cX7_fold 0 = .ok (.iconst 0, 1) := by decide +kernel
theorem dX7_fold_1 : decode cX7_fold 1 = .ok (.istore_n 3, 1) := by decide +kernel
theorem dX7_fold_2 : decode cX7_fold 2 = .ok (.iload_n 3, 1) := by decide +kernel
theorem dX7_fold_3 : decode cX7_fold 3 = .ok (.iload_n 1, 1) := by decide +kernel
theorem dX7_fold_4 : decode cX7_fold 4 = .ok (.if_icmp .ge 49, 3) := by decide +kernel
theorem dX7_fold_7 : decode cX7_fold 7 = .ok (.iload_n 3, 1) := by decide +kernel
theorem dX7_fold_8 : decode cX7_fold 8 = .ok (.iload_n 1, 1) := by decide +kernel
theorem dX7_fold_9 : decode cX7_fold 9 = .ok (.iadd, 1) := by decide +kernel
theorem dX7_fold_10 : decode cX7_fold 10 = .ok (.aload_n 0, 1) := by decide +kernel
theorem dX7_fold_11 : decode cX7_fold 11 = .ok (.getfield 18, 3) := by decide +kernel
theorem dX7_fold_14 : decode cX7_fold 14 = .ok (.if_icmp .ge 39, 3) := by decide +kernel
theorem dX7_fold_17 : decode cX7_fold 17 = .ok (.aload_n 0, 1) := by decide +kernel
theorem dX7_fold_18 : decode cX7_fold 18 = .ok (.getfield 11, 3) := by decide +kernel
theorem dX7_fold_21 : decode cX7_fold 21 = .ok (.iload_n 3, 1) := by decide +kernel
theorem dX7_fold_22 : decode cX7_fold 22 = .ok (.aload_n 0, 1) := by decide +kernel
theorem dX7_fold_23 : decode cX7_fold 23 = .ok (.getfield 11, 3) := by decide +kernel
theorem dX7_fold_26 : decode cX7_fold 26 = .ok (.iload_n 3, 1) := by decide +kernel
theorem dX7_fold_27 : decode cX7_fold 27 = .ok (.laload, 1) := by decide +kernel
theorem dX7_fold_28 : decode cX7_fold 28 = .ok (.bipush 10, 2) := by decide +kernel
theorem dX7_fold_30 : decode cX7_fold 30 = .ok (.iload_n 2, 1) := by decide +kernel
theorem dX7_fold_31 : decode cX7_fold 31 = .ok (.isub, 1) := by decide +kernel
theorem dX7_fold_32 : decode cX7_fold 32 = .ok (.i2l, 1) := by decide +kernel
theorem dX7_fold_33 : decode cX7_fold 33 = .ok (.lmul, 1) := by decide +kernel
theorem dX7_fold_34 : decode cX7_fold 34 = .ok (.aload_n 0, 1) := by decide +kernel
theorem dX7_fold_35 : decode cX7_fold 35 = .ok (.getfield 11, 3) := by decide +kernel
theorem dX7_fold_38 : decode cX7_fold 38 = .ok (.iload_n 3, 1) := by decide +kernel
theorem dX7_fold_39 : decode cX7_fold 39 = .ok (.iload_n 1, 1) := by decide +kernel
theorem dX7_fold_40 : decode cX7_fold 40 = .ok (.iadd, 1) := by decide +kernel
theorem dX7_fold_41 : decode cX7_fold 41 = .ok (.laload, 1) := by decide +kernel
theorem dX7_fold_42 : decode cX7_fold 42 = .ok (.iload_n 2, 1) := by decide +kernel
theorem dX7_fold_43 : decode cX7_fold 43 = .ok (.i2l, 1) := by decide +kernel
theorem dX7_fold_44 : decode cX7_fold 44 = .ok (.lmul, 1) := by decide +kernel
theorem dX7_fold_45 : decode cX7_fold 45 = .ok (.ladd, 1) := by decide +kernel
theorem dX7_fold_46 : decode cX7_fold 46 = .ok (.lastore, 1) := by decide +kernel
theorem dX7_fold_47 : decode cX7_fold 47 = .ok (.iinc 3 1, 3) := by decide +kernel
theorem dX7_fold_50 : decode cX7_fold 50 = .ok (.goto (-48), 3) := by decide +kernel
theorem dX7_fold_53 : decode cX7_fold 53 = .ok (.return_, 1) := by decide +kernel
theorem dX7_reckonLowChances_0 : decode cX7_reckonLowChances 0 = .ok (.aload_n 0, 1) := by decide +kernel
theorem dX7_reckonLowChances_1 : decode cX7_reckonLowChances 1 = .ok (.getfield 15, 3) := by decide +kernel
theorem dX7_reckonLowChances_4 : decode cX7_reckonLowChances 4 = .ok (.iconst 0, 1) := by decide +kernel
theorem dX7_reckonLowChances_5 : decode cX7_reckonLowChances 5 = .ok (.lconst 1, 1) := by decide +kernel
theorem dX7_reckonLowChances_6 : decode cX7_reckonLowChances 6 = .ok (.lastore, 1) := by decide +kernel
theorem dX7_reckonLowChances_7 : decode cX7_reckonLowChances 7 = .ok (.iconst 0, 1) := by decide +kernel
theorem dX7_reckonLowChances_8 : decode cX7_reckonLowChances 8 = .ok (.istore_n 2, 1) := by decide +kernel
theorem dX7_reckonLowChances_9 : decode cX7_reckonLowChances 9 = .ok (.iload_n 2, 1) := by decide +kernel
theorem dX7_reckonLowChances_10 : decode cX7_reckonLowChances 10 = .ok (.bipush 6, 2) := by decide +kernel
theorem dX7_reckonLowChances_12 : decode cX7_reckonLowChances 12 = .ok (.if_icmp .ge 76, 3) := by decide +kernel
theorem dX7_reckonLowChances_15 : decode cX7_reckonLowChances 15 = .ok (.aload_n 1, 1) := by decide +kernel
theorem dX7_reckonLowChances_16 : decode cX7_reckonLowChances 16 = .ok (.iload_n 2, 1) := by decide +kernel
theorem dX7_reckonLowChances_17 : decode cX7_reckonLowChances 17 = .ok (.invokevirtual 77, 3) := by decide +kernel
theorem dX7_reckonLowChances_20 : decode cX7_reckonLowChances 20 = .ok (.istore_n 3, 1) := by decide +kernel
theorem dX7_reckonLowChances_21 : decode cX7_reckonLowChances 21 = .ok (.iconst 1, 1) := by decide +kernel
theorem dX7_reckonLowChances_22 : decode cX7_reckonLowChances 22 = .ok (.iload_n 2, 1) := by decide +kernel
theorem dX7_reckonLowChances_23 : decode cX7_reckonLowChances 23 = .ok (.ishl, 1) := by decide +kernel
theorem dX7_reckonLowChances_24 : decode cX7_reckonLowChances 24 = .ok (.istore 4, 2) := by decide +kernel
theorem dX7_reckonLowChances_26 : decode cX7_reckonLowChances 26 = .ok (.iconst 0, 1) := by decide +kernel
theorem dX7_reckonLowChances_27 : decode cX7_reckonLowChances 27 = .ok (.istore 5, 2) := by decide +kernel
theorem dX7_reckonLowChances_29 : decode cX7_reckonLowChances 29 = .ok (.iload 5, 2) := by decide +kernel
theorem dX7_reckonLowChances_31 : decode cX7_reckonLowChances 31 = .ok (.iload 4, 2) := by decide +kernel
theorem dX7_reckonLowChances_33 : decode cX7_reckonLowChances 33 = .ok (.if_icmp .ge 49, 3) := by decide +kernel
theorem dX7_reckonLowChances_36 : decode cX7_reckonLowChances 36 = .ok (.aload_n 0, 1) := by decide +kernel
theorem dX7_reckonLowChances_37 : decode cX7_reckonLowChances 37 = .ok (.getfield 15, 3) := by decide +kernel
theorem dX7_reckonLowChances_40 : decode cX7_reckonLowChances 40 = .ok (.iload 5, 2) := by decide +kernel
theorem dX7_reckonLowChances_42 : decode cX7_reckonLowChances 42 = .ok (.iload 4, 2) := by decide +kernel
theorem dX7_reckonLowChances_44 : decode cX7_reckonLowChances 44 = .ok (.iadd, 1) := by decide +kernel
theorem dX7_reckonLowChances_45 : decode cX7_reckonLowChances 45 = .ok (.aload_n 0, 1) := by decide +kernel
theorem dX7_reckonLowChances_46 : decode cX7_reckonLowChances 46 = .ok (.getfield 15, 3) := by decide +kernel
theorem dX7_reckonLowChances_49 : decode cX7_reckonLowChances 49 = .ok (.iload 5, 2) := by decide +kernel
theorem dX7_reckonLowChances_51 : decode cX7_reckonLowChances 51 = .ok (.laload, 1) := by decide +kernel
theorem dX7_reckonLowChances_52 : decode cX7_reckonLowChances 52 = .ok (.iload_n 3, 1) := by decide +kernel
theorem dX7_reckonLowChances_53 : decode cX7_reckonLowChances 53 = .ok (.i2l, 1) := by decide +kernel
theorem dX7_reckonLowChances_54 : decode cX7_reckonLowChances 54 = .ok (.lmul, 1) := by decide +kernel
theorem dX7_reckonLowChances_55 : decode cX7_reckonLowChances 55 = .ok (.lastore, 1) := by decide +kernel
theorem dX7_reckonLowChances_56 : decode cX7_reckonLowChances 56 = .ok (.aload_n 0, 1) := by decide +kernel
theorem dX7_reckonLowChances_57 : decode cX7_reckonLowChances 57 = .ok (.getfield 15, 3) := by decide +kernel
theorem dX7_reckonLowChances_60 : decode cX7_reckonLowChances 60 = .ok (.iload 5, 2) := by decide +kernel
theorem dX7_reckonLowChances_62 : decode cX7_reckonLowChances 62 = .ok (.aload_n 0, 1) := by decide +kernel
theorem dX7_reckonLowChances_63 : decode cX7_reckonLowChances 63 = .ok (.getfield 15, 3) := by decide +kernel
theorem dX7_reckonLowChances_66 : decode cX7_reckonLowChances 66 = .ok (.iload 5, 2) := by decide +kernel
theorem dX7_reckonLowChances_68 : decode cX7_reckonLowChances 68 = .ok (.laload, 1) := by decide +kernel
theorem dX7_reckonLowChances_69 : decode cX7_reckonLowChances 69 = .ok (.bipush 10, 2) := by decide +kernel
theorem dX7_reckonLowChances_71 : decode cX7_reckonLowChances 71 = .ok (.iload_n 3, 1) := by decide +kernel
theorem dX7_reckonLowChances_72 : decode cX7_reckonLowChances 72 = .ok (.isub, 1) := by decide +kernel
theorem dX7_reckonLowChances_73 : decode cX7_reckonLowChances 73 = .ok (.i2l, 1) := by decide +kernel
theorem dX7_reckonLowChances_74 : decode cX7_reckonLowChances 74 = .ok (.lmul, 1) := by decide +kernel
theorem dX7_reckonLowChances_75 : decode cX7_reckonLowChances 75 = .ok (.lastore, 1) := by decide +kernel
theorem dX7_reckonLowChances_76 : decode cX7_reckonLowChances 76 = .ok (.iinc 5 1, 3) := by decide +kernel
theorem dX7_reckonLowChances_79 : decode cX7_reckonLowChances 79 = .ok (.goto (-50), 3) := by decide +kernel
theorem dX7_reckonLowChances_82 : decode cX7_reckonLowChances 82 = .ok (.iinc 2 1, 3) := by decide +kernel
theorem dX7_reckonLowChances_85 : decode cX7_reckonLowChances 85 = .ok (.goto (-76), 3) := by decide +kernel
theorem dX7_reckonLowChances_88 : decode cX7_reckonLowChances 88 = .ok (.return_, 1) := by decide +kernel
theorem dX7_chanceOfWord_0 : decode cX7_chanceOfWord 0 = .ok (.lconst 0, 1) := by decide +kernel
theorem dX7_chanceOfWord_1 : decode cX7_chanceOfWord 1 = .ok (.lstore_n 3, 1) := by decide +kernel
theorem dX7_chanceOfWord_2 : decode cX7_chanceOfWord 2 = .ok (.lload_n 1, 1) := by decide +kernel
theorem dX7_chanceOfWord_3 : decode cX7_chanceOfWord 3 = .ok (.lstore 5, 2) := by decide +kernel
theorem dX7_chanceOfWord_5 : decode cX7_chanceOfWord 5 = .ok (.iconst 0, 1) := by decide +kernel
theorem dX7_chanceOfWord_6 : decode cX7_chanceOfWord 6 = .ok (.istore 7, 2) := by decide +kernel
theorem dX7_chanceOfWord_8 : decode cX7_chanceOfWord 8 = .ok (.iload 7, 2) := by decide +kernel
theorem dX7_chanceOfWord_10 : decode cX7_chanceOfWord 10 = .ok (.bipush 64, 2) := by decide +kernel
theorem dX7_chanceOfWord_12 : decode cX7_chanceOfWord 12 = .ok (.if_icmp .ge 41, 3) := by decide +kernel
theorem dX7_chanceOfWord_15 : decode cX7_chanceOfWord 15 = .ok (.lload 5, 2) := by decide +kernel
theorem dX7_chanceOfWord_17 : decode cX7_chanceOfWord 17 = .ok (.lconst 0, 1) := by decide +kernel
theorem dX7_chanceOfWord_18 : decode cX7_chanceOfWord 18 = .ok (.lcmp, 1) := by decide +kernel
theorem dX7_chanceOfWord_19 : decode cX7_chanceOfWord 19 = .ok (.ifCond .eq 34, 3) := by decide +kernel
theorem dX7_chanceOfWord_22 : decode cX7_chanceOfWord 22 = .ok (.lload_n 3, 1) := by decide +kernel
theorem dX7_chanceOfWord_23 : decode cX7_chanceOfWord 23 = .ok (.aload_n 0, 1) := by decide +kernel
theorem dX7_chanceOfWord_24 : decode cX7_chanceOfWord 24 = .ok (.getfield 15, 3) := by decide +kernel
theorem dX7_chanceOfWord_27 : decode cX7_chanceOfWord 27 = .ok (.lload 5, 2) := by decide +kernel
theorem dX7_chanceOfWord_29 : decode cX7_chanceOfWord 29 = .ok (.invokestatic 51, 3) := by decide +kernel
theorem dX7_chanceOfWord_32 : decode cX7_chanceOfWord 32 = .ok (.bipush 63, 2) := by decide +kernel
theorem dX7_chanceOfWord_34 : decode cX7_chanceOfWord 34 = .ok (.iand, 1) := by decide +kernel
theorem dX7_chanceOfWord_35 : decode cX7_chanceOfWord 35 = .ok (.laload, 1) := by decide +kernel
