theorem dX10_bound_11 : decode cX10_bound 11 = .ok (.iconst 1, 1) := by decide +kernel
theorem dX10_bound_12 : decode cX10_bound 12 = .ok (.invokevirtual 83, 3) := by decide +kernel
theorem dX10_bound_15 : decode cX10_bound 15 = .ok (.ireturn, 1) := by decide +kernel
theorem dX10_bound_16 : decode cX10_bound 16 = .ok (.aload_n 0, 1) := by decide +kernel
theorem dX10_bound_17 : decode cX10_bound 17 = .ok (.aload_n 3, 1) := by decide +kernel
theorem dX10_bound_18 : decode cX10_bound 18 = .ok (.invokevirtual 299, 3) := by decide +kernel
theorem dX10_bound_21 : decode cX10_bound 21 = .ok (.aload_n 0, 1) := by decide +kernel
theorem dX10_bound_22 : decode cX10_bound 22 = .ok (.aload_n 0, 1) := by decide +kernel
theorem dX10_bound_23 : decode cX10_bound 23 = .ok (.getfield 70, 3) := by decide +kernel
theorem dX10_bound_26 : decode cX10_bound 26 = .ok (.iload_n 2, 1) := by decide +kernel
theorem dX10_bound_27 : decode cX10_bound 27 = .ok (.invokevirtual 295, 3) := by decide +kernel
theorem dX10_bound_30 : decode cX10_bound 30 = .ok (.invokevirtual 103, 3) := by decide +kernel
theorem dX10_bound_33 : decode cX10_bound 33 = .ok (.ireturn, 1) := by decide +kernel
theorem dX10_proved_0 : decode cX10_proved 0 = .ok (.aload_n 0, 1) := by decide +kernel
theorem dX10_proved_1 : decode cX10_proved 1 = .ok (.aload_n 0, 1) := by decide +kernel
theorem dX10_proved_2 : decode cX10_proved 2 = .ok (.getfield 36, 3) := by decide +kernel
theorem dX10_proved_5 : decode cX10_proved 5 = .ok (.getfield 280, 3) := by decide +kernel
theorem dX10_proved_8 : decode cX10_proved 8 = .ok (.invokevirtual 166, 3) := by decide +kernel
theorem dX10_proved_11 : decode cX10_proved 11 = .ok (.astore_n 1, 1) := by decide +kernel
theorem dX10_proved_12 : decode cX10_proved 12 = .ok (.aload_n 1, 1) := by decide +kernel
theorem dX10_proved_13 : decode cX10_proved 13 = .ok (.ifnonnull 9, 3) := by decide +kernel
theorem dX10_proved_16 : decode cX10_proved 16 = .ok (.aload_n 0, 1) := by decide +kernel
theorem dX10_proved_17 : decode cX10_proved 17 = .ok (.iconst 1, 1) := by decide +kernel
theorem dX10_proved_18 : decode cX10_proved 18 = .ok (.invokevirtual 83, 3) := by decide +kernel
theorem dX10_proved_21 : decode cX10_proved 21 = .ok (.ireturn, 1) := by decide +kernel
theorem dX10_proved_22 : decode cX10_proved 22 = .ok (.aload_n 0, 1) := by decide +kernel
theorem dX10_proved_23 : decode cX10_proved 23 = .ok (.aload_n 1, 1) := by decide +kernel
theorem dX10_proved_24 : decode cX10_proved 24 = .ok (.invokevirtual 299, 3) := by decide +kernel
theorem dX10_proved_27 : decode cX10_proved 27 = .ok (.aload_n 0, 1) := by decide +kernel
theorem dX10_proved_28 : decode cX10_proved 28 = .ok (.getfield 70, 3) := by decide +kernel
theorem dX10_proved_31 : decode cX10_proved 31 = .ok (.getfield 289, 3) := by decide +kernel
theorem dX10_proved_34 : decode cX10_proved 34 = .ok (.istore_n 2, 1) := by decide +kernel
theorem dX10_proved_35 : decode cX10_proved 35 = .ok (.aload_n 0, 1) := by decide +kernel
theorem dX10_proved_36 : decode cX10_proved 36 = .ok (.getfield 70, 3) := by decide +kernel
theorem dX10_proved_39 : decode cX10_proved 39 = .ok (.getfield 292, 3) := by decide +kernel
theorem dX10_proved_42 : decode cX10_proved 42 = .ok (.istore_n 3, 1) := by decide +kernel
theorem dX10_proved_43 : decode cX10_proved 43 = .ok (.aload_n 0, 1) := by decide +kernel
theorem dX10_proved_44 : decode cX10_proved 44 = .ok (.aload_n 1, 1) := by decide +kernel
theorem dX10_proved_45 : decode cX10_proved 45 = .ok (.aload_n 0, 1) := by decide +kernel
theorem dX10_proved_46 : decode cX10_proved 46 = .ok (.aload_n 1, 1) := by decide +kernel
theorem dX10_proved_47 : decode cX10_proved 47 = .ok (.invokevirtual 283, 3) := by decide +kernel
theorem dX10_proved_50 : decode cX10_proved 50 = .ok (.invokevirtual 286, 3) := by decide +kernel
theorem dX10_proved_53 : decode cX10_proved 53 = .ok (.aload_n 0, 1) := by decide +kernel
theorem dX10_proved_54 : decode cX10_proved 54 = .ok (.getfield 70, 3) := by decide +kernel
theorem dX10_proved_57 : decode cX10_proved 57 = .ok (.getfield 289, 3) := by decide +kernel
theorem dX10_proved_60 : decode cX10_proved 60 = .ok (.iload_n 2, 1) := by decide +kernel
theorem dX10_proved_61 : decode cX10_proved 61 = .ok (.if_icmp .ne 18, 3) := by decide +kernel
theorem dX10_proved_64 : decode cX10_proved 64 = .ok (.aload_n 0, 1) := by decide +kernel
theorem dX10_proved_65 : decode cX10_proved 65 = .ok (.getfield 70, 3) := by decide +kernel
theorem dX10_proved_68 : decode cX10_proved 68 = .ok (.getfield 292, 3) := by decide +kernel
theorem dX10_proved_71 : decode cX10_proved 71 = .ok (.iload_n 3, 1) := by decide +kernel
theorem dX10_proved_72 : decode cX10_proved 72 = .ok (.if_icmp .ne 7, 3) := by decide +kernel
theorem dX10_proved_75 : decode cX10_proved 75 = .ok (.iconst 1, 1) := by decide +kernel
theorem dX10_proved_76 : decode cX10_proved 76 = .ok (.goto 4, 3) := by decide +kernel
theorem dX10_proved_79 : decode cX10_proved 79 = .ok (.iconst 0, 1) := by decide +kernel
theorem dX10_proved_80 : decode cX10_proved 80 = .ok (.istore 4, 2) := by decide +kernel
theorem dX10_proved_82 : decode cX10_proved 82 = .ok (.aload_n 0, 1) := by decide +kernel
theorem dX10_proved_83 : decode cX10_proved 83 = .ok (.iload 4, 2) := by decide +kernel
theorem dX10_proved_85 : decode cX10_proved 85 = .ok (.ifCond .eq 7, 3) := by decide +kernel
theorem dX10_proved_88 : decode cX10_proved 88 = .ok (.iconst 0, 1) := by decide +kernel
theorem dX10_proved_89 : decode cX10_proved 89 = .ok (.goto 4, 3) := by decide +kernel
theorem dX10_proved_92 : decode cX10_proved 92 = .ok (.iconst 1, 1) := by decide +kernel
theorem dX10_proved_93 : decode cX10_proved 93 = .ok (.invokevirtual 103, 3) := by decide +kernel
theorem dX10_proved_96 : decode cX10_proved 96 = .ok (.ireturn, 1) := by decide +kernel
theorem dX10_mostLoaded_0 : decode cX10_mostLoaded 0 = .ok (.iconst 0, 1) := by decide +kernel
theorem dX10_mostLoaded_1 : decode cX10_mostLoaded 1 = .ok (.istore_n 2, 1) := by decide +kernel
theorem dX10_mostLoaded_2 : decode cX10_mostLoaded 2 = .ok (.aload_n 0, 1) := by decide +kernel
theorem dX10_mostLoaded_3 : decode cX10_mostLoaded 3 = .ok (.getfield 36, 3) := by decide +kernel
theorem dX10_mostLoaded_6 : decode cX10_mostLoaded 6 = .ok (.aload_n 1, 1) := by decide +kernel
theorem dX10_mostLoaded_7 : decode cX10_mostLoaded 7 = .ok (.iconst 0, 1) := by decide +kernel
theorem dX10_mostLoaded_8 : decode cX10_mostLoaded 8 = .ok (.invokevirtual 302, 3) := by decide +kernel
theorem dX10_mostLoaded_11 : decode cX10_mostLoaded 11 = .ok (.istore_n 3, 1) := by decide +kernel
theorem dX10_mostLoaded_12 : decode cX10_mostLoaded 12 = .ok (.iconst 1, 1) := by decide +kernel
theorem dX10_mostLoaded_13 : decode cX10_mostLoaded 13 = .ok (.istore 4, 2) := by decide +kernel
theorem dX10_mostLoaded_15 : decode cX10_mostLoaded 15 = .ok (.iload 4, 2) := by decide +kernel
theorem dX10_mostLoaded_17 : decode cX10_mostLoaded 17 = .ok (.aload_n 0, 1) := by decide +kernel
theorem dX10_mostLoaded_18 : decode cX10_mostLoaded 18 = .ok (.getfield 10, 3) := by decide +kernel
theorem dX10_mostLoaded_21 : decode cX10_mostLoaded 21 = .ok (.getfield 87, 3) := by decide +kernel
theorem dX10_mostLoaded_24 : decode cX10_mostLoaded 24 = .ok (.if_icmp .ge 61, 3) := by decide +kernel
theorem dX10_mostLoaded_27 : decode cX10_mostLoaded 27 = .ok (.iload 4, 2) := by decide +kernel
theorem dX10_mostLoaded_29 : decode cX10_mostLoaded 29 = .ok (.bipush 16, 2) := by decide +kernel
theorem dX10_mostLoaded_31 : decode cX10_mostLoaded 31 = .ok (.if_icmp .ge 54, 3) := by decide +kernel
theorem dX10_mostLoaded_34 : decode cX10_mostLoaded 34 = .ok (.aload_n 0, 1) := by decide +kernel
theorem dX10_mostLoaded_35 : decode cX10_mostLoaded 35 = .ok (.getfield 36, 3) := by decide +kernel
theorem dX10_mostLoaded_38 : decode cX10_mostLoaded 38 = .ok (.aload_n 1, 1) := by decide +kernel
theorem dX10_mostLoaded_39 : decode cX10_mostLoaded 39 = .ok (.iload 4, 2) := by decide +kernel
theorem dX10_mostLoaded_41 : decode cX10_mostLoaded 41 = .ok (.invokevirtual 302, 3) := by decide +kernel
theorem dX10_mostLoaded_44 : decode cX10_mostLoaded 44 = .ok (.istore 5, 2) := by decide +kernel
theorem dX10_mostLoaded_46 : decode cX10_mostLoaded 46 = .ok (.iload 5, 2) := by decide +kernel
theorem dX10_mostLoaded_48 : decode cX10_mostLoaded 48 = .ok (.aload_n 0, 1) := by decide +kernel
theorem dX10_mostLoaded_49 : decode cX10_mostLoaded 49 = .ok (.getfield 10, 3) := by decide +kernel
theorem dX10_mostLoaded_52 : decode cX10_mostLoaded 52 = .ok (.getfield 90, 3) := by decide +kernel
theorem dX10_mostLoaded_55 : decode cX10_mostLoaded 55 = .ok (.iload_n 2, 1) := by decide +kernel
theorem dX10_mostLoaded_56 : decode cX10_mostLoaded 56 = .ok (.iaload, 1) := by decide +kernel
theorem dX10_mostLoaded_57 : decode cX10_mostLoaded 57 = .ok (.imul, 1) := by decide +kernel
theorem dX10_mostLoaded_58 : decode cX10_mostLoaded 58 = .ok (.iload_n 3, 1) := by decide +kernel
theorem dX10_mostLoaded_59 : decode cX10_mostLoaded 59 = .ok (.aload_n 0, 1) := by decide +kernel
theorem dX10_mostLoaded_60 : decode cX10_mostLoaded 60 = .ok (.getfield 10, 3) := by decide +kernel
theorem dX10_mostLoaded_63 : decode cX10_mostLoaded 63 = .ok (.getfield 90, 3) := by decide +kernel
theorem dX10_mostLoaded_66 : decode cX10_mostLoaded 66 = .ok (.iload 4, 2) := by decide +kernel
theorem dX10_mostLoaded_68 : decode cX10_mostLoaded 68 = .ok (.iaload, 1) := by decide +kernel
theorem dX10_mostLoaded_69 : decode cX10_mostLoaded 69 = .ok (.imul, 1) := by decide +kernel
theorem dX10_mostLoaded_70 : decode cX10_mostLoaded 70 = .ok (.if_icmp .le 9, 3) := by decide +kernel
theorem dX10_mostLoaded_73 : decode cX10_mostLoaded 73 = .ok (.iload 4, 2) := by decide +kernel
theorem dX10_mostLoaded_75 : decode cX10_mostLoaded 75 = .ok (.istore_n 2, 1) := by decide +kernel
theorem dX10_mostLoaded_76 : decode cX10_mostLoaded 76 = .ok (.iload 5, 2) := by decide +kernel
theorem dX10_mostLoaded_78 : decode cX10_mostLoaded 78 = .ok (.istore_n 3, 1) := by decide +kernel
theorem dX10_mostLoaded_79 : decode cX10_mostLoaded 79 = .ok (.iinc 4 1, 3) := by decide +kernel
theorem dX10_mostLoaded_82 : decode cX10_mostLoaded 82 = .ok (.goto (-67), 3) := by decide +kernel
theorem dX10_mostLoaded_85 : decode cX10_mostLoaded 85 = .ok (.iload_n 2, 1) := by decide +kernel
theorem dX10_mostLoaded_86 : decode cX10_mostLoaded 86 = .ok (.ireturn, 1) := by decide +kernel
theorem dX10_reckonLoad_0 : decode cX10_reckonLoad 0 = .ok (.aload_n 0, 1) := by decide +kernel
theorem dX10_reckonLoad_1 : decode cX10_reckonLoad 1 = .ok (.getfield 10, 3) := by decide +kernel
theorem dX10_reckonLoad_4 : decode cX10_reckonLoad 4 = .ok (.iload_n 2, 1) := by decide +kernel
theorem dX10_reckonLoad_5 : decode cX10_reckonLoad 5 = .ok (.invokevirtual 106, 3) := by decide +kernel
theorem dX10_reckonLoad_8 : decode cX10_reckonLoad 8 = .ok (.ifCond .eq 15, 3) := by decide +kernel
theorem dX10_reckonLoad_11 : decode cX10_reckonLoad 11 = .ok (.aload_n 0, 1) := by decide +kernel
theorem dX10_reckonLoad_12 : decode cX10_reckonLoad 12 = .ok (.getfield 10, 3) := by decide +kernel
theorem dX10_reckonLoad_15 : decode cX10_reckonLoad 15 = .ok (.getfield 90, 3) := by decide +kernel
theorem dX10_reckonLoad_18 : decode cX10_reckonLoad 18 = .ok (.iload_n 2, 1) := by decide +kernel
theorem dX10_reckonLoad_19 : decode cX10_reckonLoad 19 = .ok (.iaload, 1) := by decide +kernel
theorem dX10_reckonLoad_20 : decode cX10_reckonLoad 20 = .ok (.goto 4, 3) := by decide +kernel
theorem dX10_reckonLoad_23 : decode cX10_reckonLoad 23 = .ok (.iconst 0, 1) := by decide +kernel
theorem dX10_reckonLoad_24 : decode cX10_reckonLoad 24 = .ok (.istore_n 3, 1) := by decide +kernel
theorem dX10_reckonLoad_25 : decode cX10_reckonLoad 25 = .ok (.aload_n 0, 1) := by decide +kernel
theorem dX10_reckonLoad_26 : decode cX10_reckonLoad 26 = .ok (.getfield 70, 3) := by decide +kernel
theorem dX10_reckonLoad_29 : decode cX10_reckonLoad 29 = .ok (.aload_n 0, 1) := by decide +kernel
theorem dX10_reckonLoad_30 : decode cX10_reckonLoad 30 = .ok (.getfield 36, 3) := by decide +kernel
theorem dX10_reckonLoad_33 : decode cX10_reckonLoad 33 = .ok (.aload_n 1, 1) := by decide +kernel
theorem dX10_reckonLoad_34 : decode cX10_reckonLoad 34 = .ok (.iload_n 2, 1) := by decide +kernel
theorem dX10_reckonLoad_35 : decode cX10_reckonLoad 35 = .ok (.invokevirtual 302, 3) := by decide +kernel
theorem dX10_reckonLoad_38 : decode cX10_reckonLoad 38 = .ok (.aload_n 0, 1) := by decide +kernel
theorem dX10_reckonLoad_39 : decode cX10_reckonLoad 39 = .ok (.getfield 36, 3) := by decide +kernel
theorem dX10_reckonLoad_42 : decode cX10_reckonLoad 42 = .ok (.invokevirtual 274, 3) := by decide +kernel
theorem dX10_reckonLoad_45 : decode cX10_reckonLoad 45 = .ok (.iload_n 3, 1) := by decide +kernel
theorem dX10_reckonLoad_46 : decode cX10_reckonLoad 46 = .ok (.imul, 1) := by decide +kernel
theorem dX10_reckonLoad_47 : decode cX10_reckonLoad 47 = .ok (.invokevirtual 306, 3) := by decide +kernel
theorem dX10_reckonLoad_50 : decode cX10_reckonLoad 50 = .ok (.return_, 1) := by decide +kernel
theorem dX10_reckonBound_0 : decode cX10_reckonBound 0 = .ok (.aload_n 0, 1) := by decide +kernel
theorem dX10_reckonBound_1 : decode cX10_reckonBound 1 = .ok (.getfield 10, 3) := by decide +kernel
theorem dX10_reckonBound_4 : decode cX10_reckonBound 4 = .ok (.aload_n 1, 1) := by decide +kernel
theorem dX10_reckonBound_5 : decode cX10_reckonBound 5 = .ok (.getfield 213, 3) := by decide +kernel
theorem dX10_reckonBound_8 : decode cX10_reckonBound 8 = .ok (.iconst 0, 1) := by decide +kernel
theorem dX10_reckonBound_9 : decode cX10_reckonBound 9 = .ok (.iaload, 1) := by decide +kernel
theorem dX10_reckonBound_10 : decode cX10_reckonBound 10 = .ok (.invokevirtual 308, 3) := by decide +kernel
theorem dX10_reckonBound_13 : decode cX10_reckonBound 13 = .ok (.istore_n 2, 1) := by decide +kernel
theorem dX10_reckonBound_14 : decode cX10_reckonBound 14 = .ok (.iconst 1, 1) := by decide +kernel
theorem dX10_reckonBound_15 : decode cX10_reckonBound 15 = .ok (.istore_n 3, 1) := by decide +kernel
theorem dX10_reckonBound_16 : decode cX10_reckonBound 16 = .ok (.iload_n 3, 1) := by decide +kernel
theorem dX10_reckonBound_17 : decode cX10_reckonBound 17 = .ok (.aload_n 1, 1) := by decide +kernel
theorem dX10_reckonBound_18 : decode cX10_reckonBound 18 = .ok (.getfield 202, 3) := by decide +kernel
theorem dX10_reckonBound_21 : decode cX10_reckonBound 21 = .ok (.if_icmp .ge 27, 3) := by decide +kernel
theorem dX10_reckonBound_24 : decode cX10_reckonBound 24 = .ok (.iload_n 2, 1) := by decide +kernel
theorem dX10_reckonBound_25 : decode cX10_reckonBound 25 = .ok (.aload_n 0, 1) := by decide +kernel
theorem dX10_reckonBound_26 : decode cX10_reckonBound 26 = .ok (.getfield 10, 3) := by decide +kernel
theorem dX10_reckonBound_29 : decode cX10_reckonBound 29 = .ok (.aload_n 1, 1) := by decide +kernel
theorem dX10_reckonBound_30 : decode cX10_reckonBound 30 = .ok (.getfield 213, 3) := by decide +kernel
theorem dX10_reckonBound_33 : decode cX10_reckonBound 33 = .ok (.iload_n 3, 1) := by decide +kernel
theorem dX10_reckonBound_34 : decode cX10_reckonBound 34 = .ok (.iaload, 1) := by decide +kernel
theorem dX10_reckonBound_35 : decode cX10_reckonBound 35 = .ok (.invokevirtual 308, 3) := by decide +kernel
theorem dX10_reckonBound_38 : decode cX10_reckonBound 38 = .ok (.invokestatic 311, 3) := by decide +kernel
theorem dX10_reckonBound_41 : decode cX10_reckonBound 41 = .ok (.istore_n 2, 1) := by decide +kernel
theorem dX10_reckonBound_42 : decode cX10_reckonBound 42 = .ok (.iinc 3 1, 3) := by decide +kernel
theorem dX10_reckonBound_45 : decode cX10_reckonBound 45 = .ok (.goto (-29), 3) := by decide +kernel
theorem dX10_reckonBound_48 : decode cX10_reckonBound 48 = .ok (.aload_n 0, 1) := by decide +kernel
theorem dX10_reckonBound_49 : decode cX10_reckonBound 49 = .ok (.getfield 70, 3) := by decide +kernel
theorem dX10_reckonBound_52 : decode cX10_reckonBound 52 = .ok (.iload_n 2, 1) := by decide +kernel
theorem dX10_reckonBound_53 : decode cX10_reckonBound 53 = .ok (.aload_n 0, 1) := by decide +kernel
theorem dX10_reckonBound_54 : decode cX10_reckonBound 54 = .ok (.getfield 10, 3) := by decide +kernel
theorem dX10_reckonBound_57 : decode cX10_reckonBound 57 = .ok (.invokevirtual 316, 3) := by decide +kernel
theorem dX10_reckonBound_60 : decode cX10_reckonBound 60 = .ok (.invokevirtual 306, 3) := by decide +kernel
theorem dX10_reckonBound_63 : decode cX10_reckonBound 63 = .ok (.return_, 1) := by decide +kernel
theorem dX10_witness_0 : decode cX10_witness 0 = .ok (.aload_n 0, 1) := by decide +kernel
theorem dX10_witness_1 : decode cX10_witness 1 = .ok (.iload_n 1, 1) := by decide +kernel
theorem dX10_witness_2 : decode cX10_witness 2 = .ok (.invokevirtual 166, 3) := by decide +kernel
theorem dX10_witness_5 : decode cX10_witness 5 = .ok (.astore_n 2, 1) := by decide +kernel
theorem dX10_witness_6 : decode cX10_witness 6 = .ok (.aload_n 2, 1) := by decide +kernel
theorem dX10_witness_7 : decode cX10_witness 7 = .ok (.ifnonnull 9, 3) := by decide +kernel
theorem dX10_witness_10 : decode cX10_witness 10 = .ok (.aload_n 0, 1) := by decide +kernel
theorem dX10_witness_11 : decode cX10_witness 11 = .ok (.iconst 1, 1) := by decide +kernel
theorem dX10_witness_12 : decode cX10_witness 12 = .ok (.invokevirtual 83, 3) := by decide +kernel
theorem dX10_witness_15 : decode cX10_witness 15 = .ok (.ireturn, 1) := by decide +kernel
theorem dX10_witness_16 : decode cX10_witness 16 = .ok (.aload_n 0, 1) := by decide +kernel
theorem dX10_witness_17 : decode cX10_witness 17 = .ok (.getfield 56, 3) := by decide +kernel
theorem dX10_witness_20 : decode cX10_witness 20 = .ok (.aload_n 2, 1) := by decide +kernel
theorem dX10_witness_21 : decode cX10_witness 21 = .ok (.invokevirtual 319, 3) := by decide +kernel
theorem dX10_witness_24 : decode cX10_witness 24 = .ok (.aload_n 0, 1) := by decide +kernel
theorem dX10_witness_25 : decode cX10_witness 25 = .ok (.aload_n 0, 1) := by decide +kernel
theorem dX10_witness_26 : decode cX10_witness 26 = .ok (.getfield 56, 3) := by decide +kernel
theorem dX10_witness_29 : decode cX10_witness 29 = .ok (.getfield 322, 3) := by decide +kernel
theorem dX10_witness_32 : decode cX10_witness 32 = .ok (.invokevirtual 103, 3) := by decide +kernel
theorem dX10_witness_35 : decode cX10_witness 35 = .ok (.ireturn, 1) := by decide +kernel
theorem dX10_names_0 : decode cX10_names 0 = .ok (.aload_n 0, 1) := by decide +kernel
theorem dX10_names_1 : decode cX10_names 1 = .ok (.getfield 56, 3) := by decide +kernel
theorem dX10_names_4 : decode cX10_names 4 = .ok (.iload_n 1, 1) := by decide +kernel
theorem dX10_names_5 : decode cX10_names 5 = .ok (.invokevirtual 323, 3) := by decide +kernel
theorem dX10_names_8 : decode cX10_names 8 = .ok (.ifCond .eq 15, 3) := by decide +kernel
theorem dX10_names_11 : decode cX10_names 11 = .ok (.aload_n 0, 1) := by decide +kernel
theorem dX10_names_12 : decode cX10_names 12 = .ok (.getfield 56, 3) := by decide +kernel
theorem dX10_names_15 : decode cX10_names 15 = .ok (.getfield 326, 3) := by decide +kernel
theorem dX10_names_18 : decode cX10_names 18 = .ok (.iload_n 1, 1) := by decide +kernel
theorem dX10_names_19 : decode cX10_names 19 = .ok (.iaload, 1) := by decide +kernel
theorem dX10_names_20 : decode cX10_names 20 = .ok (.goto 5, 3) := by decide +kernel
theorem dX10_names_23 : decode cX10_names 23 = .ok (.bipush (-2), 2) := by decide +kernel
theorem dX10_names_25 : decode cX10_names 25 = .ok (.ireturn, 1) := by decide +kernel
theorem dX10_forge_0 : decode cX10_forge 0 = .ok (.aload_n 0, 1) := by decide +kernel
theorem dX10_forge_1 : decode cX10_forge 1 = .ok (.getfield 56, 3) := by decide +kernel
theorem dX10_forge_4 : decode cX10_forge 4 = .ok (.iload_n 1, 1) := by decide +kernel
theorem dX10_forge_5 : decode cX10_forge 5 = .ok (.invokevirtual 323, 3) := by decide +kernel
theorem dX10_forge_8 : decode cX10_forge 8 = .ok (.ifCond .ne 9, 3) := by decide +kernel
theorem dX10_forge_11 : decode cX10_forge 11 = .ok (.aload_n 0, 1) := by decide +kernel
theorem dX10_forge_12 : decode cX10_forge 12 = .ok (.iconst 1, 1) := by decide +kernel
theorem dX10_forge_13 : decode cX10_forge 13 = .ok (.invokevirtual 109, 3) := by decide +kernel
theorem dX10_forge_16 : decode cX10_forge 16 = .ok (.ireturn, 1) := by decide +kernel
theorem dX10_forge_17 : decode cX10_forge 17 = .ok (.aload_n 0, 1) := by decide +kernel
theorem dX10_forge_18 : decode cX10_forge 18 = .ok (.getfield 56, 3) := by decide +kernel
theorem dX10_forge_21 : decode cX10_forge 21 = .ok (.getfield 326, 3) := by decide +kernel
theorem dX10_forge_24 : decode cX10_forge 24 = .ok (.iload_n 1, 1) := by decide +kernel
theorem dX10_forge_25 : decode cX10_forge 25 = .ok (.dup2, 1) := by decide +kernel
theorem dX10_forge_26 : decode cX10_forge 26 = .ok (.iaload, 1) := by decide +kernel
theorem dX10_forge_27 : decode cX10_forge 27 = .ok (.iload_n 2, 1) := by decide +kernel
theorem dX10_forge_28 : decode cX10_forge 28 = .ok (.ixor, 1) := by decide +kernel
theorem dX10_forge_29 : decode cX10_forge 29 = .ok (.iastore, 1) := by decide +kernel
theorem dX10_forge_30 : decode cX10_forge 30 = .ok (.aload_n 0, 1) := by decide +kernel
theorem dX10_forge_31 : decode cX10_forge 31 = .ok (.invokevirtual 112, 3) := by decide +kernel
theorem dX10_forge_34 : decode cX10_forge 34 = .ok (.ireturn, 1) := by decide +kernel
theorem dX10_judge_0 : decode cX10_judge 0 = .ok (.aload_n 0, 1) := by decide +kernel
theorem dX10_judge_1 : decode cX10_judge 1 = .ok (.iload_n 1, 1) := by decide +kernel
theorem dX10_judge_2 : decode cX10_judge 2 = .ok (.invokevirtual 166, 3) := by decide +kernel
theorem dX10_judge_5 : decode cX10_judge 5 = .ok (.astore_n 2, 1) := by decide +kernel
theorem dX10_judge_6 : decode cX10_judge 6 = .ok (.aload_n 2, 1) := by decide +kernel
theorem dX10_judge_7 : decode cX10_judge 7 = .ok (.ifnonnull 9, 3) := by decide +kernel
theorem dX10_judge_10 : decode cX10_judge 10 = .ok (.aload_n 0, 1) := by decide +kernel
theorem dX10_judge_11 : decode cX10_judge 11 = .ok (.iconst 1, 1) := by decide +kernel
theorem dX10_judge_12 : decode cX10_judge 12 = .ok (.invokevirtual 83, 3) := by decide +kernel
theorem dX10_judge_15 : decode cX10_judge 15 = .ok (.ireturn, 1) := by decide +kernel
theorem dX10_judge_16 : decode cX10_judge 16 = .ok (.aload_n 0, 1) := by decide +kernel
theorem dX10_judge_17 : decode cX10_judge 17 = .ok (.getfield 56, 3) := by decide +kernel
theorem dX10_judge_20 : decode cX10_judge 20 = .ok (.getfield 322, 3) := by decide +kernel
theorem dX10_judge_23 : decode cX10_judge 23 = .ok (.aload_n 2, 1) := by decide +kernel
theorem dX10_judge_24 : decode cX10_judge 24 = .ok (.invokevirtual 329, 3) := by decide +kernel
theorem dX10_judge_27 : decode cX10_judge 27 = .ok (.if_icmp .eq 10, 3) := by decide +kernel
theorem dX10_judge_30 : decode cX10_judge 30 = .ok (.aload_n 0, 1) := by decide +kernel
theorem dX10_judge_31 : decode cX10_judge 31 = .ok (.bipush (-3), 2) := by decide +kernel
theorem dX10_judge_33 : decode cX10_judge 33 = .ok (.invokevirtual 103, 3) := by decide +kernel
theorem dX10_judge_36 : decode cX10_judge 36 = .ok (.ireturn, 1) := by decide +kernel
theorem dX10_judge_37 : decode cX10_judge 37 = .ok (.aload_n 0, 1) := by decide +kernel
theorem dX10_judge_38 : decode cX10_judge 38 = .ok (.aload_n 0, 1) := by decide +kernel
theorem dX10_judge_39 : decode cX10_judge 39 = .ok (.getfield 56, 3) := by decide +kernel
theorem dX10_judge_42 : decode cX10_judge 42 = .ok (.aload_n 2, 1) := by decide +kernel
theorem dX10_judge_43 : decode cX10_judge 43 = .ok (.invokevirtual 332, 3) := by decide +kernel
theorem dX10_judge_46 : decode cX10_judge 46 = .ok (.invokevirtual 103, 3) := by decide +kernel
theorem dX10_judge_49 : decode cX10_judge 49 = .ok (.ireturn, 1) := by decide +kernel
theorem dX10_lay_0 : decode cX10_lay 0 = .ok (.aload_n 0, 1) := by decide +kernel
theorem dX10_lay_1 : decode cX10_lay 1 = .ok (.iload_n 1, 1) := by decide +kernel
theorem dX10_lay_2 : decode cX10_lay 2 = .ok (.invokevirtual 335, 3) := by decide +kernel
theorem dX10_lay_5 : decode cX10_lay 5 = .ok (.astore 4, 2) := by decide +kernel
theorem dX10_lay_7 : decode cX10_lay 7 = .ok (.aload 4, 2) := by decide +kernel
theorem dX10_lay_9 : decode cX10_lay 9 = .ok (.ifnonnull 9, 3) := by decide +kernel
theorem dX10_lay_12 : decode cX10_lay 12 = .ok (.aload_n 0, 1) := by decide +kernel
theorem dX10_lay_13 : decode cX10_lay 13 = .ok (.iconst 1, 1) := by decide +kernel
theorem dX10_lay_14 : decode cX10_lay 14 = .ok (.invokevirtual 83, 3) := by decide +kernel
theorem dX10_lay_17 : decode cX10_lay 17 = .ok (.ireturn, 1) := by decide +kernel
theorem dX10_lay_18 : decode cX10_lay 18 = .ok (.iload_n 2, 1) := by decide +kernel
theorem dX10_lay_19 : decode cX10_lay 19 = .ok (.ifCond .lt 8, 3) := by decide +kernel
theorem dX10_lay_22 : decode cX10_lay 22 = .ok (.iload_n 2, 1) := by decide +kernel
theorem dX10_lay_23 : decode cX10_lay 23 = .ok (.iconst 3, 1) := by decide +kernel
theorem dX10_lay_24 : decode cX10_lay 24 = .ok (.if_icmp .le 9, 3) := by decide +kernel
theorem dX10_lay_27 : decode cX10_lay 27 = .ok (.aload_n 0, 1) := by decide +kernel
theorem dX10_lay_28 : decode cX10_lay 28 = .ok (.iconst 2, 1) := by decide +kernel
theorem dX10_lay_29 : decode cX10_lay 29 = .ok (.invokevirtual 83, 3) := by decide +kernel
theorem dX10_lay_32 : decode cX10_lay 32 = .ok (.ireturn, 1) := by decide +kernel
theorem dX10_lay_33 : decode cX10_lay 33 = .ok (.iload_n 2, 1) := by decide +kernel
theorem dX10_lay_34 : decode cX10_lay 34 = .ok (.iconst 1, 1) := by decide +kernel
theorem dX10_lay_35 : decode cX10_lay 35 = .ok (.if_icmp .ne 11, 3) := by decide +kernel
theorem dX10_lay_38 : decode cX10_lay 38 = .ok (.aload_n 0, 1) := by decide +kernel
theorem dX10_lay_39 : decode cX10_lay 39 = .ok (.iload_n 3, 1) := by decide +kernel
theorem dX10_lay_40 : decode cX10_lay 40 = .ok (.invokevirtual 166, 3) := by decide +kernel
theorem dX10_lay_43 : decode cX10_lay 43 = .ok (.ifnull 18, 3) := by decide +kernel
theorem dX10_lay_46 : decode cX10_lay 46 = .ok (.iload_n 2, 1) := by decide +kernel
theorem dX10_lay_47 : decode cX10_lay 47 = .ok (.iconst 3, 1) := by decide +kernel
theorem dX10_lay_48 : decode cX10_lay 48 = .ok (.if_icmp .ne 19, 3) := by decide +kernel
theorem dX10_lay_51 : decode cX10_lay 51 = .ok (.aload_n 0, 1) := by decide +kernel
theorem dX10_lay_52 : decode cX10_lay 52 = .ok (.getfield 36, 3) := by decide +kernel
theorem dX10_lay_55 : decode cX10_lay 55 = .ok (.invokevirtual 339, 3) := by decide +kernel
theorem dX10_lay_58 : decode cX10_lay 58 = .ok (.ifCond .ne 9, 3) := by decide +kernel
theorem dX10_lay_61 : decode cX10_lay 61 = .ok (.aload_n 0, 1) := by decide +kernel
theorem dX10_lay_62 : decode cX10_lay 62 = .ok (.iconst 1, 1) := by decide +kernel
theorem dX10_lay_63 : decode cX10_lay 63 = .ok (.invokevirtual 83, 3) := by decide +kernel
theorem dX10_lay_66 : decode cX10_lay 66 = .ok (.ireturn, 1) := by decide +kernel
theorem dX10_lay_67 : decode cX10_lay 67 = .ok (.iload_n 2, 1) := by decide +kernel
theorem dX10_lay_68 : decode cX10_lay 68 = .ok (.iconst 2, 1) := by decide +kernel
theorem dX10_lay_69 : decode cX10_lay 69 = .ok (.if_icmp .ne 20, 3) := by decide +kernel
theorem dX10_lay_72 : decode cX10_lay 72 = .ok (.aload_n 0, 1) := by decide +kernel
theorem dX10_lay_73 : decode cX10_lay 73 = .ok (.getfield 10, 3) := by decide +kernel
theorem dX10_lay_76 : decode cX10_lay 76 = .ok (.iload_n 3, 1) := by decide +kernel
theorem dX10_lay_77 : decode cX10_lay 77 = .ok (.invokevirtual 116, 3) := by decide +kernel
theorem dX10_lay_80 : decode cX10_lay 80 = .ok (.ifCond .ne 9, 3) := by decide +kernel
theorem dX10_lay_83 : decode cX10_lay 83 = .ok (.aload_n 0, 1) := by decide +kernel
theorem dX10_lay_84 : decode cX10_lay 84 = .ok (.iconst 2, 1) := by decide +kernel
theorem dX10_lay_85 : decode cX10_lay 85 = .ok (.invokevirtual 83, 3) := by decide +kernel
theorem dX10_lay_88 : decode cX10_lay 88 = .ok (.ireturn, 1) := by decide +kernel
theorem dX10_lay_89 : decode cX10_lay 89 = .ok (.aload_n 0, 1) := by decide +kernel
theorem dX10_lay_90 : decode cX10_lay 90 = .ok (.getfield 49, 3) := by decide +kernel
theorem dX10_lay_93 : decode cX10_lay 93 = .ok (.bipush 6, 2) := by decide +kernel
theorem dX10_lay_95 : decode cX10_lay 95 = .ok (.iload_n 1, 1) := by decide +kernel
theorem dX10_lay_96 : decode cX10_lay 96 = .ok (.iconst 0, 1) := by decide +kernel
theorem dX10_lay_97 : decode cX10_lay 97 = .ok (.invokevirtual 99, 3) := by decide +kernel
theorem dX10_lay_100 : decode cX10_lay 100 = .ok (.getfield 257, 3) := by decide +kernel
theorem dX10_lay_103 : decode cX10_lay 103 = .ok (.aload 4, 2) := by decide +kernel
theorem dX10_lay_105 : decode cX10_lay 105 = .ok (.invokevirtual 341, 3) := by decide +kernel
theorem dX10_lay_108 : decode cX10_lay 108 = .ok (.aload 4, 2) := by decide +kernel
theorem dX10_lay_110 : decode cX10_lay 110 = .ok (.iload_n 2, 1) := by decide +kernel
theorem dX10_lay_111 : decode cX10_lay 111 = .ok (.putfield 344, 3) := by decide +kernel
theorem dX10_lay_114 : decode cX10_lay 114 = .ok (.aload 4, 2) := by decide +kernel
theorem dX10_lay_116 : decode cX10_lay 116 = .ok (.iload_n 3, 1) := by decide +kernel
theorem dX10_lay_117 : decode cX10_lay 117 = .ok (.putfield 347, 3) := by decide +kernel
theorem dX10_lay_120 : decode cX10_lay 120 = .ok (.iload_n 2, 1) := by decide +kernel
theorem dX10_lay_121 : decode cX10_lay 121 = .ok (.iconst 3, 1) := by decide +kernel
theorem dX10_lay_122 : decode cX10_lay 122 = .ok (.if_icmp .ne 15, 3) := by decide +kernel
theorem dX10_lay_125 : decode cX10_lay 125 = .ok (.aload 4, 2) := by decide +kernel
theorem dX10_lay_127 : decode cX10_lay 127 = .ok (.getfield 263, 3) := by decide +kernel
theorem dX10_lay_130 : decode cX10_lay 130 = .ok (.aload_n 0, 1) := by decide +kernel
theorem dX10_lay_131 : decode cX10_lay 131 = .ok (.getfield 36, 3) := by decide +kernel
theorem dX10_lay_134 : decode cX10_lay 134 = .ok (.invokevirtual 264, 3) := by decide +kernel
theorem dX10_lay_137 : decode cX10_lay 137 = .ok (.aload_n 0, 1) := by decide +kernel
theorem dX10_lay_138 : decode cX10_lay 138 = .ok (.iconst 1, 1) := by decide +kernel
theorem dX10_lay_139 : decode cX10_lay 139 = .ok (.invokevirtual 103, 3) := by decide +kernel
theorem dX10_lay_142 : decode cX10_lay 142 = .ok (.ireturn, 1) := by decide +kernel
theorem dX10_lies_0 : decode cX10_lies 0 = .ok (.aload_n 0, 1) := by decide +kernel
theorem dX10_lies_1 : decode cX10_lies 1 = .ok (.iload_n 1, 1) := by decide +kernel
theorem dX10_lies_2 : decode cX10_lies 2 = .ok (.invokevirtual 335, 3) := by decide +kernel
theorem dX10_lies_5 : decode cX10_lies 5 = .ok (.astore_n 2, 1) := by decide +kernel
theorem dX10_lies_6 : decode cX10_lies 6 = .ok (.aload_n 2, 1) := by decide +kernel
theorem dX10_lies_7 : decode cX10_lies 7 = .ok (.ifnonnull 9, 3) := by decide +kernel
theorem dX10_lies_10 : decode cX10_lies 10 = .ok (.aload_n 0, 1) := by decide +kernel
theorem dX10_lies_11 : decode cX10_lies 11 = .ok (.iconst 1, 1) := by decide +kernel
theorem dX10_lies_12 : decode cX10_lies 12 = .ok (.invokevirtual 83, 3) := by decide +kernel
theorem dX10_lies_15 : decode cX10_lies 15 = .ok (.ireturn, 1) := by decide +kernel
theorem dX10_lies_16 : decode cX10_lies 16 = .ok (.aload_n 0, 1) := by decide +kernel
theorem dX10_lies_17 : decode cX10_lies 17 = .ok (.aload_n 2, 1) := by decide +kernel
theorem dX10_lies_18 : decode cX10_lies 18 = .ok (.getfield 344, 3) := by decide +kernel
theorem dX10_lies_21 : decode cX10_lies 21 = .ok (.invokevirtual 103, 3) := by decide +kernel
theorem dX10_lies_24 : decode cX10_lies 24 = .ok (.ireturn, 1) := by decide +kernel
theorem dX10_taken_0 : decode cX10_taken 0 = .ok (.aload_n 0, 1) := by decide +kernel
theorem dX10_taken_1 : decode cX10_taken 1 = .ok (.iload_n 1, 1) := by decide +kernel
theorem dX10_taken_2 : decode cX10_taken 2 = .ok (.invokevirtual 335, 3) := by decide +kernel
theorem dX10_taken_5 : decode cX10_taken 5 = .ok (.astore 4, 2) := by decide +kernel
theorem dX10_taken_7 : decode cX10_taken 7 = .ok (.aload 4, 2) := by decide +kernel
theorem dX10_taken_9 : decode cX10_taken 9 = .ok (.ifnonnull 9, 3) := by decide +kernel
theorem dX10_taken_12 : decode cX10_taken 12 = .ok (.aload_n 0, 1) := by decide +kernel
theorem dX10_taken_13 : decode cX10_taken 13 = .ok (.iconst 1, 1) := by decide +kernel
theorem dX10_taken_14 : decode cX10_taken 14 = .ok (.invokevirtual 83, 3) := by decide +kernel
theorem dX10_taken_17 : decode cX10_taken 17 = .ok (.ireturn, 1) := by decide +kernel
theorem dX10_taken_18 : decode cX10_taken 18 = .ok (.iload_n 2, 1) := by decide +kernel
theorem dX10_taken_19 : decode cX10_taken 19 = .ok (.iconst 1, 1) := by decide +kernel
theorem dX10_taken_20 : decode cX10_taken 20 = .ok (.if_icmp .lt 8, 3) := by decide +kernel
theorem dX10_taken_23 : decode cX10_taken 23 = .ok (.iload_n 2, 1) := by decide +kernel
theorem dX10_taken_24 : decode cX10_taken 24 = .ok (.iconst 3, 1) := by decide +kernel
theorem dX10_taken_25 : decode cX10_taken 25 = .ok (.if_icmp .le 9, 3) := by decide +kernel
theorem dX10_taken_28 : decode cX10_taken 28 = .ok (.aload_n 0, 1) := by decide +kernel
theorem dX10_taken_29 : decode cX10_taken 29 = .ok (.iconst 2, 1) := by decide +kernel
theorem dX10_taken_30 : decode cX10_taken 30 = .ok (.invokevirtual 83, 3) := by decide +kernel
theorem dX10_taken_33 : decode cX10_taken 33 = .ok (.ireturn, 1) := by decide +kernel
theorem dX10_taken_34 : decode cX10_taken 34 = .ok (.aload 4, 2) := by decide +kernel
theorem dX10_taken_36 : decode cX10_taken 36 = .ok (.getfield 344, 3) := by decide +kernel
theorem dX10_taken_39 : decode cX10_taken 39 = .ok (.iload_n 2, 1) := by decide +kernel
theorem dX10_taken_40 : decode cX10_taken 40 = .ok (.if_icmp .eq 10, 3) := by decide +kernel
theorem dX10_taken_43 : decode cX10_taken 43 = .ok (.aload_n 0, 1) := by decide +kernel
theorem dX10_taken_44 : decode cX10_taken 44 = .ok (.bipush 6, 2) := by decide +kernel
theorem dX10_taken_46 : decode cX10_taken 46 = .ok (.invokevirtual 83, 3) := by decide +kernel
theorem dX10_taken_49 : decode cX10_taken 49 = .ok (.ireturn, 1) := by decide +kernel
theorem dX10_taken_50 : decode cX10_taken 50 = .ok (.iload_n 2, 1) := by decide +kernel
theorem dX10_taken_51 : decode cX10_taken 51 = .ok (.iconst 3, 1) := by decide +kernel
theorem dX10_taken_52 : decode cX10_taken 52 = .ok (.if_icmp .eq 13, 3) := by decide +kernel
theorem dX10_taken_55 : decode cX10_taken 55 = .ok (.aload_n 0, 1) := by decide +kernel
theorem dX10_taken_56 : decode cX10_taken 56 = .ok (.aload 4, 2) := by decide +kernel
theorem dX10_taken_58 : decode cX10_taken 58 = .ok (.getfield 347, 3) := by decide +kernel
theorem dX10_taken_61 : decode cX10_taken 61 = .ok (.invokevirtual 103, 3) := by decide +kernel
theorem dX10_taken_64 : decode cX10_taken 64 = .ok (.ireturn, 1) := by decide +kernel
theorem dX10_taken_65 : decode cX10_taken 65 = .ok (.aload 4, 2) := by decide +kernel
theorem dX10_taken_67 : decode cX10_taken 67 = .ok (.getfield 263, 3) := by decide +kernel
theorem dX10_taken_70 : decode cX10_taken 70 = .ok (.iload_n 3, 1) := by decide +kernel
theorem dX10_taken_71 : decode cX10_taken 71 = .ok (.invokevirtual 271, 3) := by decide +kernel
theorem dX10_taken_74 : decode cX10_taken 74 = .ok (.ifCond .ne 9, 3) := by decide +kernel
theorem dX10_taken_77 : decode cX10_taken 77 = .ok (.aload_n 0, 1) := by decide +kernel
theorem dX10_taken_78 : decode cX10_taken 78 = .ok (.iconst 1, 1) := by decide +kernel
theorem dX10_taken_79 : decode cX10_taken 79 = .ok (.invokevirtual 83, 3) := by decide +kernel
theorem dX10_taken_82 : decode cX10_taken 82 = .ok (.ireturn, 1) := by decide +kernel
theorem dX10_taken_83 : decode cX10_taken 83 = .ok (.aload_n 0, 1) := by decide +kernel
theorem dX10_taken_84 : decode cX10_taken 84 = .ok (.aload 4, 2) := by decide +kernel
theorem dX10_taken_86 : decode cX10_taken 86 = .ok (.getfield 263, 3) := by decide +kernel
theorem dX10_taken_89 : decode cX10_taken 89 = .ok (.getfield 277, 3) := by decide +kernel
theorem dX10_taken_92 : decode cX10_taken 92 = .ok (.iload_n 3, 1) := by decide +kernel
theorem dX10_taken_93 : decode cX10_taken 93 = .ok (.iaload, 1) := by decide +kernel
theorem dX10_taken_94 : decode cX10_taken 94 = .ok (.invokevirtual 103, 3) := by decide +kernel
theorem dX10_taken_97 : decode cX10_taken 97 = .ok (.ireturn, 1) := by decide +kernel
theorem dX10_copy_0 : decode cX10_copy 0 = .ok (.aload_n 0, 1) := by decide +kernel
theorem dX10_copy_1 : decode cX10_copy 1 = .ok (.iload_n 1, 1) := by decide +kernel
theorem dX10_copy_2 : decode cX10_copy 2 = .ok (.invokevirtual 335, 3) := by decide +kernel
theorem dX10_copy_5 : decode cX10_copy 5 = .ok (.astore 6, 2) := by decide +kernel
theorem dX10_copy_7 : decode cX10_copy 7 = .ok (.aload_n 0, 1) := by decide +kernel
theorem dX10_copy_8 : decode cX10_copy 8 = .ok (.iload_n 3, 1) := by decide +kernel
theorem dX10_copy_9 : decode cX10_copy 9 = .ok (.invokevirtual 335, 3) := by decide +kernel
theorem dX10_copy_12 : decode cX10_copy 12 = .ok (.astore 7, 2) := by decide +kernel
theorem dX10_copy_14 : decode cX10_copy 14 = .ok (.aload 6, 2) := by decide +kernel
theorem dX10_copy_16 : decode cX10_copy 16 = .ok (.ifnull 8, 3) := by decide +kernel
theorem dX10_copy_19 : decode cX10_copy 19 = .ok (.aload 7, 2) := by decide +kernel
theorem dX10_copy_21 : decode cX10_copy 21 = .ok (.ifnonnull 9, 3) := by decide +kernel
theorem dX10_copy_24 : decode cX10_copy 24 = .ok (.aload_n 0, 1) := by decide +kernel
theorem dX10_copy_25 : decode cX10_copy 25 = .ok (.iconst 1, 1) := by decide +kernel
theorem dX10_copy_26 : decode cX10_copy 26 = .ok (.invokevirtual 83, 3) := by decide +kernel
theorem dX10_copy_29 : decode cX10_copy 29 = .ok (.ireturn, 1) := by decide +kernel
theorem dX10_copy_30 : decode cX10_copy 30 = .ok (.aload 6, 2) := by decide +kernel
theorem dX10_copy_32 : decode cX10_copy 32 = .ok (.getfield 344, 3) := by decide +kernel
theorem dX10_copy_35 : decode cX10_copy 35 = .ok (.iconst 3, 1) := by decide +kernel
theorem dX10_copy_36 : decode cX10_copy 36 = .ok (.if_icmp .ne 12, 3) := by decide +kernel
theorem dX10_copy_39 : decode cX10_copy 39 = .ok (.aload 7, 2) := by decide +kernel
theorem dX10_copy_41 : decode cX10_copy 41 = .ok (.getfield 344, 3) := by decide +kernel
theorem dX10_copy_44 : decode cX10_copy 44 = .ok (.iconst 3, 1) := by decide +kernel
theorem dX10_copy_45 : decode cX10_copy 45 = .ok (.if_icmp .eq 10, 3) := by decide +kernel
theorem dX10_copy_48 : decode cX10_copy 48 = .ok (.aload_n 0, 1) := by decide +kernel
theorem dX10_copy_49 : decode cX10_copy 49 = .ok (.bipush 6, 2) := by decide +kernel
theorem dX10_copy_51 : decode cX10_copy 51 = .ok (.invokevirtual 83, 3) := by decide +kernel
theorem dX10_copy_54 : decode cX10_copy 54 = .ok (.ireturn, 1) := by decide +kernel
theorem dX10_copy_55 : decode cX10_copy 55 = .ok (.aload 6, 2) := by decide +kernel
theorem dX10_copy_57 : decode cX10_copy 57 = .ok (.getfield 263, 3) := by decide +kernel
theorem dX10_copy_60 : decode cX10_copy 60 = .ok (.iload_n 2, 1) := by decide +kernel
theorem dX10_copy_61 : decode cX10_copy 61 = .ok (.iload 5, 2) := by decide +kernel
theorem dX10_copy_63 : decode cX10_copy 63 = .ok (.invokevirtual 350, 3) := by decide +kernel
theorem dX10_copy_66 : decode cX10_copy 66 = .ok (.ifCond .eq 18, 3) := by decide +kernel
theorem dX10_copy_69 : decode cX10_copy 69 = .ok (.aload 7, 2) := by decide +kernel
theorem dX10_copy_71 : decode cX10_copy 71 = .ok (.getfield 263, 3) := by decide +kernel
theorem dX10_copy_74 : decode cX10_copy 74 = .ok (.iload 4, 2) := by decide +kernel
theorem dX10_copy_76 : decode cX10_copy 76 = .ok (.iload 5, 2) := by decide +kernel
theorem dX10_copy_78 : decode cX10_copy 78 = .ok (.invokevirtual 350, 3) := by decide +kernel
theorem dX10_copy_81 : decode cX10_copy 81 = .ok (.ifCond .ne 9, 3) := by decide +kernel
theorem dX10_copy_84 : decode cX10_copy 84 = .ok (.aload_n 0, 1) := by decide +kernel
theorem dX10_copy_85 : decode cX10_copy 85 = .ok (.iconst 2, 1) := by decide +kernel
theorem dX10_copy_86 : decode cX10_copy 86 = .ok (.invokevirtual 83, 3) := by decide +kernel
theorem dX10_copy_89 : decode cX10_copy 89 = .ok (.ireturn, 1) := by decide +kernel
theorem dX10_copy_90 : decode cX10_copy 90 = .ok (.aload_n 0, 1) := by decide +kernel
theorem dX10_copy_91 : decode cX10_copy 91 = .ok (.getfield 49, 3) := by decide +kernel
theorem dX10_copy_94 : decode cX10_copy 94 = .ok (.bipush 6, 2) := by decide +kernel
theorem dX10_copy_96 : decode cX10_copy 96 = .ok (.iload_n 3, 1) := by decide +kernel
theorem dX10_copy_97 : decode cX10_copy 97 = .ok (.iconst 0, 1) := by decide +kernel
theorem dX10_copy_98 : decode cX10_copy 98 = .ok (.invokevirtual 99, 3) := by decide +kernel
theorem dX10_copy_101 : decode cX10_copy 101 = .ok (.getfield 257, 3) := by decide +kernel
theorem dX10_copy_104 : decode cX10_copy 104 = .ok (.aload 7, 2) := by decide +kernel
theorem dX10_copy_106 : decode cX10_copy 106 = .ok (.invokevirtual 341, 3) := by decide +kernel
theorem dX10_copy_109 : decode cX10_copy 109 = .ok (.aload 7, 2) := by decide +kernel
theorem dX10_copy_111 : decode cX10_copy 111 = .ok (.getfield 263, 3) := by decide +kernel
theorem dX10_copy_114 : decode cX10_copy 114 = .ok (.iload 4, 2) := by decide +kernel
theorem dX10_copy_116 : decode cX10_copy 116 = .ok (.aload 6, 2) := by decide +kernel
theorem dX10_copy_118 : decode cX10_copy 118 = .ok (.getfield 263, 3) := by decide +kernel
theorem dX10_copy_121 : decode cX10_copy 121 = .ok (.iload_n 2, 1) := by decide +kernel
theorem dX10_copy_122 : decode cX10_copy 122 = .ok (.iload 5, 2) := by decide +kernel
theorem dX10_copy_124 : decode cX10_copy 124 = .ok (.invokevirtual 353, 3) := by decide +kernel
theorem dX10_copy_127 : decode cX10_copy 127 = .ok (.aload_n 0, 1) := by decide +kernel
theorem dX10_copy_128 : decode cX10_copy 128 = .ok (.iconst 1, 1) := by decide +kernel
theorem dX10_copy_129 : decode cX10_copy 129 = .ok (.invokevirtual 103, 3) := by decide +kernel
theorem dX10_copy_132 : decode cX10_copy 132 = .ok (.ireturn, 1) := by decide +kernel
theorem dX10_use_0 : decode cX10_use 0 = .ok (.aload_n 0, 1) := by decide +kernel
theorem dX10_use_1 : decode cX10_use 1 = .ok (.iload_n 1, 1) := by decide +kernel
theorem dX10_use_2 : decode cX10_use 2 = .ok (.invokevirtual 335, 3) := by decide +kernel
theorem dX10_use_5 : decode cX10_use 5 = .ok (.astore_n 2, 1) := by decide +kernel
theorem dX10_use_6 : decode cX10_use 6 = .ok (.aload_n 2, 1) := by decide +kernel
theorem dX10_use_7 : decode cX10_use 7 = .ok (.ifnonnull 9, 3) := by decide +kernel
theorem dX10_use_10 : decode cX10_use 10 = .ok (.aload_n 0, 1) := by decide +kernel
theorem dX10_use_11 : decode cX10_use 11 = .ok (.iconst 1, 1) := by decide +kernel
theorem dX10_use_12 : decode cX10_use 12 = .ok (.invokevirtual 83, 3) := by decide +kernel
theorem dX10_use_15 : decode cX10_use 15 = .ok (.ireturn, 1) := by decide +kernel
theorem dX10_use_16 : decode cX10_use 16 = .ok (.aload_n 2, 1) := by decide +kernel
theorem dX10_use_17 : decode cX10_use 17 = .ok (.getfield 344, 3) := by decide +kernel
theorem dX10_use_20 : decode cX10_use 20 = .ok (.iconst 3, 1) := by decide +kernel
theorem dX10_use_21 : decode cX10_use 21 = .ok (.if_icmp .eq 10, 3) := by decide +kernel
theorem dX10_use_24 : decode cX10_use 24 = .ok (.aload_n 0, 1) := by decide +kernel
theorem dX10_use_25 : decode cX10_use 25 = .ok (.bipush 6, 2) := by decide +kernel
theorem dX10_use_27 : decode cX10_use 27 = .ok (.invokevirtual 83, 3) := by decide +kernel
theorem dX10_use_30 : decode cX10_use 30 = .ok (.ireturn, 1) := by decide +kernel
theorem dX10_use_31 : decode cX10_use 31 = .ok (.aload_n 2, 1) := by decide +kernel
theorem dX10_use_32 : decode cX10_use 32 = .ok (.getfield 263, 3) := by decide +kernel
theorem dX10_use_35 : decode cX10_use 35 = .ok (.invokevirtual 274, 3) := by decide +kernel
theorem dX10_use_38 : decode cX10_use 38 = .ok (.ifCond .ne 9, 3) := by decide +kernel
theorem dX10_use_41 : decode cX10_use 41 = .ok (.aload_n 0, 1) := by decide +kernel
theorem dX10_use_42 : decode cX10_use 42 = .ok (.iconst 5, 1) := by decide +kernel
theorem dX10_use_43 : decode cX10_use 43 = .ok (.invokevirtual 83, 3) := by decide +kernel
theorem dX10_use_46 : decode cX10_use 46 = .ok (.ireturn, 1) := by decide +kernel
theorem dX10_use_47 : decode cX10_use 47 = .ok (.aload_n 0, 1) := by decide +kernel
theorem dX10_use_48 : decode cX10_use 48 = .ok (.getfield 49, 3) := by decide +kernel
theorem dX10_use_51 : decode cX10_use 51 = .ok (.iconst 5, 1) := by decide +kernel
theorem dX10_use_52 : decode cX10_use 52 = .ok (.iconst 0, 1) := by decide +kernel
theorem dX10_use_53 : decode cX10_use 53 = .ok (.iconst 0, 1) := by decide +kernel
theorem dX10_use_54 : decode cX10_use 54 = .ok (.invokevirtual 99, 3) := by decide +kernel
theorem dX10_use_57 : decode cX10_use 57 = .ok (.getfield 257, 3) := by decide +kernel
theorem dX10_use_60 : decode cX10_use 60 = .ok (.getfield 263, 3) := by decide +kernel
theorem dX10_use_63 : decode cX10_use 63 = .ok (.aload_n 0, 1) := by decide +kernel
theorem dX10_use_64 : decode cX10_use 64 = .ok (.getfield 36, 3) := by decide +kernel
theorem dX10_use_67 : decode cX10_use 67 = .ok (.invokevirtual 264, 3) := by decide +kernel
theorem dX10_use_70 : decode cX10_use 70 = .ok (.aload_n 0, 1) := by decide +kernel
theorem dX10_use_71 : decode cX10_use 71 = .ok (.getfield 36, 3) := by decide +kernel
theorem dX10_use_74 : decode cX10_use 74 = .ok (.aload_n 2, 1) := by decide +kernel
theorem dX10_use_75 : decode cX10_use 75 = .ok (.getfield 263, 3) := by decide +kernel
theorem dX10_use_78 : decode cX10_use 78 = .ok (.invokevirtual 264, 3) := by decide +kernel
theorem dX10_use_81 : decode cX10_use 81 = .ok (.aload_n 0, 1) := by decide +kernel
theorem dX10_use_82 : decode cX10_use 82 = .ok (.iconst 1, 1) := by decide +kernel
theorem dX10_use_83 : decode cX10_use 83 = .ok (.invokevirtual 103, 3) := by decide +kernel
theorem dX10_use_86 : decode cX10_use 86 = .ok (.ireturn, 1) := by decide +kernel
theorem dX10_undo_0 : decode cX10_undo 0 = .ok (.aload_n 0, 1) := by decide +kernel
theorem dX10_undo_1 : decode cX10_undo 1 = .ok (.getfield 49, 3) := by decide +kernel
theorem dX10_undo_4 : decode cX10_undo 4 = .ok (.invokevirtual 357, 3) := by decide +kernel
theorem dX10_undo_7 : decode cX10_undo 7 = .ok (.astore_n 1, 1) := by decide +kernel
theorem dX10_undo_8 : decode cX10_undo 8 = .ok (.aload_n 1, 1) := by decide +kernel
theorem dX10_undo_9 : decode cX10_undo 9 = .ok (.ifnonnull 5, 3) := by decide +kernel
theorem dX10_undo_12 : decode cX10_undo 12 = .ok (.iconst 0, 1) := by decide +kernel
theorem dX10_undo_13 : decode cX10_undo 13 = .ok (.ireturn, 1) := by decide +kernel
theorem dX10_undo_14 : decode cX10_undo 14 = .ok (.aload_n 0, 1) := by decide +kernel
theorem dX10_undo_15 : decode cX10_undo 15 = .ok (.aload_n 1, 1) := by decide +kernel
theorem dX10_undo_16 : decode cX10_undo 16 = .ok (.invokevirtual 361, 3) := by decide +kernel
theorem dX10_undo_19 : decode cX10_undo 19 = .ok (.iconst 1, 1) := by decide +kernel
theorem dX10_undo_20 : decode cX10_undo 20 = .ok (.ireturn, 1) := by decide +kernel
theorem dX10_size_0 : decode cX10_size 0 = .ok (.iload_n 1, 1) := by decide +kernel
theorem dX10_size_1 : decode cX10_size 1 = .ok (.tableswitch 69 0 4 #[35, 43, 48, 53, 61], 35) := by decide +kernel
theorem dX10_size_36 : decode cX10_size 36 = .ok (.aload_n 0, 1) := by decide +kernel
theorem dX10_size_37 : decode cX10_size 37 = .ok (.getfield 10, 3) := by decide +kernel
theorem dX10_size_40 : decode cX10_size 40 = .ok (.getfield 87, 3) := by decide +kernel
theorem dX10_size_43 : decode cX10_size 43 = .ok (.ireturn, 1) := by decide +kernel
theorem dX10_size_44 : decode cX10_size 44 = .ok (.aload_n 0, 1) := by decide +kernel
theorem dX10_size_45 : decode cX10_size 45 = .ok (.getfield 22, 3) := by decide +kernel
theorem dX10_size_48 : decode cX10_size 48 = .ok (.ireturn, 1) := by decide +kernel
theorem dX10_size_49 : decode cX10_size 49 = .ok (.aload_n 0, 1) := by decide +kernel
theorem dX10_size_50 : decode cX10_size 50 = .ok (.getfield 30, 3) := by decide +kernel
theorem dX10_size_53 : decode cX10_size 53 = .ok (.ireturn, 1) := by decide +kernel
theorem dX10_size_54 : decode cX10_size 54 = .ok (.aload_n 0, 1) := by decide +kernel
theorem dX10_size_55 : decode cX10_size 55 = .ok (.getfield 49, 3) := by decide +kernel
theorem dX10_size_58 : decode cX10_size 58 = .ok (.getfield 365, 3) := by decide +kernel
theorem dX10_size_61 : decode cX10_size 61 = .ok (.ireturn, 1) := by decide +kernel
theorem dX10_size_62 : decode cX10_size 62 = .ok (.aload_n 0, 1) := by decide +kernel
theorem dX10_size_63 : decode cX10_size 63 = .ok (.getfield 56, 3) := by decide +kernel
theorem dX10_size_66 : decode cX10_size 66 = .ok (.getfield 322, 3) := by decide +kernel
theorem dX10_size_69 : decode cX10_size 69 = .ok (.ireturn, 1) := by decide +kernel
theorem dX10_size_70 : decode cX10_size 70 = .ok (.iconst (-1), 1) := by decide +kernel
theorem dX10_size_71 : decode cX10_size 71 = .ok (.ireturn, 1) := by decide +kernel
theorem dX10_status_0 : decode cX10_status 0 = .ok (.aload_n 0, 1) := by decide +kernel
theorem dX10_status_1 : decode cX10_status 1 = .ok (.getfield 74, 3) := by decide +kernel
theorem dX10_status_4 : decode cX10_status 4 = .ok (.ireturn, 1) := by decide +kernel
theorem dX10_placeAt_0 : decode cX10_placeAt 0 = .ok (.iload_n 1, 1) := by decide +kernel
theorem dX10_placeAt_1 : decode cX10_placeAt 1 = .ok (.ifCond .lt 9, 3) := by decide +kernel
theorem dX10_placeAt_4 : decode cX10_placeAt 4 = .ok (.iload_n 1, 1) := by decide +kernel
theorem dX10_placeAt_5 : decode cX10_placeAt 5 = .ok (.bipush 16, 2) := by decide +kernel
theorem dX10_placeAt_7 : decode cX10_placeAt 7 = .ok (.if_icmp .lt 5, 3) := by decide +kernel
theorem dX10_placeAt_10 : decode cX10_placeAt 10 = .ok (.aconst_null, 1) := by decide +kernel
theorem dX10_placeAt_11 : decode cX10_placeAt 11 = .ok (.areturn, 1) := by decide +kernel
theorem dX10_placeAt_12 : decode cX10_placeAt 12 = .ok (.aload_n 0, 1) := by decide +kernel
theorem dX10_placeAt_13 : decode cX10_placeAt 13 = .ok (.getfield 42, 3) := by decide +kernel
theorem dX10_placeAt_16 : decode cX10_placeAt 16 = .ok (.iload_n 1, 1) := by decide +kernel
theorem dX10_placeAt_17 : decode cX10_placeAt 17 = .ok (.aaload, 1) := by decide +kernel
theorem dX10_placeAt_18 : decode cX10_placeAt 18 = .ok (.areturn, 1) := by decide +kernel
theorem dX10_takeBack_0 : decode cX10_takeBack 0 = .ok (.aload_n 1, 1) := by decide +kernel
theorem dX10_takeBack_1 : decode cX10_takeBack 1 = .ok (.getfield 368, 3) := by decide +kernel
theorem dX10_takeBack_4 : decode cX10_takeBack 4 = .ok (.tableswitch 186 0 5 #[40, 59, 92, 103, 136, 169], 40) := by decide +kernel
theorem dX10_takeBack_44 : decode cX10_takeBack 44 = .ok (.aload_n 0, 1) := by decide +kernel
theorem dX10_takeBack_45 : decode cX10_takeBack 45 = .ok (.getfield 10, 3) := by decide +kernel
theorem dX10_takeBack_48 : decode cX10_takeBack 48 = .ok (.aload_n 1, 1) := by decide +kernel
theorem dX10_takeBack_49 : decode cX10_takeBack 49 = .ok (.getfield 369, 3) := by decide +kernel
theorem dX10_takeBack_52 : decode cX10_takeBack 52 = .ok (.putfield 87, 3) := by decide +kernel
theorem dX10_takeBack_55 : decode cX10_takeBack 55 = .ok (.aload_n 0, 1) := by decide +kernel
theorem dX10_takeBack_56 : decode cX10_takeBack 56 = .ok (.iconst 0, 1) := by decide +kernel
theorem dX10_takeBack_57 : decode cX10_takeBack 57 = .ok (.putfield 30, 3) := by decide +kernel
theorem dX10_takeBack_60 : decode cX10_takeBack 60 = .ok (.goto 135, 3) := by decide +kernel
theorem dX10_takeBack_63 : decode cX10_takeBack 63 = .ok (.aload_n 0, 1) := by decide +kernel
theorem dX10_takeBack_64 : decode cX10_takeBack 64 = .ok (.getfield 10, 3) := by decide +kernel
theorem dX10_takeBack_67 : decode cX10_takeBack 67 = .ok (.aload_n 1, 1) := by decide +kernel
theorem dX10_takeBack_68 : decode cX10_takeBack 68 = .ok (.getfield 369, 3) := by decide +kernel
theorem dX10_takeBack_71 : decode cX10_takeBack 71 = .ok (.invokevirtual 106, 3) := by decide +kernel
theorem dX10_takeBack_74 : decode cX10_takeBack 74 = .ok (.ifCond .eq 121, 3) := by decide +kernel
theorem dX10_takeBack_77 : decode cX10_takeBack 77 = .ok (.aload_n 0, 1) := by decide +kernel
theorem dX10_takeBack_78 : decode cX10_takeBack 78 = .ok (.getfield 10, 3) := by decide +kernel
theorem dX10_takeBack_81 : decode cX10_takeBack 81 = .ok (.getfield 93, 3) := by decide +kernel
theorem dX10_takeBack_84 : decode cX10_takeBack 84 = .ok (.aload_n 1, 1) := by decide +kernel
theorem dX10_takeBack_85 : decode cX10_takeBack 85 = .ok (.getfield 369, 3) := by decide +kernel
theorem dX10_takeBack_88 : decode cX10_takeBack 88 = .ok (.aload_n 1, 1) := by decide +kernel
theorem dX10_takeBack_89 : decode cX10_takeBack 89 = .ok (.getfield 372, 3) := by decide +kernel
theorem dX10_takeBack_92 : decode cX10_takeBack 92 = .ok (.iastore, 1) := by decide +kernel
theorem dX10_takeBack_93 : decode cX10_takeBack 93 = .ok (.goto 102, 3) := by decide +kernel
theorem dX10_takeBack_96 : decode cX10_takeBack 96 = .ok (.aload_n 0, 1) := by decide +kernel
theorem dX10_takeBack_97 : decode cX10_takeBack 97 = .ok (.aload_n 1, 1) := by decide +kernel
theorem dX10_takeBack_98 : decode cX10_takeBack 98 = .ok (.getfield 369, 3) := by decide +kernel
theorem dX10_takeBack_101 : decode cX10_takeBack 101 = .ok (.putfield 22, 3) := by decide +kernel
theorem dX10_takeBack_104 : decode cX10_takeBack 104 = .ok (.goto 91, 3) := by decide +kernel
theorem dX10_takeBack_107 : decode cX10_takeBack 107 = .ok (.aload_n 0, 1) := by decide +kernel
theorem dX10_takeBack_108 : decode cX10_takeBack 108 = .ok (.getfield 10, 3) := by decide +kernel
theorem dX10_takeBack_111 : decode cX10_takeBack 111 = .ok (.aload_n 1, 1) := by decide +kernel
theorem dX10_takeBack_112 : decode cX10_takeBack 112 = .ok (.getfield 369, 3) := by decide +kernel
theorem dX10_takeBack_115 : decode cX10_takeBack 115 = .ok (.invokevirtual 106, 3) := by decide +kernel
theorem dX10_takeBack_118 : decode cX10_takeBack 118 = .ok (.ifCond .eq 77, 3) := by decide +kernel
theorem dX10_takeBack_121 : decode cX10_takeBack 121 = .ok (.aload_n 0, 1) := by decide +kernel
theorem dX10_takeBack_122 : decode cX10_takeBack 122 = .ok (.getfield 10, 3) := by decide +kernel
theorem dX10_takeBack_125 : decode cX10_takeBack 125 = .ok (.getfield 96, 3) := by decide +kernel
theorem dX10_takeBack_128 : decode cX10_takeBack 128 = .ok (.aload_n 1, 1) := by decide +kernel
theorem dX10_takeBack_129 : decode cX10_takeBack 129 = .ok (.getfield 369, 3) := by decide +kernel
theorem dX10_takeBack_132 : decode cX10_takeBack 132 = .ok (.aload_n 1, 1) := by decide +kernel
theorem dX10_takeBack_133 : decode cX10_takeBack 133 = .ok (.getfield 372, 3) := by decide +kernel
theorem dX10_takeBack_136 : decode cX10_takeBack 136 = .ok (.iastore, 1) := by decide +kernel
theorem dX10_takeBack_137 : decode cX10_takeBack 137 = .ok (.goto 58, 3) := by decide +kernel
theorem dX10_takeBack_140 : decode cX10_takeBack 140 = .ok (.aload_n 0, 1) := by decide +kernel
theorem dX10_takeBack_141 : decode cX10_takeBack 141 = .ok (.getfield 36, 3) := by decide +kernel
theorem dX10_takeBack_144 : decode cX10_takeBack 144 = .ok (.aload_n 1, 1) := by decide +kernel
theorem dX10_takeBack_145 : decode cX10_takeBack 145 = .ok (.getfield 369, 3) := by decide +kernel
theorem dX10_takeBack_148 : decode cX10_takeBack 148 = .ok (.invokevirtual 271, 3) := by decide +kernel
theorem dX10_takeBack_151 : decode cX10_takeBack 151 = .ok (.ifCond .eq 44, 3) := by decide +kernel
theorem dX10_takeBack_154 : decode cX10_takeBack 154 = .ok (.aload_n 0, 1) := by decide +kernel
theorem dX10_takeBack_155 : decode cX10_takeBack 155 = .ok (.getfield 36, 3) := by decide +kernel
theorem dX10_takeBack_158 : decode cX10_takeBack 158 = .ok (.getfield 277, 3) := by decide +kernel
theorem dX10_takeBack_161 : decode cX10_takeBack 161 = .ok (.aload_n 1, 1) := by decide +kernel
theorem dX10_takeBack_162 : decode cX10_takeBack 162 = .ok (.getfield 369, 3) := by decide +kernel
theorem dX10_takeBack_165 : decode cX10_takeBack 165 = .ok (.aload_n 1, 1) := by decide +kernel
theorem dX10_takeBack_166 : decode cX10_takeBack 166 = .ok (.getfield 372, 3) := by decide +kernel
theorem dX10_takeBack_169 : decode cX10_takeBack 169 = .ok (.iastore, 1) := by decide +kernel
theorem dX10_takeBack_170 : decode cX10_takeBack 170 = .ok (.goto 25, 3) := by decide +kernel
theorem dX10_takeBack_173 : decode cX10_takeBack 173 = .ok (.aload_n 0, 1) := by decide +kernel
theorem dX10_takeBack_174 : decode cX10_takeBack 174 = .ok (.getfield 36, 3) := by decide +kernel
theorem dX10_takeBack_177 : decode cX10_takeBack 177 = .ok (.aload_n 1, 1) := by decide +kernel
theorem dX10_takeBack_178 : decode cX10_takeBack 178 = .ok (.getfield 257, 3) := by decide +kernel
theorem dX10_takeBack_181 : decode cX10_takeBack 181 = .ok (.getfield 263, 3) := by decide +kernel
theorem dX10_takeBack_184 : decode cX10_takeBack 184 = .ok (.invokevirtual 264, 3) := by decide +kernel
theorem dX10_takeBack_187 : decode cX10_takeBack 187 = .ok (.goto 8, 3) := by decide +kernel
theorem dX10_takeBack_190 : decode cX10_takeBack 190 = .ok (.aload_n 0, 1) := by decide +kernel
theorem dX10_takeBack_191 : decode cX10_takeBack 191 = .ok (.aload_n 1, 1) := by decide +kernel
theorem dX10_takeBack_192 : decode cX10_takeBack 192 = .ok (.invokevirtual 375, 3) := by decide +kernel
theorem dX10_takeBack_195 : decode cX10_takeBack 195 = .ok (.return_, 1) := by decide +kernel
theorem dX10_takeBackPlace_0 : decode cX10_takeBackPlace 0 = .ok (.aload_n 0, 1) := by decide +kernel
theorem dX10_takeBackPlace_1 : decode cX10_takeBackPlace 1 = .ok (.aload_n 1, 1) := by decide +kernel
theorem dX10_takeBackPlace_2 : decode cX10_takeBackPlace 2 = .ok (.getfield 369, 3) := by decide +kernel
theorem dX10_takeBackPlace_5 : decode cX10_takeBackPlace 5 = .ok (.invokevirtual 335, 3) := by decide +kernel
theorem dX10_takeBackPlace_8 : decode cX10_takeBackPlace 8 = .ok (.astore_n 2, 1) := by decide +kernel
theorem dX10_takeBackPlace_9 : decode cX10_takeBackPlace 9 = .ok (.aload_n 2, 1) := by decide +kernel
theorem dX10_takeBackPlace_10 : decode cX10_takeBackPlace 10 = .ok (.ifnull 11, 3) := by decide +kernel
theorem dX10_takeBackPlace_13 : decode cX10_takeBackPlace 13 = .ok (.aload_n 2, 1) := by decide +kernel
theorem dX10_takeBackPlace_14 : decode cX10_takeBackPlace 14 = .ok (.aload_n 1, 1) := by decide +kernel
theorem dX10_takeBackPlace_15 : decode cX10_takeBackPlace 15 = .ok (.getfield 257, 3) := by decide +kernel
theorem dX10_takeBackPlace_18 : decode cX10_takeBackPlace 18 = .ok (.invokevirtual 341, 3) := by decide +kernel
theorem dX10_takeBackPlace_21 : decode cX10_takeBackPlace 21 = .ok (.return_, 1) := by decide +kernel
theorem dX10_refuse_0 : decode cX10_refuse 0 = .ok (.aload_n 0, 1) := by decide +kernel
theorem dX10_refuse_1 : decode cX10_refuse 1 = .ok (.iload_n 1, 1) := by decide +kernel
theorem dX10_refuse_2 : decode cX10_refuse 2 = .ok (.putfield 74, 3) := by decide +kernel
theorem dX10_refuse_5 : decode cX10_refuse 5 = .ok (.iconst (-1), 1) := by decide +kernel
theorem dX10_refuse_6 : decode cX10_refuse 6 = .ok (.ireturn, 1) := by decide +kernel
theorem dX10_refuseFalse_0 : decode cX10_refuseFalse 0 = .ok (.aload_n 0, 1) := by decide +kernel
theorem dX10_refuseFalse_1 : decode cX10_refuseFalse 1 = .ok (.iload_n 1, 1) := by decide +kernel
theorem dX10_refuseFalse_2 : decode cX10_refuseFalse 2 = .ok (.putfield 74, 3) := by decide +kernel
theorem dX10_refuseFalse_5 : decode cX10_refuseFalse 5 = .ok (.iconst 0, 1) := by decide +kernel
theorem dX10_refuseFalse_6 : decode cX10_refuseFalse 6 = .ok (.ireturn, 1) := by decide +kernel
theorem dX10_accept_0 : decode cX10_accept 0 = .ok (.aload_n 0, 1) := by decide +kernel
theorem dX10_accept_1 : decode cX10_accept 1 = .ok (.iconst 0, 1) := by decide +kernel
theorem dX10_accept_2 : decode cX10_accept 2 = .ok (.putfield 74, 3) := by decide +kernel
theorem dX10_accept_5 : decode cX10_accept 5 = .ok (.iload_n 1, 1) := by decide +kernel
theorem dX10_accept_6 : decode cX10_accept 6 = .ok (.ireturn, 1) := by decide +kernel
theorem dX10_acceptTrue_0 : decode cX10_acceptTrue 0 = .ok (.aload_n 0, 1) := by decide +kernel
theorem dX10_acceptTrue_1 : decode cX10_acceptTrue 1 = .ok (.iconst 0, 1) := by decide +kernel
theorem dX10_acceptTrue_2 : decode cX10_acceptTrue 2 = .ok (.putfield 74, 3) := by decide +kernel
theorem dX10_acceptTrue_5 : decode cX10_acceptTrue 5 = .ok (.iconst 1, 1) := by decide +kernel
theorem dX10_acceptTrue_6 : decode cX10_acceptTrue 6 = .ok (.ireturn, 1) := by decide +kernel
