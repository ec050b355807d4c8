theorem dX11_loadsOf_31 : decode cX11_loadsOf 31 = .ok (.iload_n 1, 1) := by decide +kernel
theorem dX11_loadsOf_32 : decode cX11_loadsOf 32 = .ok (.ishr, 1) := by decide +kernel
theorem dX11_loadsOf_33 : decode cX11_loadsOf 33 = .ok (.iconst 1, 1) := by decide +kernel
theorem dX11_loadsOf_34 : decode cX11_loadsOf 34 = .ok (.iand, 1) := by decide +kernel
theorem dX11_loadsOf_35 : decode cX11_loadsOf 35 = .ok (.iconst 1, 1) := by decide +kernel
theorem dX11_loadsOf_36 : decode cX11_loadsOf 36 = .ok (.if_icmp .ne 14, 3) := by decide +kernel
theorem dX11_loadsOf_39 : decode cX11_loadsOf 39 = .ok (.aload_n 0, 1) := by decide +kernel
theorem dX11_loadsOf_40 : decode cX11_loadsOf 40 = .ok (.getfield 31, 3) := by decide +kernel
theorem dX11_loadsOf_43 : decode cX11_loadsOf 43 = .ok (.iconst 1, 1) := by decide +kernel
theorem dX11_loadsOf_44 : decode cX11_loadsOf 44 = .ok (.iload_n 3, 1) := by decide +kernel
theorem dX11_loadsOf_45 : decode cX11_loadsOf 45 = .ok (.iadd, 1) := by decide +kernel
theorem dX11_loadsOf_46 : decode cX11_loadsOf 46 = .ok (.iaload, 1) := by decide +kernel
theorem dX11_loadsOf_47 : decode cX11_loadsOf 47 = .ok (.goto 4, 3) := by decide +kernel
theorem dX11_loadsOf_50 : decode cX11_loadsOf 50 = .ok (.iconst 0, 1) := by decide +kernel
theorem dX11_loadsOf_51 : decode cX11_loadsOf 51 = .ok (.iadd, 1) := by decide +kernel
theorem dX11_loadsOf_52 : decode cX11_loadsOf 52 = .ok (.istore_n 2, 1) := by decide +kernel
theorem dX11_loadsOf_53 : decode cX11_loadsOf 53 = .ok (.iinc 3 1, 3) := by decide +kernel
theorem dX11_loadsOf_56 : decode cX11_loadsOf 56 = .ok (.goto (-52), 3) := by decide +kernel
theorem dX11_loadsOf_59 : decode cX11_loadsOf 59 = .ok (.aload_n 0, 1) := by decide +kernel
theorem dX11_loadsOf_60 : decode cX11_loadsOf 60 = .ok (.iload_n 2, 1) := by decide +kernel
theorem dX11_loadsOf_61 : decode cX11_loadsOf 61 = .ok (.aload_n 0, 1) := by decide +kernel
theorem dX11_loadsOf_62 : decode cX11_loadsOf 62 = .ok (.invokevirtual 196, 3) := by decide +kernel
theorem dX11_loadsOf_65 : decode cX11_loadsOf 65 = .ok (.aload_n 0, 1) := by decide +kernel
theorem dX11_loadsOf_66 : decode cX11_loadsOf 66 = .ok (.getfield 7, 3) := by decide +kernel
theorem dX11_loadsOf_69 : decode cX11_loadsOf 69 = .ok (.iload_n 1, 1) := by decide +kernel
theorem dX11_loadsOf_70 : decode cX11_loadsOf 70 = .ok (.iaload, 1) := by decide +kernel
theorem dX11_loadsOf_71 : decode cX11_loadsOf 71 = .ok (.imul, 1) := by decide +kernel
theorem dX11_loadsOf_72 : decode cX11_loadsOf 72 = .ok (.invokevirtual 209, 3) := by decide +kernel
theorem dX11_loadsOf_75 : decode cX11_loadsOf 75 = .ok (.return_, 1) := by decide +kernel
theorem dX11_loaded_0 : decode cX11_loaded 0 = .ok (.iconst 0, 1) := by decide +kernel
theorem dX11_loaded_1 : decode cX11_loaded 1 = .ok (.istore_n 1, 1) := by decide +kernel
theorem dX11_loaded_2 : decode cX11_loaded 2 = .ok (.iconst 0, 1) := by decide +kernel
theorem dX11_loaded_3 : decode cX11_loaded 3 = .ok (.istore_n 2, 1) := by decide +kernel
theorem dX11_loaded_4 : decode cX11_loaded 4 = .ok (.iconst 1, 1) := by decide +kernel
theorem dX11_loaded_5 : decode cX11_loaded 5 = .ok (.istore_n 3, 1) := by decide +kernel
theorem dX11_loaded_6 : decode cX11_loaded 6 = .ok (.iconst 0, 1) := by decide +kernel
theorem dX11_loaded_7 : decode cX11_loaded 7 = .ok (.istore 4, 2) := by decide +kernel
theorem dX11_loaded_9 : decode cX11_loaded 9 = .ok (.iload 4, 2) := by decide +kernel
theorem dX11_loaded_11 : decode cX11_loaded 11 = .ok (.aload_n 0, 1) := by decide +kernel
theorem dX11_loaded_12 : decode cX11_loaded 12 = .ok (.getfield 91, 3) := by decide +kernel
theorem dX11_loaded_15 : decode cX11_loaded 15 = .ok (.if_icmp .ge 51, 3) := by decide +kernel
theorem dX11_loaded_18 : decode cX11_loaded 18 = .ok (.aload_n 0, 1) := by decide +kernel
theorem dX11_loaded_19 : decode cX11_loaded 19 = .ok (.iload 4, 2) := by decide +kernel
theorem dX11_loaded_21 : decode cX11_loaded 21 = .ok (.invokevirtual 212, 3) := by decide +kernel
theorem dX11_loaded_24 : decode cX11_loaded 24 = .ok (.aload_n 0, 1) := by decide +kernel
theorem dX11_loaded_25 : decode cX11_loaded 25 = .ok (.getfield 203, 3) := by decide +kernel
theorem dX11_loaded_28 : decode cX11_loaded 28 = .ok (.i2l, 1) := by decide +kernel
theorem dX11_loaded_29 : decode cX11_loaded 29 = .ok (.iload_n 3, 1) := by decide +kernel
theorem dX11_loaded_30 : decode cX11_loaded 30 = .ok (.i2l, 1) := by decide +kernel
theorem dX11_loaded_31 : decode cX11_loaded 31 = .ok (.lmul, 1) := by decide +kernel
theorem dX11_loaded_32 : decode cX11_loaded 32 = .ok (.iload_n 2, 1) := by decide +kernel
theorem dX11_loaded_33 : decode cX11_loaded 33 = .ok (.i2l, 1) := by decide +kernel
theorem dX11_loaded_34 : decode cX11_loaded 34 = .ok (.aload_n 0, 1) := by decide +kernel
theorem dX11_loaded_35 : decode cX11_loaded 35 = .ok (.getfield 206, 3) := by decide +kernel
theorem dX11_loaded_38 : decode cX11_loaded 38 = .ok (.i2l, 1) := by decide +kernel
theorem dX11_loaded_39 : decode cX11_loaded 39 = .ok (.lmul, 1) := by decide +kernel
theorem dX11_loaded_40 : decode cX11_loaded 40 = .ok (.lcmp, 1) := by decide +kernel
theorem dX11_loaded_41 : decode cX11_loaded 41 = .ok (.ifCond .gt 6, 3) := by decide +kernel
theorem dX11_loaded_44 : decode cX11_loaded 44 = .ok (.goto 16, 3) := by decide +kernel
theorem dX11_loaded_47 : decode cX11_loaded 47 = .ok (.iload 4, 2) := by decide +kernel
theorem dX11_loaded_49 : decode cX11_loaded 49 = .ok (.istore_n 1, 1) := by decide +kernel
theorem dX11_loaded_50 : decode cX11_loaded 50 = .ok (.aload_n 0, 1) := by decide +kernel
theorem dX11_loaded_51 : decode cX11_loaded 51 = .ok (.getfield 203, 3) := by decide +kernel
theorem dX11_loaded_54 : decode cX11_loaded 54 = .ok (.istore_n 2, 1) := by decide +kernel
theorem dX11_loaded_55 : decode cX11_loaded 55 = .ok (.aload_n 0, 1) := by decide +kernel
theorem dX11_loaded_56 : decode cX11_loaded 56 = .ok (.getfield 206, 3) := by decide +kernel
theorem dX11_loaded_59 : decode cX11_loaded 59 = .ok (.istore_n 3, 1) := by decide +kernel
theorem dX11_loaded_60 : decode cX11_loaded 60 = .ok (.iinc 4 1, 3) := by decide +kernel
theorem dX11_loaded_63 : decode cX11_loaded 63 = .ok (.goto (-54), 3) := by decide +kernel
theorem dX11_loaded_66 : decode cX11_loaded 66 = .ok (.aload_n 0, 1) := by decide +kernel
theorem dX11_loaded_67 : decode cX11_loaded 67 = .ok (.iload_n 2, 1) := by decide +kernel
theorem dX11_loaded_68 : decode cX11_loaded 68 = .ok (.putfield 203, 3) := by decide +kernel
theorem dX11_loaded_71 : decode cX11_loaded 71 = .ok (.aload_n 0, 1) := by decide +kernel
theorem dX11_loaded_72 : decode cX11_loaded 72 = .ok (.iload_n 3, 1) := by decide +kernel
theorem dX11_loaded_73 : decode cX11_loaded 73 = .ok (.putfield 206, 3) := by decide +kernel
theorem dX11_loaded_76 : decode cX11_loaded 76 = .ok (.iload_n 1, 1) := by decide +kernel
theorem dX11_loaded_77 : decode cX11_loaded 77 = .ok (.ireturn, 1) := by decide +kernel
theorem dX11_load_0 : decode cX11_load 0 = .ok (.aload_n 0, 1) := by decide +kernel
theorem dX11_load_1 : decode cX11_load 1 = .ok (.iconst 0, 1) := by decide +kernel
theorem dX11_load_2 : decode cX11_load 2 = .ok (.putfield 84, 3) := by decide +kernel
theorem dX11_load_5 : decode cX11_load 5 = .ok (.aload_n 0, 1) := by decide +kernel
theorem dX11_load_6 : decode cX11_load 6 = .ok (.getfield 104, 3) := by decide +kernel
theorem dX11_load_9 : decode cX11_load 9 = .ok (.ifCond .eq 13, 3) := by decide +kernel
theorem dX11_load_12 : decode cX11_load 12 = .ok (.aload_n 0, 1) := by decide +kernel
theorem dX11_load_13 : decode cX11_load 13 = .ok (.iload_n 1, 1) := by decide +kernel
theorem dX11_load_14 : decode cX11_load 14 = .ok (.iconst 0, 1) := by decide +kernel
theorem dX11_load_15 : decode cX11_load 15 = .ok (.iconst 3, 1) := by decide +kernel
theorem dX11_load_16 : decode cX11_load 16 = .ok (.invokevirtual 97, 3) := by decide +kernel
theorem dX11_load_19 : decode cX11_load 19 = .ok (.ifCond .ne 5, 3) := by decide +kernel
theorem dX11_load_22 : decode cX11_load 22 = .ok (.iconst (-1), 1) := by decide +kernel
theorem dX11_load_23 : decode cX11_load 23 = .ok (.ireturn, 1) := by decide +kernel
theorem dX11_load_24 : decode cX11_load 24 = .ok (.aload_n 0, 1) := by decide +kernel
theorem dX11_load_25 : decode cX11_load 25 = .ok (.invokevirtual 215, 3) := by decide +kernel
theorem dX11_load_28 : decode cX11_load 28 = .ok (.istore_n 2, 1) := by decide +kernel
theorem dX11_load_29 : decode cX11_load 29 = .ok (.iload_n 1, 1) := by decide +kernel
theorem dX11_load_30 : decode cX11_load 30 = .ok (.ifCond .ne 12, 3) := by decide +kernel
theorem dX11_load_33 : decode cX11_load 33 = .ok (.aload_n 0, 1) := by decide +kernel
theorem dX11_load_34 : decode cX11_load 34 = .ok (.getfield 31, 3) := by decide +kernel
theorem dX11_load_37 : decode cX11_load 37 = .ok (.iconst 0, 1) := by decide +kernel
theorem dX11_load_38 : decode cX11_load 38 = .ok (.iaload, 1) := by decide +kernel
theorem dX11_load_39 : decode cX11_load 39 = .ok (.goto 28, 3) := by decide +kernel
theorem dX11_load_42 : decode cX11_load 42 = .ok (.iload_n 1, 1) := by decide +kernel
theorem dX11_load_43 : decode cX11_load 43 = .ok (.iconst 1, 1) := by decide +kernel
theorem dX11_load_44 : decode cX11_load 44 = .ok (.if_icmp .ne 10, 3) := by decide +kernel
theorem dX11_load_47 : decode cX11_load 47 = .ok (.aload_n 0, 1) := by decide +kernel
theorem dX11_load_48 : decode cX11_load 48 = .ok (.getfield 203, 3) := by decide +kernel
theorem dX11_load_51 : decode cX11_load 51 = .ok (.goto 16, 3) := by decide +kernel
theorem dX11_load_54 : decode cX11_load 54 = .ok (.iload_n 1, 1) := by decide +kernel
theorem dX11_load_55 : decode cX11_load 55 = .ok (.iconst 2, 1) := by decide +kernel
theorem dX11_load_56 : decode cX11_load 56 = .ok (.if_icmp .ne 10, 3) := by decide +kernel
theorem dX11_load_59 : decode cX11_load 59 = .ok (.aload_n 0, 1) := by decide +kernel
theorem dX11_load_60 : decode cX11_load 60 = .ok (.getfield 206, 3) := by decide +kernel
theorem dX11_load_63 : decode cX11_load 63 = .ok (.goto 4, 3) := by decide +kernel
theorem dX11_load_66 : decode cX11_load 66 = .ok (.iload_n 2, 1) := by decide +kernel
theorem dX11_load_67 : decode cX11_load 67 = .ok (.ireturn, 1) := by decide +kernel
theorem dX11_loadOf_0 : decode cX11_loadOf 0 = .ok (.aload_n 0, 1) := by decide +kernel
theorem dX11_loadOf_1 : decode cX11_loadOf 1 = .ok (.iconst 0, 1) := by decide +kernel
theorem dX11_loadOf_2 : decode cX11_loadOf 2 = .ok (.putfield 84, 3) := by decide +kernel
theorem dX11_loadOf_5 : decode cX11_loadOf 5 = .ok (.aload_n 0, 1) := by decide +kernel
theorem dX11_loadOf_6 : decode cX11_loadOf 6 = .ok (.getfield 104, 3) := by decide +kernel
theorem dX11_loadOf_9 : decode cX11_loadOf 9 = .ok (.ifCond .eq 18, 3) := by decide +kernel
theorem dX11_loadOf_12 : decode cX11_loadOf 12 = .ok (.aload_n 0, 1) := by decide +kernel
theorem dX11_loadOf_13 : decode cX11_loadOf 13 = .ok (.iload_n 1, 1) := by decide +kernel
theorem dX11_loadOf_14 : decode cX11_loadOf 14 = .ok (.iconst 0, 1) := by decide +kernel
theorem dX11_loadOf_15 : decode cX11_loadOf 15 = .ok (.aload_n 0, 1) := by decide +kernel
theorem dX11_loadOf_16 : decode cX11_loadOf 16 = .ok (.getfield 91, 3) := by decide +kernel
theorem dX11_loadOf_19 : decode cX11_loadOf 19 = .ok (.iconst 1, 1) := by decide +kernel
theorem dX11_loadOf_20 : decode cX11_loadOf 20 = .ok (.isub, 1) := by decide +kernel
theorem dX11_loadOf_21 : decode cX11_loadOf 21 = .ok (.invokevirtual 97, 3) := by decide +kernel
theorem dX11_loadOf_24 : decode cX11_loadOf 24 = .ok (.ifCond .ne 5, 3) := by decide +kernel
theorem dX11_loadOf_27 : decode cX11_loadOf 27 = .ok (.iconst (-1), 1) := by decide +kernel
theorem dX11_loadOf_28 : decode cX11_loadOf 28 = .ok (.ireturn, 1) := by decide +kernel
theorem dX11_loadOf_29 : decode cX11_loadOf 29 = .ok (.aload_n 0, 1) := by decide +kernel
theorem dX11_loadOf_30 : decode cX11_loadOf 30 = .ok (.iload_n 1, 1) := by decide +kernel
theorem dX11_loadOf_31 : decode cX11_loadOf 31 = .ok (.invokevirtual 212, 3) := by decide +kernel
theorem dX11_loadOf_34 : decode cX11_loadOf 34 = .ok (.iload_n 2, 1) := by decide +kernel
theorem dX11_loadOf_35 : decode cX11_loadOf 35 = .ok (.ifCond .eq 10, 3) := by decide +kernel
theorem dX11_loadOf_38 : decode cX11_loadOf 38 = .ok (.aload_n 0, 1) := by decide +kernel
theorem dX11_loadOf_39 : decode cX11_loadOf 39 = .ok (.getfield 206, 3) := by decide +kernel
theorem dX11_loadOf_42 : decode cX11_loadOf 42 = .ok (.goto 7, 3) := by decide +kernel
theorem dX11_loadOf_45 : decode cX11_loadOf 45 = .ok (.aload_n 0, 1) := by decide +kernel
theorem dX11_loadOf_46 : decode cX11_loadOf 46 = .ok (.getfield 203, 3) := by decide +kernel
theorem dX11_loadOf_49 : decode cX11_loadOf 49 = .ok (.ireturn, 1) := by decide +kernel
theorem dX11_weight_0 : decode cX11_weight 0 = .ok (.aload_n 0, 1) := by decide +kernel
theorem dX11_weight_1 : decode cX11_weight 1 = .ok (.iconst 0, 1) := by decide +kernel
theorem dX11_weight_2 : decode cX11_weight 2 = .ok (.putfield 84, 3) := by decide +kernel
theorem dX11_weight_5 : decode cX11_weight 5 = .ok (.aload_n 0, 1) := by decide +kernel
theorem dX11_weight_6 : decode cX11_weight 6 = .ok (.iload_n 1, 1) := by decide +kernel
theorem dX11_weight_7 : decode cX11_weight 7 = .ok (.iconst 0, 1) := by decide +kernel
theorem dX11_weight_8 : decode cX11_weight 8 = .ok (.aload_n 0, 1) := by decide +kernel
theorem dX11_weight_9 : decode cX11_weight 9 = .ok (.getfield 91, 3) := by decide +kernel
theorem dX11_weight_12 : decode cX11_weight 12 = .ok (.iconst 1, 1) := by decide +kernel
theorem dX11_weight_13 : decode cX11_weight 13 = .ok (.isub, 1) := by decide +kernel
theorem dX11_weight_14 : decode cX11_weight 14 = .ok (.invokevirtual 97, 3) := by decide +kernel
theorem dX11_weight_17 : decode cX11_weight 17 = .ok (.ifCond .ne 9, 3) := by decide +kernel
theorem dX11_weight_20 : decode cX11_weight 20 = .ok (.aload_n 0, 1) := by decide +kernel
theorem dX11_weight_21 : decode cX11_weight 21 = .ok (.iconst 1, 1) := by decide +kernel
theorem dX11_weight_22 : decode cX11_weight 22 = .ok (.invokevirtual 119, 3) := by decide +kernel
theorem dX11_weight_25 : decode cX11_weight 25 = .ok (.ireturn, 1) := by decide +kernel
theorem dX11_weight_26 : decode cX11_weight 26 = .ok (.aload_n 0, 1) := by decide +kernel
theorem dX11_weight_27 : decode cX11_weight 27 = .ok (.iload_n 2, 1) := by decide +kernel
theorem dX11_weight_28 : decode cX11_weight 28 = .ok (.iconst 0, 1) := by decide +kernel
theorem dX11_weight_29 : decode cX11_weight 29 = .ok (.sipush 1000, 3) := by decide +kernel
theorem dX11_weight_32 : decode cX11_weight 32 = .ok (.invokevirtual 97, 3) := by decide +kernel
theorem dX11_weight_35 : decode cX11_weight 35 = .ok (.ifCond .ne 9, 3) := by decide +kernel
theorem dX11_weight_38 : decode cX11_weight 38 = .ok (.aload_n 0, 1) := by decide +kernel
theorem dX11_weight_39 : decode cX11_weight 39 = .ok (.iconst 2, 1) := by decide +kernel
theorem dX11_weight_40 : decode cX11_weight 40 = .ok (.invokevirtual 119, 3) := by decide +kernel
theorem dX11_weight_43 : decode cX11_weight 43 = .ok (.ireturn, 1) := by decide +kernel
theorem dX11_weight_44 : decode cX11_weight 44 = .ok (.aload_n 0, 1) := by decide +kernel
theorem dX11_weight_45 : decode cX11_weight 45 = .ok (.iconst 3, 1) := by decide +kernel
theorem dX11_weight_46 : decode cX11_weight 46 = .ok (.iload_n 1, 1) := by decide +kernel
theorem dX11_weight_47 : decode cX11_weight 47 = .ok (.aload_n 0, 1) := by decide +kernel
theorem dX11_weight_48 : decode cX11_weight 48 = .ok (.getfield 16, 3) := by decide +kernel
theorem dX11_weight_51 : decode cX11_weight 51 = .ok (.iload_n 1, 1) := by decide +kernel
theorem dX11_weight_52 : decode cX11_weight 52 = .ok (.iaload, 1) := by decide +kernel
theorem dX11_weight_53 : decode cX11_weight 53 = .ok (.invokevirtual 108, 3) := by decide +kernel
theorem dX11_weight_56 : decode cX11_weight 56 = .ok (.aload_n 0, 1) := by decide +kernel
theorem dX11_weight_57 : decode cX11_weight 57 = .ok (.getfield 16, 3) := by decide +kernel
theorem dX11_weight_60 : decode cX11_weight 60 = .ok (.iload_n 1, 1) := by decide +kernel
theorem dX11_weight_61 : decode cX11_weight 61 = .ok (.iload_n 2, 1) := by decide +kernel
theorem dX11_weight_62 : decode cX11_weight 62 = .ok (.iastore, 1) := by decide +kernel
theorem dX11_weight_63 : decode cX11_weight 63 = .ok (.iconst 1, 1) := by decide +kernel
theorem dX11_weight_64 : decode cX11_weight 64 = .ok (.ireturn, 1) := by decide +kernel
theorem dX11_boundOf_0 : decode cX11_boundOf 0 = .ok (.iconst 0, 1) := by decide +kernel
theorem dX11_boundOf_1 : decode cX11_boundOf 1 = .ok (.istore_n 2, 1) := by decide +kernel
theorem dX11_boundOf_2 : decode cX11_boundOf 2 = .ok (.iconst 0, 1) := by decide +kernel
theorem dX11_boundOf_3 : decode cX11_boundOf 3 = .ok (.istore_n 3, 1) := by decide +kernel
theorem dX11_boundOf_4 : decode cX11_boundOf 4 = .ok (.iload_n 3, 1) := by decide +kernel
theorem dX11_boundOf_5 : decode cX11_boundOf 5 = .ok (.aload_n 0, 1) := by decide +kernel
theorem dX11_boundOf_6 : decode cX11_boundOf 6 = .ok (.getfield 91, 3) := by decide +kernel
theorem dX11_boundOf_9 : decode cX11_boundOf 9 = .ok (.if_icmp .ge 25, 3) := by decide +kernel
theorem dX11_boundOf_12 : decode cX11_boundOf 12 = .ok (.iload_n 2, 1) := by decide +kernel
theorem dX11_boundOf_13 : decode cX11_boundOf 13 = .ok (.aload_n 0, 1) := by decide +kernel
theorem dX11_boundOf_14 : decode cX11_boundOf 14 = .ok (.getfield 16, 3) := by decide +kernel
theorem dX11_boundOf_17 : decode cX11_boundOf 17 = .ok (.iload_n 3, 1) := by decide +kernel
theorem dX11_boundOf_18 : decode cX11_boundOf 18 = .ok (.iaload, 1) := by decide +kernel
theorem dX11_boundOf_19 : decode cX11_boundOf 19 = .ok (.aload_n 0, 1) := by decide +kernel
theorem dX11_boundOf_20 : decode cX11_boundOf 20 = .ok (.getfield 7, 3) := by decide +kernel
theorem dX11_boundOf_23 : decode cX11_boundOf 23 = .ok (.iload_n 3, 1) := by decide +kernel
theorem dX11_boundOf_24 : decode cX11_boundOf 24 = .ok (.iaload, 1) := by decide +kernel
theorem dX11_boundOf_25 : decode cX11_boundOf 25 = .ok (.imul, 1) := by decide +kernel
theorem dX11_boundOf_26 : decode cX11_boundOf 26 = .ok (.iadd, 1) := by decide +kernel
theorem dX11_boundOf_27 : decode cX11_boundOf 27 = .ok (.istore_n 2, 1) := by decide +kernel
theorem dX11_boundOf_28 : decode cX11_boundOf 28 = .ok (.iinc 3 1, 3) := by decide +kernel
theorem dX11_boundOf_31 : decode cX11_boundOf 31 = .ok (.goto (-27), 3) := by decide +kernel
theorem dX11_boundOf_34 : decode cX11_boundOf 34 = .ok (.sipush 16000, 3) := by decide +kernel
theorem dX11_boundOf_37 : decode cX11_boundOf 37 = .ok (.istore_n 3, 1) := by decide +kernel
theorem dX11_boundOf_38 : decode cX11_boundOf 38 = .ok (.iconst 0, 1) := by decide +kernel
theorem dX11_boundOf_39 : decode cX11_boundOf 39 = .ok (.istore 4, 2) := by decide +kernel
theorem dX11_boundOf_41 : decode cX11_boundOf 41 = .ok (.iload 4, 2) := by decide +kernel
theorem dX11_boundOf_43 : decode cX11_boundOf 43 = .ok (.aload_n 0, 1) := by decide +kernel
theorem dX11_boundOf_44 : decode cX11_boundOf 44 = .ok (.getfield 25, 3) := by decide +kernel
theorem dX11_boundOf_47 : decode cX11_boundOf 47 = .ok (.iload_n 1, 1) := by decide +kernel
theorem dX11_boundOf_48 : decode cX11_boundOf 48 = .ok (.iaload, 1) := by decide +kernel
theorem dX11_boundOf_49 : decode cX11_boundOf 49 = .ok (.if_icmp .ge 75, 3) := by decide +kernel
theorem dX11_boundOf_52 : decode cX11_boundOf 52 = .ok (.iconst 0, 1) := by decide +kernel
theorem dX11_boundOf_53 : decode cX11_boundOf 53 = .ok (.istore 5, 2) := by decide +kernel
theorem dX11_boundOf_55 : decode cX11_boundOf 55 = .ok (.iconst 0, 1) := by decide +kernel
theorem dX11_boundOf_56 : decode cX11_boundOf 56 = .ok (.istore 6, 2) := by decide +kernel
theorem dX11_boundOf_58 : decode cX11_boundOf 58 = .ok (.iload 6, 2) := by decide +kernel
theorem dX11_boundOf_60 : decode cX11_boundOf 60 = .ok (.aload_n 0, 1) := by decide +kernel
theorem dX11_boundOf_61 : decode cX11_boundOf 61 = .ok (.getfield 91, 3) := by decide +kernel
theorem dX11_boundOf_64 : decode cX11_boundOf 64 = .ok (.if_icmp .ge 41, 3) := by decide +kernel
theorem dX11_boundOf_67 : decode cX11_boundOf 67 = .ok (.iload 5, 2) := by decide +kernel
theorem dX11_boundOf_69 : decode cX11_boundOf 69 = .ok (.aload_n 0, 1) := by decide +kernel
theorem dX11_boundOf_70 : decode cX11_boundOf 70 = .ok (.iload_n 1, 1) := by decide +kernel
theorem dX11_boundOf_71 : decode cX11_boundOf 71 = .ok (.iload 4, 2) := by decide +kernel
theorem dX11_boundOf_73 : decode cX11_boundOf 73 = .ok (.invokevirtual 136, 3) := by decide +kernel
theorem dX11_boundOf_76 : decode cX11_boundOf 76 = .ok (.iload 6, 2) := by decide +kernel
theorem dX11_boundOf_78 : decode cX11_boundOf 78 = .ok (.ishr, 1) := by decide +kernel
theorem dX11_boundOf_79 : decode cX11_boundOf 79 = .ok (.iconst 1, 1) := by decide +kernel
theorem dX11_boundOf_80 : decode cX11_boundOf 80 = .ok (.iand, 1) := by decide +kernel
theorem dX11_boundOf_81 : decode cX11_boundOf 81 = .ok (.iconst 1, 1) := by decide +kernel
theorem dX11_boundOf_82 : decode cX11_boundOf 82 = .ok (.if_icmp .ne 13, 3) := by decide +kernel
theorem dX11_boundOf_85 : decode cX11_boundOf 85 = .ok (.aload_n 0, 1) := by decide +kernel
theorem dX11_boundOf_86 : decode cX11_boundOf 86 = .ok (.getfield 16, 3) := by decide +kernel
theorem dX11_boundOf_89 : decode cX11_boundOf 89 = .ok (.iload 6, 2) := by decide +kernel
theorem dX11_boundOf_91 : decode cX11_boundOf 91 = .ok (.iaload, 1) := by decide +kernel
theorem dX11_boundOf_92 : decode cX11_boundOf 92 = .ok (.goto 4, 3) := by decide +kernel
theorem dX11_boundOf_95 : decode cX11_boundOf 95 = .ok (.iconst 0, 1) := by decide +kernel
theorem dX11_boundOf_96 : decode cX11_boundOf 96 = .ok (.iadd, 1) := by decide +kernel
theorem dX11_boundOf_97 : decode cX11_boundOf 97 = .ok (.istore 5, 2) := by decide +kernel
theorem dX11_boundOf_99 : decode cX11_boundOf 99 = .ok (.iinc 6 1, 3) := by decide +kernel
theorem dX11_boundOf_102 : decode cX11_boundOf 102 = .ok (.goto (-44), 3) := by decide +kernel
theorem dX11_boundOf_105 : decode cX11_boundOf 105 = .ok (.iload 5, 2) := by decide +kernel
theorem dX11_boundOf_107 : decode cX11_boundOf 107 = .ok (.iload_n 3, 1) := by decide +kernel
theorem dX11_boundOf_108 : decode cX11_boundOf 108 = .ok (.if_icmp .ge 8, 3) := by decide +kernel
theorem dX11_boundOf_111 : decode cX11_boundOf 111 = .ok (.iload 5, 2) := by decide +kernel
theorem dX11_boundOf_113 : decode cX11_boundOf 113 = .ok (.goto 4, 3) := by decide +kernel
theorem dX11_boundOf_116 : decode cX11_boundOf 116 = .ok (.iload_n 3, 1) := by decide +kernel
theorem dX11_boundOf_117 : decode cX11_boundOf 117 = .ok (.istore_n 3, 1) := by decide +kernel
theorem dX11_boundOf_118 : decode cX11_boundOf 118 = .ok (.iinc 4 1, 3) := by decide +kernel
theorem dX11_boundOf_121 : decode cX11_boundOf 121 = .ok (.goto (-80), 3) := by decide +kernel
theorem dX11_boundOf_124 : decode cX11_boundOf 124 = .ok (.iload_n 2, 1) := by decide +kernel
theorem dX11_boundOf_125 : decode cX11_boundOf 125 = .ok (.ifCond .ne 12, 3) := by decide +kernel
theorem dX11_boundOf_128 : decode cX11_boundOf 128 = .ok (.aload_n 0, 1) := by decide +kernel
theorem dX11_boundOf_129 : decode cX11_boundOf 129 = .ok (.iconst 0, 1) := by decide +kernel
theorem dX11_boundOf_130 : decode cX11_boundOf 130 = .ok (.iconst 1, 1) := by decide +kernel
theorem dX11_boundOf_131 : decode cX11_boundOf 131 = .ok (.invokevirtual 209, 3) := by decide +kernel
theorem dX11_boundOf_134 : decode cX11_boundOf 134 = .ok (.goto 9, 3) := by decide +kernel
theorem dX11_boundOf_137 : decode cX11_boundOf 137 = .ok (.aload_n 0, 1) := by decide +kernel
theorem dX11_boundOf_138 : decode cX11_boundOf 138 = .ok (.iload_n 3, 1) := by decide +kernel
theorem dX11_boundOf_139 : decode cX11_boundOf 139 = .ok (.iload_n 2, 1) := by decide +kernel
theorem dX11_boundOf_140 : decode cX11_boundOf 140 = .ok (.invokevirtual 209, 3) := by decide +kernel
theorem dX11_boundOf_143 : decode cX11_boundOf 143 = .ok (.return_, 1) := by decide +kernel
theorem dX11_bound_0 : decode cX11_bound 0 = .ok (.aload_n 0, 1) := by decide +kernel
theorem dX11_bound_1 : decode cX11_bound 1 = .ok (.iconst 0, 1) := by decide +kernel
theorem dX11_bound_2 : decode cX11_bound 2 = .ok (.putfield 84, 3) := by decide +kernel
theorem dX11_bound_5 : decode cX11_bound 5 = .ok (.aload_n 0, 1) := by decide +kernel
theorem dX11_bound_6 : decode cX11_bound 6 = .ok (.iload_n 1, 1) := by decide +kernel
theorem dX11_bound_7 : decode cX11_bound 7 = .ok (.invokevirtual 163, 3) := by decide +kernel
theorem dX11_bound_10 : decode cX11_bound 10 = .ok (.ifCond .ne 9, 3) := by decide +kernel
theorem dX11_bound_13 : decode cX11_bound 13 = .ok (.aload_n 0, 1) := by decide +kernel
theorem dX11_bound_14 : decode cX11_bound 14 = .ok (.iconst 1, 1) := by decide +kernel
theorem dX11_bound_15 : decode cX11_bound 15 = .ok (.invokevirtual 115, 3) := by decide +kernel
theorem dX11_bound_18 : decode cX11_bound 18 = .ok (.ireturn, 1) := by decide +kernel
theorem dX11_bound_19 : decode cX11_bound 19 = .ok (.aload_n 0, 1) := by decide +kernel
theorem dX11_bound_20 : decode cX11_bound 20 = .ok (.iconst 0, 1) := by decide +kernel
theorem dX11_bound_21 : decode cX11_bound 21 = .ok (.putfield 88, 3) := by decide +kernel
theorem dX11_bound_24 : decode cX11_bound 24 = .ok (.aload_n 0, 1) := by decide +kernel
theorem dX11_bound_25 : decode cX11_bound 25 = .ok (.iload_n 1, 1) := by decide +kernel
theorem dX11_bound_26 : decode cX11_bound 26 = .ok (.invokevirtual 218, 3) := by decide +kernel
theorem dX11_bound_29 : decode cX11_bound 29 = .ok (.iload_n 2, 1) := by decide +kernel
theorem dX11_bound_30 : decode cX11_bound 30 = .ok (.ifCond .eq 10, 3) := by decide +kernel
theorem dX11_bound_33 : decode cX11_bound 33 = .ok (.aload_n 0, 1) := by decide +kernel
theorem dX11_bound_34 : decode cX11_bound 34 = .ok (.getfield 206, 3) := by decide +kernel
theorem dX11_bound_37 : decode cX11_bound 37 = .ok (.goto 7, 3) := by decide +kernel
theorem dX11_bound_40 : decode cX11_bound 40 = .ok (.aload_n 0, 1) := by decide +kernel
theorem dX11_bound_41 : decode cX11_bound 41 = .ok (.getfield 203, 3) := by decide +kernel
theorem dX11_bound_44 : decode cX11_bound 44 = .ok (.ireturn, 1) := by decide +kernel
theorem dX11_proved_0 : decode cX11_proved 0 = .ok (.aload_n 0, 1) := by decide +kernel
theorem dX11_proved_1 : decode cX11_proved 1 = .ok (.iconst 0, 1) := by decide +kernel
theorem dX11_proved_2 : decode cX11_proved 2 = .ok (.putfield 84, 3) := by decide +kernel
theorem dX11_proved_5 : decode cX11_proved 5 = .ok (.aload_n 0, 1) := by decide +kernel
theorem dX11_proved_6 : decode cX11_proved 6 = .ok (.getfield 104, 3) := by decide +kernel
theorem dX11_proved_9 : decode cX11_proved 9 = .ok (.ifCond .ne 9, 3) := by decide +kernel
theorem dX11_proved_12 : decode cX11_proved 12 = .ok (.aload_n 0, 1) := by decide +kernel
theorem dX11_proved_13 : decode cX11_proved 13 = .ok (.iconst 1, 1) := by decide +kernel
theorem dX11_proved_14 : decode cX11_proved 14 = .ok (.invokevirtual 115, 3) := by decide +kernel
theorem dX11_proved_17 : decode cX11_proved 17 = .ok (.ireturn, 1) := by decide +kernel
theorem dX11_proved_18 : decode cX11_proved 18 = .ok (.aload_n 0, 1) := by decide +kernel
theorem dX11_proved_19 : decode cX11_proved 19 = .ok (.iconst 0, 1) := by decide +kernel
theorem dX11_proved_20 : decode cX11_proved 20 = .ok (.putfield 88, 3) := by decide +kernel
theorem dX11_proved_23 : decode cX11_proved 23 = .ok (.aload_n 0, 1) := by decide +kernel
theorem dX11_proved_24 : decode cX11_proved 24 = .ok (.invokevirtual 215, 3) := by decide +kernel
theorem dX11_proved_27 : decode cX11_proved 27 = .ok (.istore_n 1, 1) := by decide +kernel
theorem dX11_proved_28 : decode cX11_proved 28 = .ok (.aload_n 0, 1) := by decide +kernel
theorem dX11_proved_29 : decode cX11_proved 29 = .ok (.getfield 203, 3) := by decide +kernel
theorem dX11_proved_32 : decode cX11_proved 32 = .ok (.istore_n 2, 1) := by decide +kernel
theorem dX11_proved_33 : decode cX11_proved 33 = .ok (.aload_n 0, 1) := by decide +kernel
theorem dX11_proved_34 : decode cX11_proved 34 = .ok (.getfield 206, 3) := by decide +kernel
theorem dX11_proved_37 : decode cX11_proved 37 = .ok (.istore_n 3, 1) := by decide +kernel
theorem dX11_proved_38 : decode cX11_proved 38 = .ok (.aload_n 0, 1) := by decide +kernel
theorem dX11_proved_39 : decode cX11_proved 39 = .ok (.aload_n 0, 1) := by decide +kernel
theorem dX11_proved_40 : decode cX11_proved 40 = .ok (.getfield 31, 3) := by decide +kernel
theorem dX11_proved_43 : decode cX11_proved 43 = .ok (.iconst 0, 1) := by decide +kernel
theorem dX11_proved_44 : decode cX11_proved 44 = .ok (.iaload, 1) := by decide +kernel
theorem dX11_proved_45 : decode cX11_proved 45 = .ok (.invokevirtual 218, 3) := by decide +kernel
theorem dX11_proved_48 : decode cX11_proved 48 = .ok (.iload_n 2, 1) := by decide +kernel
theorem dX11_proved_49 : decode cX11_proved 49 = .ok (.aload_n 0, 1) := by decide +kernel
theorem dX11_proved_50 : decode cX11_proved 50 = .ok (.getfield 203, 3) := by decide +kernel
theorem dX11_proved_53 : decode cX11_proved 53 = .ok (.if_icmp .ne 15, 3) := by decide +kernel
theorem dX11_proved_56 : decode cX11_proved 56 = .ok (.iload_n 3, 1) := by decide +kernel
theorem dX11_proved_57 : decode cX11_proved 57 = .ok (.aload_n 0, 1) := by decide +kernel
theorem dX11_proved_58 : decode cX11_proved 58 = .ok (.getfield 206, 3) := by decide +kernel
theorem dX11_proved_61 : decode cX11_proved 61 = .ok (.if_icmp .ne 7, 3) := by decide +kernel
theorem dX11_proved_64 : decode cX11_proved 64 = .ok (.iconst 0, 1) := by decide +kernel
theorem dX11_proved_65 : decode cX11_proved 65 = .ok (.goto 4, 3) := by decide +kernel
theorem dX11_proved_68 : decode cX11_proved 68 = .ok (.iconst 1, 1) := by decide +kernel
theorem dX11_proved_69 : decode cX11_proved 69 = .ok (.ireturn, 1) := by decide +kernel
theorem dX11_witness_0 : decode cX11_witness 0 = .ok (.aload_n 0, 1) := by decide +kernel
theorem dX11_witness_1 : decode cX11_witness 1 = .ok (.iconst 0, 1) := by decide +kernel
theorem dX11_witness_2 : decode cX11_witness 2 = .ok (.putfield 84, 3) := by decide +kernel
theorem dX11_witness_5 : decode cX11_witness 5 = .ok (.aload_n 0, 1) := by decide +kernel
theorem dX11_witness_6 : decode cX11_witness 6 = .ok (.iload_n 1, 1) := by decide +kernel
theorem dX11_witness_7 : decode cX11_witness 7 = .ok (.invokevirtual 163, 3) := by decide +kernel
theorem dX11_witness_10 : decode cX11_witness 10 = .ok (.ifCond .ne 9, 3) := by decide +kernel
theorem dX11_witness_13 : decode cX11_witness 13 = .ok (.aload_n 0, 1) := by decide +kernel
theorem dX11_witness_14 : decode cX11_witness 14 = .ok (.iconst 1, 1) := by decide +kernel
theorem dX11_witness_15 : decode cX11_witness 15 = .ok (.invokevirtual 115, 3) := by decide +kernel
theorem dX11_witness_18 : decode cX11_witness 18 = .ok (.ireturn, 1) := by decide +kernel
theorem dX11_witness_19 : decode cX11_witness 19 = .ok (.aload_n 0, 1) := by decide +kernel
theorem dX11_witness_20 : decode cX11_witness 20 = .ok (.iconst 0, 1) := by decide +kernel
theorem dX11_witness_21 : decode cX11_witness 21 = .ok (.putfield 88, 3) := by decide +kernel
theorem dX11_witness_24 : decode cX11_witness 24 = .ok (.aload_n 0, 1) := by decide +kernel
theorem dX11_witness_25 : decode cX11_witness 25 = .ok (.iconst 0, 1) := by decide +kernel
theorem dX11_witness_26 : decode cX11_witness 26 = .ok (.putfield 221, 3) := by decide +kernel
theorem dX11_witness_29 : decode cX11_witness 29 = .ok (.iconst 0, 1) := by decide +kernel
theorem dX11_witness_30 : decode cX11_witness 30 = .ok (.istore_n 2, 1) := by decide +kernel
theorem dX11_witness_31 : decode cX11_witness 31 = .ok (.iload_n 2, 1) := by decide +kernel
theorem dX11_witness_32 : decode cX11_witness 32 = .ok (.aload_n 0, 1) := by decide +kernel
theorem dX11_witness_33 : decode cX11_witness 33 = .ok (.getfield 25, 3) := by decide +kernel
theorem dX11_witness_36 : decode cX11_witness 36 = .ok (.iload_n 1, 1) := by decide +kernel
theorem dX11_witness_37 : decode cX11_witness 37 = .ok (.iaload, 1) := by decide +kernel
theorem dX11_witness_38 : decode cX11_witness 38 = .ok (.if_icmp .ge 102, 3) := by decide +kernel
theorem dX11_witness_41 : decode cX11_witness 41 = .ok (.iload_n 2, 1) := by decide +kernel
theorem dX11_witness_42 : decode cX11_witness 42 = .ok (.iconst 1, 1) := by decide +kernel
theorem dX11_witness_43 : decode cX11_witness 43 = .ok (.iadd, 1) := by decide +kernel
theorem dX11_witness_44 : decode cX11_witness 44 = .ok (.istore_n 3, 1) := by decide +kernel
theorem dX11_witness_45 : decode cX11_witness 45 = .ok (.iload_n 3, 1) := by decide +kernel
theorem dX11_witness_46 : decode cX11_witness 46 = .ok (.aload_n 0, 1) := by decide +kernel
theorem dX11_witness_47 : decode cX11_witness 47 = .ok (.getfield 25, 3) := by decide +kernel
theorem dX11_witness_50 : decode cX11_witness 50 = .ok (.iload_n 1, 1) := by decide +kernel
theorem dX11_witness_51 : decode cX11_witness 51 = .ok (.iaload, 1) := by decide +kernel
theorem dX11_witness_52 : decode cX11_witness 52 = .ok (.if_icmp .ge 82, 3) := by decide +kernel
theorem dX11_witness_55 : decode cX11_witness 55 = .ok (.aload_n 0, 1) := by decide +kernel
theorem dX11_witness_56 : decode cX11_witness 56 = .ok (.iload_n 1, 1) := by decide +kernel
theorem dX11_witness_57 : decode cX11_witness 57 = .ok (.iload_n 2, 1) := by decide +kernel
theorem dX11_witness_58 : decode cX11_witness 58 = .ok (.invokevirtual 136, 3) := by decide +kernel
theorem dX11_witness_61 : decode cX11_witness 61 = .ok (.aload_n 0, 1) := by decide +kernel
theorem dX11_witness_62 : decode cX11_witness 62 = .ok (.iload_n 1, 1) := by decide +kernel
theorem dX11_witness_63 : decode cX11_witness 63 = .ok (.iload_n 3, 1) := by decide +kernel
theorem dX11_witness_64 : decode cX11_witness 64 = .ok (.invokevirtual 136, 3) := by decide +kernel
theorem dX11_witness_67 : decode cX11_witness 67 = .ok (.iand, 1) := by decide +kernel
theorem dX11_witness_68 : decode cX11_witness 68 = .ok (.istore 4, 2) := by decide +kernel
theorem dX11_witness_70 : decode cX11_witness 70 = .ok (.iconst 0, 1) := by decide +kernel
theorem dX11_witness_71 : decode cX11_witness 71 = .ok (.istore 5, 2) := by decide +kernel
theorem dX11_witness_73 : decode cX11_witness 73 = .ok (.iload 5, 2) := by decide +kernel
theorem dX11_witness_75 : decode cX11_witness 75 = .ok (.bipush 16, 2) := by decide +kernel
theorem dX11_witness_77 : decode cX11_witness 77 = .ok (.if_icmp .ge 19, 3) := by decide +kernel
theorem dX11_witness_80 : decode cX11_witness 80 = .ok (.iload 4, 2) := by decide +kernel
theorem dX11_witness_82 : decode cX11_witness 82 = .ok (.iload 5, 2) := by decide +kernel
theorem dX11_witness_84 : decode cX11_witness 84 = .ok (.ishr, 1) := by decide +kernel
theorem dX11_witness_85 : decode cX11_witness 85 = .ok (.iconst 1, 1) := by decide +kernel
theorem dX11_witness_86 : decode cX11_witness 86 = .ok (.iand, 1) := by decide +kernel
theorem dX11_witness_87 : decode cX11_witness 87 = .ok (.ifCond .ne 9, 3) := by decide +kernel
theorem dX11_witness_90 : decode cX11_witness 90 = .ok (.iinc 5 1, 3) := by decide +kernel
theorem dX11_witness_93 : decode cX11_witness 93 = .ok (.goto (-20), 3) := by decide +kernel
theorem dX11_witness_96 : decode cX11_witness 96 = .ok (.aload_n 0, 1) := by decide +kernel
theorem dX11_witness_97 : decode cX11_witness 97 = .ok (.getfield 43, 3) := by decide +kernel
theorem dX11_witness_100 : decode cX11_witness 100 = .ok (.aload_n 0, 1) := by decide +kernel
theorem dX11_witness_101 : decode cX11_witness 101 = .ok (.getfield 221, 3) := by decide +kernel
theorem dX11_witness_104 : decode cX11_witness 104 = .ok (.iload 5, 2) := by decide +kernel
theorem dX11_witness_106 : decode cX11_witness 106 = .ok (.bipush 16, 2) := by decide +kernel
theorem dX11_witness_108 : decode cX11_witness 108 = .ok (.if_icmp .ge 8, 3) := by decide +kernel
theorem dX11_witness_111 : decode cX11_witness 111 = .ok (.iload 5, 2) := by decide +kernel
theorem dX11_witness_113 : decode cX11_witness 113 = .ok (.goto 4, 3) := by decide +kernel
theorem dX11_witness_116 : decode cX11_witness 116 = .ok (.iconst (-1), 1) := by decide +kernel
theorem dX11_witness_117 : decode cX11_witness 117 = .ok (.iastore, 1) := by decide +kernel
theorem dX11_witness_118 : decode cX11_witness 118 = .ok (.aload_n 0, 1) := by decide +kernel
theorem dX11_witness_119 : decode cX11_witness 119 = .ok (.dup, 1) := by decide +kernel
theorem dX11_witness_120 : decode cX11_witness 120 = .ok (.getfield 221, 3) := by decide +kernel
theorem dX11_witness_123 : decode cX11_witness 123 = .ok (.iconst 1, 1) := by decide +kernel
theorem dX11_witness_124 : decode cX11_witness 124 = .ok (.iadd, 1) := by decide +kernel
theorem dX11_witness_125 : decode cX11_witness 125 = .ok (.putfield 221, 3) := by decide +kernel
theorem dX11_witness_128 : decode cX11_witness 128 = .ok (.iinc 3 1, 3) := by decide +kernel
theorem dX11_witness_131 : decode cX11_witness 131 = .ok (.goto (-86), 3) := by decide +kernel
theorem dX11_witness_134 : decode cX11_witness 134 = .ok (.iinc 2 1, 3) := by decide +kernel
theorem dX11_witness_137 : decode cX11_witness 137 = .ok (.goto (-106), 3) := by decide +kernel
theorem dX11_witness_140 : decode cX11_witness 140 = .ok (.aload_n 0, 1) := by decide +kernel
theorem dX11_witness_141 : decode cX11_witness 141 = .ok (.getfield 221, 3) := by decide +kernel
theorem dX11_witness_144 : decode cX11_witness 144 = .ok (.ireturn, 1) := by decide +kernel
theorem dX11_names_0 : decode cX11_names 0 = .ok (.aload_n 0, 1) := by decide +kernel
theorem dX11_names_1 : decode cX11_names 1 = .ok (.iconst 0, 1) := by decide +kernel
theorem dX11_names_2 : decode cX11_names 2 = .ok (.putfield 84, 3) := by decide +kernel
theorem dX11_names_5 : decode cX11_names 5 = .ok (.aload_n 0, 1) := by decide +kernel
theorem dX11_names_6 : decode cX11_names 6 = .ok (.iload_n 1, 1) := by decide +kernel
theorem dX11_names_7 : decode cX11_names 7 = .ok (.iconst 0, 1) := by decide +kernel
theorem dX11_names_8 : decode cX11_names 8 = .ok (.aload_n 0, 1) := by decide +kernel
theorem dX11_names_9 : decode cX11_names 9 = .ok (.getfield 221, 3) := by decide +kernel
theorem dX11_names_12 : decode cX11_names 12 = .ok (.iconst 1, 1) := by decide +kernel
theorem dX11_names_13 : decode cX11_names 13 = .ok (.isub, 1) := by decide +kernel
theorem dX11_names_14 : decode cX11_names 14 = .ok (.invokevirtual 97, 3) := by decide +kernel
theorem dX11_names_17 : decode cX11_names 17 = .ok (.ifCond .eq 12, 3) := by decide +kernel
theorem dX11_names_20 : decode cX11_names 20 = .ok (.aload_n 0, 1) := by decide +kernel
theorem dX11_names_21 : decode cX11_names 21 = .ok (.getfield 43, 3) := by decide +kernel
theorem dX11_names_24 : decode cX11_names 24 = .ok (.iload_n 1, 1) := by decide +kernel
theorem dX11_names_25 : decode cX11_names 25 = .ok (.iaload, 1) := by decide +kernel
theorem dX11_names_26 : decode cX11_names 26 = .ok (.goto 5, 3) := by decide +kernel
theorem dX11_names_29 : decode cX11_names 29 = .ok (.bipush (-2), 2) := by decide +kernel
theorem dX11_names_31 : decode cX11_names 31 = .ok (.ireturn, 1) := by decide +kernel
theorem dX11_forge_0 : decode cX11_forge 0 = .ok (.aload_n 0, 1) := by decide +kernel
theorem dX11_forge_1 : decode cX11_forge 1 = .ok (.iconst 0, 1) := by decide +kernel
theorem dX11_forge_2 : decode cX11_forge 2 = .ok (.putfield 84, 3) := by decide +kernel
theorem dX11_forge_5 : decode cX11_forge 5 = .ok (.aload_n 0, 1) := by decide +kernel
theorem dX11_forge_6 : decode cX11_forge 6 = .ok (.iload_n 1, 1) := by decide +kernel
theorem dX11_forge_7 : decode cX11_forge 7 = .ok (.iconst 0, 1) := by decide +kernel
theorem dX11_forge_8 : decode cX11_forge 8 = .ok (.aload_n 0, 1) := by decide +kernel
theorem dX11_forge_9 : decode cX11_forge 9 = .ok (.getfield 221, 3) := by decide +kernel
theorem dX11_forge_12 : decode cX11_forge 12 = .ok (.iconst 1, 1) := by decide +kernel
theorem dX11_forge_13 : decode cX11_forge 13 = .ok (.isub, 1) := by decide +kernel
theorem dX11_forge_14 : decode cX11_forge 14 = .ok (.invokevirtual 97, 3) := by decide +kernel
theorem dX11_forge_17 : decode cX11_forge 17 = .ok (.ifCond .ne 9, 3) := by decide +kernel
theorem dX11_forge_20 : decode cX11_forge 20 = .ok (.aload_n 0, 1) := by decide +kernel
theorem dX11_forge_21 : decode cX11_forge 21 = .ok (.iconst 1, 1) := by decide +kernel
theorem dX11_forge_22 : decode cX11_forge 22 = .ok (.invokevirtual 119, 3) := by decide +kernel
theorem dX11_forge_25 : decode cX11_forge 25 = .ok (.ireturn, 1) := by decide +kernel
theorem dX11_forge_26 : decode cX11_forge 26 = .ok (.aload_n 0, 1) := by decide +kernel
theorem dX11_forge_27 : decode cX11_forge 27 = .ok (.getfield 43, 3) := by decide +kernel
theorem dX11_forge_30 : decode cX11_forge 30 = .ok (.iload_n 1, 1) := by decide +kernel
theorem dX11_forge_31 : decode cX11_forge 31 = .ok (.dup2, 1) := by decide +kernel
theorem dX11_forge_32 : decode cX11_forge 32 = .ok (.iaload, 1) := by decide +kernel
theorem dX11_forge_33 : decode cX11_forge 33 = .ok (.iload_n 2, 1) := by decide +kernel
theorem dX11_forge_34 : decode cX11_forge 34 = .ok (.ixor, 1) := by decide +kernel
theorem dX11_forge_35 : decode cX11_forge 35 = .ok (.iastore, 1) := by decide +kernel
theorem dX11_forge_36 : decode cX11_forge 36 = .ok (.aload_n 0, 1) := by decide +kernel
theorem dX11_forge_37 : decode cX11_forge 37 = .ok (.iconst 0, 1) := by decide +kernel
theorem dX11_forge_38 : decode cX11_forge 38 = .ok (.putfield 88, 3) := by decide +kernel
theorem dX11_forge_41 : decode cX11_forge 41 = .ok (.iconst 1, 1) := by decide +kernel
theorem dX11_forge_42 : decode cX11_forge 42 = .ok (.ireturn, 1) := by decide +kernel
theorem dX11_judge_0 : decode cX11_judge 0 = .ok (.aload_n 0, 1) := by decide +kernel
theorem dX11_judge_1 : decode cX11_judge 1 = .ok (.iconst 0, 1) := by decide +kernel
theorem dX11_judge_2 : decode cX11_judge 2 = .ok (.putfield 84, 3) := by decide +kernel
theorem dX11_judge_5 : decode cX11_judge 5 = .ok (.aload_n 0, 1) := by decide +kernel
theorem dX11_judge_6 : decode cX11_judge 6 = .ok (.iload_n 1, 1) := by decide +kernel
theorem dX11_judge_7 : decode cX11_judge 7 = .ok (.invokevirtual 163, 3) := by decide +kernel
theorem dX11_judge_10 : decode cX11_judge 10 = .ok (.ifCond .ne 9, 3) := by decide +kernel
theorem dX11_judge_13 : decode cX11_judge 13 = .ok (.aload_n 0, 1) := by decide +kernel
theorem dX11_judge_14 : decode cX11_judge 14 = .ok (.iconst 1, 1) := by decide +kernel
theorem dX11_judge_15 : decode cX11_judge 15 = .ok (.invokevirtual 115, 3) := by decide +kernel
theorem dX11_judge_18 : decode cX11_judge 18 = .ok (.ireturn, 1) := by decide +kernel
theorem dX11_judge_19 : decode cX11_judge 19 = .ok (.aload_n 0, 1) := by decide +kernel
theorem dX11_judge_20 : decode cX11_judge 20 = .ok (.iconst 0, 1) := by decide +kernel
theorem dX11_judge_21 : decode cX11_judge 21 = .ok (.putfield 88, 3) := by decide +kernel
theorem dX11_judge_24 : decode cX11_judge 24 = .ok (.aload_n 0, 1) := by decide +kernel
theorem dX11_judge_25 : decode cX11_judge 25 = .ok (.getfield 221, 3) := by decide +kernel
theorem dX11_judge_28 : decode cX11_judge 28 = .ok (.aload_n 0, 1) := by decide +kernel
theorem dX11_judge_29 : decode cX11_judge 29 = .ok (.getfield 25, 3) := by decide +kernel
theorem dX11_judge_32 : decode cX11_judge 32 = .ok (.iload_n 1, 1) := by decide +kernel
theorem dX11_judge_33 : decode cX11_judge 33 = .ok (.iaload, 1) := by decide +kernel
theorem dX11_judge_34 : decode cX11_judge 34 = .ok (.aload_n 0, 1) := by decide +kernel
theorem dX11_judge_35 : decode cX11_judge 35 = .ok (.getfield 25, 3) := by decide +kernel
theorem dX11_judge_38 : decode cX11_judge 38 = .ok (.iload_n 1, 1) := by decide +kernel
theorem dX11_judge_39 : decode cX11_judge 39 = .ok (.iaload, 1) := by decide +kernel
theorem dX11_judge_40 : decode cX11_judge 40 = .ok (.iconst 1, 1) := by decide +kernel
theorem dX11_judge_41 : decode cX11_judge 41 = .ok (.isub, 1) := by decide +kernel
theorem dX11_judge_42 : decode cX11_judge 42 = .ok (.imul, 1) := by decide +kernel
theorem dX11_judge_43 : decode cX11_judge 43 = .ok (.iconst 2, 1) := by decide +kernel
theorem dX11_judge_44 : decode cX11_judge 44 = .ok (.idiv, 1) := by decide +kernel
theorem dX11_judge_45 : decode cX11_judge 45 = .ok (.if_icmp .eq 6, 3) := by decide +kernel
theorem dX11_judge_48 : decode cX11_judge 48 = .ok (.bipush (-3), 2) := by decide +kernel
theorem dX11_judge_50 : decode cX11_judge 50 = .ok (.ireturn, 1) := by decide +kernel
theorem dX11_judge_51 : decode cX11_judge 51 = .ok (.iconst 0, 1) := by decide +kernel
theorem dX11_judge_52 : decode cX11_judge 52 = .ok (.istore_n 2, 1) := by decide +kernel
theorem dX11_judge_53 : decode cX11_judge 53 = .ok (.iconst 0, 1) := by decide +kernel
theorem dX11_judge_54 : decode cX11_judge 54 = .ok (.istore_n 3, 1) := by decide +kernel
theorem dX11_judge_55 : decode cX11_judge 55 = .ok (.iload_n 3, 1) := by decide +kernel
theorem dX11_judge_56 : decode cX11_judge 56 = .ok (.aload_n 0, 1) := by decide +kernel
theorem dX11_judge_57 : decode cX11_judge 57 = .ok (.getfield 25, 3) := by decide +kernel
theorem dX11_judge_60 : decode cX11_judge 60 = .ok (.iload_n 1, 1) := by decide +kernel
theorem dX11_judge_61 : decode cX11_judge 61 = .ok (.iaload, 1) := by decide +kernel
theorem dX11_judge_62 : decode cX11_judge 62 = .ok (.if_icmp .ge 82, 3) := by decide +kernel
theorem dX11_judge_65 : decode cX11_judge 65 = .ok (.iload_n 3, 1) := by decide +kernel
theorem dX11_judge_66 : decode cX11_judge 66 = .ok (.iconst 1, 1) := by decide +kernel
theorem dX11_judge_67 : decode cX11_judge 67 = .ok (.iadd, 1) := by decide +kernel
theorem dX11_judge_68 : decode cX11_judge 68 = .ok (.istore 4, 2) := by decide +kernel
theorem dX11_judge_70 : decode cX11_judge 70 = .ok (.iload 4, 2) := by decide +kernel
theorem dX11_judge_72 : decode cX11_judge 72 = .ok (.aload_n 0, 1) := by decide +kernel
theorem dX11_judge_73 : decode cX11_judge 73 = .ok (.getfield 25, 3) := by decide +kernel
theorem dX11_judge_76 : decode cX11_judge 76 = .ok (.iload_n 1, 1) := by decide +kernel
theorem dX11_judge_77 : decode cX11_judge 77 = .ok (.iaload, 1) := by decide +kernel
theorem dX11_judge_78 : decode cX11_judge 78 = .ok (.if_icmp .ge 60, 3) := by decide +kernel
theorem dX11_judge_81 : decode cX11_judge 81 = .ok (.aload_n 0, 1) := by decide +kernel
theorem dX11_judge_82 : decode cX11_judge 82 = .ok (.iload_n 1, 1) := by decide +kernel
theorem dX11_judge_83 : decode cX11_judge 83 = .ok (.iload_n 3, 1) := by decide +kernel
theorem dX11_judge_84 : decode cX11_judge 84 = .ok (.invokevirtual 136, 3) := by decide +kernel
theorem dX11_judge_87 : decode cX11_judge 87 = .ok (.aload_n 0, 1) := by decide +kernel
theorem dX11_judge_88 : decode cX11_judge 88 = .ok (.iload_n 1, 1) := by decide +kernel
theorem dX11_judge_89 : decode cX11_judge 89 = .ok (.iload 4, 2) := by decide +kernel
theorem dX11_judge_91 : decode cX11_judge 91 = .ok (.invokevirtual 136, 3) := by decide +kernel
theorem dX11_judge_94 : decode cX11_judge 94 = .ok (.iand, 1) := by decide +kernel
theorem dX11_judge_95 : decode cX11_judge 95 = .ok (.istore 5, 2) := by decide +kernel
theorem dX11_judge_97 : decode cX11_judge 97 = .ok (.aload_n 0, 1) := by decide +kernel
theorem dX11_judge_98 : decode cX11_judge 98 = .ok (.aload_n 0, 1) := by decide +kernel
theorem dX11_judge_99 : decode cX11_judge 99 = .ok (.getfield 43, 3) := by decide +kernel
theorem dX11_judge_102 : decode cX11_judge 102 = .ok (.iload_n 2, 1) := by decide +kernel
theorem dX11_judge_103 : decode cX11_judge 103 = .ok (.iaload, 1) := by decide +kernel
theorem dX11_judge_104 : decode cX11_judge 104 = .ok (.iconst 0, 1) := by decide +kernel
theorem dX11_judge_105 : decode cX11_judge 105 = .ok (.bipush 15, 2) := by decide +kernel
theorem dX11_judge_107 : decode cX11_judge 107 = .ok (.invokevirtual 97, 3) := by decide +kernel
theorem dX11_judge_110 : decode cX11_judge 110 = .ok (.ifCond .eq 17, 3) := by decide +kernel
theorem dX11_judge_113 : decode cX11_judge 113 = .ok (.iload 5, 2) := by decide +kernel
theorem dX11_judge_115 : decode cX11_judge 115 = .ok (.aload_n 0, 1) := by decide +kernel
theorem dX11_judge_116 : decode cX11_judge 116 = .ok (.getfield 43, 3) := by decide +kernel
theorem dX11_judge_119 : decode cX11_judge 119 = .ok (.iload_n 2, 1) := by decide +kernel
theorem dX11_judge_120 : decode cX11_judge 120 = .ok (.iaload, 1) := by decide +kernel
theorem dX11_judge_121 : decode cX11_judge 121 = .ok (.ishr, 1) := by decide +kernel
theorem dX11_judge_122 : decode cX11_judge 122 = .ok (.iconst 1, 1) := by decide +kernel
theorem dX11_judge_123 : decode cX11_judge 123 = .ok (.iand, 1) := by decide +kernel
theorem dX11_judge_124 : decode cX11_judge 124 = .ok (.ifCond .ne 5, 3) := by decide +kernel
theorem dX11_judge_127 : decode cX11_judge 127 = .ok (.iload_n 2, 1) := by decide +kernel
theorem dX11_judge_128 : decode cX11_judge 128 = .ok (.ireturn, 1) := by decide +kernel
theorem dX11_judge_129 : decode cX11_judge 129 = .ok (.iinc 2 1, 3) := by decide +kernel
theorem dX11_judge_132 : decode cX11_judge 132 = .ok (.iinc 4 1, 3) := by decide +kernel
theorem dX11_judge_135 : decode cX11_judge 135 = .ok (.goto (-65), 3) := by decide +kernel
theorem dX11_judge_138 : decode cX11_judge 138 = .ok (.iinc 3 1, 3) := by decide +kernel
theorem dX11_judge_141 : decode cX11_judge 141 = .ok (.goto (-86), 3) := by decide +kernel
theorem dX11_judge_144 : decode cX11_judge 144 = .ok (.bipush (-2), 2) := by decide +kernel
theorem dX11_judge_146 : decode cX11_judge 146 = .ok (.ireturn, 1) := by decide +kernel
theorem dX11_isPlace_0 : decode cX11_isPlace 0 = .ok (.aload_n 0, 1) := by decide +kernel
theorem dX11_isPlace_1 : decode cX11_isPlace 1 = .ok (.iload_n 1, 1) := by decide +kernel
theorem dX11_isPlace_2 : decode cX11_isPlace 2 = .ok (.iconst 0, 1) := by decide +kernel
theorem dX11_isPlace_3 : decode cX11_isPlace 3 = .ok (.bipush 15, 2) := by decide +kernel
theorem dX11_isPlace_5 : decode cX11_isPlace 5 = .ok (.invokevirtual 97, 3) := by decide +kernel
theorem dX11_isPlace_8 : decode cX11_isPlace 8 = .ok (.ireturn, 1) := by decide +kernel
theorem dX11_lay_0 : decode cX11_lay 0 = .ok (.aload_n 0, 1) := by decide +kernel
theorem dX11_lay_1 : decode cX11_lay 1 = .ok (.iconst 0, 1) := by decide +kernel
theorem dX11_lay_2 : decode cX11_lay 2 = .ok (.putfield 84, 3) := by decide +kernel
theorem dX11_lay_5 : decode cX11_lay 5 = .ok (.aload_n 0, 1) := by decide +kernel
theorem dX11_lay_6 : decode cX11_lay 6 = .ok (.iload_n 1, 1) := by decide +kernel
theorem dX11_lay_7 : decode cX11_lay 7 = .ok (.invokevirtual 224, 3) := by decide +kernel
theorem dX11_lay_10 : decode cX11_lay 10 = .ok (.ifCond .ne 9, 3) := by decide +kernel
theorem dX11_lay_13 : decode cX11_lay 13 = .ok (.aload_n 0, 1) := by decide +kernel
theorem dX11_lay_14 : decode cX11_lay 14 = .ok (.iconst 1, 1) := by decide +kernel
theorem dX11_lay_15 : decode cX11_lay 15 = .ok (.invokevirtual 115, 3) := by decide +kernel
theorem dX11_lay_18 : decode cX11_lay 18 = .ok (.ireturn, 1) := by decide +kernel
theorem dX11_lay_19 : decode cX11_lay 19 = .ok (.aload_n 0, 1) := by decide +kernel
theorem dX11_lay_20 : decode cX11_lay 20 = .ok (.iload_n 2, 1) := by decide +kernel
theorem dX11_lay_21 : decode cX11_lay 21 = .ok (.iconst 0, 1) := by decide +kernel
theorem dX11_lay_22 : decode cX11_lay 22 = .ok (.iconst 3, 1) := by decide +kernel
theorem dX11_lay_23 : decode cX11_lay 23 = .ok (.invokevirtual 97, 3) := by decide +kernel
theorem dX11_lay_26 : decode cX11_lay 26 = .ok (.ifCond .ne 9, 3) := by decide +kernel
theorem dX11_lay_29 : decode cX11_lay 29 = .ok (.aload_n 0, 1) := by decide +kernel
theorem dX11_lay_30 : decode cX11_lay 30 = .ok (.iconst 2, 1) := by decide +kernel
theorem dX11_lay_31 : decode cX11_lay 31 = .ok (.invokevirtual 115, 3) := by decide +kernel
theorem dX11_lay_34 : decode cX11_lay 34 = .ok (.ireturn, 1) := by decide +kernel
theorem dX11_lay_35 : decode cX11_lay 35 = .ok (.iload_n 2, 1) := by decide +kernel
theorem dX11_lay_36 : decode cX11_lay 36 = .ok (.iconst 1, 1) := by decide +kernel
theorem dX11_lay_37 : decode cX11_lay 37 = .ok (.if_icmp .ne 11, 3) := by decide +kernel
theorem dX11_lay_40 : decode cX11_lay 40 = .ok (.aload_n 0, 1) := by decide +kernel
theorem dX11_lay_41 : decode cX11_lay 41 = .ok (.iload_n 3, 1) := by decide +kernel
theorem dX11_lay_42 : decode cX11_lay 42 = .ok (.invokevirtual 163, 3) := by decide +kernel
theorem dX11_lay_45 : decode cX11_lay 45 = .ok (.ifCond .eq 15, 3) := by decide +kernel
theorem dX11_lay_48 : decode cX11_lay 48 = .ok (.iload_n 2, 1) := by decide +kernel
theorem dX11_lay_49 : decode cX11_lay 49 = .ok (.iconst 3, 1) := by decide +kernel
theorem dX11_lay_50 : decode cX11_lay 50 = .ok (.if_icmp .ne 16, 3) := by decide +kernel
theorem dX11_lay_53 : decode cX11_lay 53 = .ok (.aload_n 0, 1) := by decide +kernel
theorem dX11_lay_54 : decode cX11_lay 54 = .ok (.getfield 104, 3) := by decide +kernel
theorem dX11_lay_57 : decode cX11_lay 57 = .ok (.ifCond .ne 9, 3) := by decide +kernel
theorem dX11_lay_60 : decode cX11_lay 60 = .ok (.aload_n 0, 1) := by decide +kernel
theorem dX11_lay_61 : decode cX11_lay 61 = .ok (.iconst 1, 1) := by decide +kernel
theorem dX11_lay_62 : decode cX11_lay 62 = .ok (.invokevirtual 115, 3) := by decide +kernel
theorem dX11_lay_65 : decode cX11_lay 65 = .ok (.ireturn, 1) := by decide +kernel
theorem dX11_lay_66 : decode cX11_lay 66 = .ok (.iload_n 2, 1) := by decide +kernel
theorem dX11_lay_67 : decode cX11_lay 67 = .ok (.iconst 2, 1) := by decide +kernel
theorem dX11_lay_68 : decode cX11_lay 68 = .ok (.if_icmp .ne 17, 3) := by decide +kernel
theorem dX11_lay_71 : decode cX11_lay 71 = .ok (.aload_n 0, 1) := by decide +kernel
theorem dX11_lay_72 : decode cX11_lay 72 = .ok (.iload_n 3, 1) := by decide +kernel
theorem dX11_lay_73 : decode cX11_lay 73 = .ok (.invokevirtual 140, 3) := by decide +kernel
theorem dX11_lay_76 : decode cX11_lay 76 = .ok (.ifCond .ne 9, 3) := by decide +kernel
theorem dX11_lay_79 : decode cX11_lay 79 = .ok (.aload_n 0, 1) := by decide +kernel
theorem dX11_lay_80 : decode cX11_lay 80 = .ok (.iconst 2, 1) := by decide +kernel
theorem dX11_lay_81 : decode cX11_lay 81 = .ok (.invokevirtual 115, 3) := by decide +kernel
theorem dX11_lay_84 : decode cX11_lay 84 = .ok (.ireturn, 1) := by decide +kernel
theorem dX11_lay_85 : decode cX11_lay 85 = .ok (.aload_n 0, 1) := by decide +kernel
theorem dX11_lay_86 : decode cX11_lay 86 = .ok (.iload_n 1, 1) := by decide +kernel
theorem dX11_lay_87 : decode cX11_lay 87 = .ok (.invokevirtual 227, 3) := by decide +kernel
theorem dX11_lay_90 : decode cX11_lay 90 = .ok (.aload_n 0, 1) := by decide +kernel
theorem dX11_lay_91 : decode cX11_lay 91 = .ok (.getfield 34, 3) := by decide +kernel
theorem dX11_lay_94 : decode cX11_lay 94 = .ok (.iload_n 1, 1) := by decide +kernel
theorem dX11_lay_95 : decode cX11_lay 95 = .ok (.iload_n 2, 1) := by decide +kernel
theorem dX11_lay_96 : decode cX11_lay 96 = .ok (.iastore, 1) := by decide +kernel
theorem dX11_lay_97 : decode cX11_lay 97 = .ok (.aload_n 0, 1) := by decide +kernel
theorem dX11_lay_98 : decode cX11_lay 98 = .ok (.getfield 37, 3) := by decide +kernel
theorem dX11_lay_101 : decode cX11_lay 101 = .ok (.iload_n 1, 1) := by decide +kernel
theorem dX11_lay_102 : decode cX11_lay 102 = .ok (.iload_n 2, 1) := by decide +kernel
theorem dX11_lay_103 : decode cX11_lay 103 = .ok (.iconst 1, 1) := by decide +kernel
theorem dX11_lay_104 : decode cX11_lay 104 = .ok (.if_icmp .eq 8, 3) := by decide +kernel
theorem dX11_lay_107 : decode cX11_lay 107 = .ok (.iload_n 2, 1) := by decide +kernel
theorem dX11_lay_108 : decode cX11_lay 108 = .ok (.iconst 2, 1) := by decide +kernel
theorem dX11_lay_109 : decode cX11_lay 109 = .ok (.if_icmp .ne 7, 3) := by decide +kernel
theorem dX11_lay_112 : decode cX11_lay 112 = .ok (.iload_n 3, 1) := by decide +kernel
theorem dX11_lay_113 : decode cX11_lay 113 = .ok (.goto 4, 3) := by decide +kernel
theorem dX11_lay_116 : decode cX11_lay 116 = .ok (.iconst 0, 1) := by decide +kernel
theorem dX11_lay_117 : decode cX11_lay 117 = .ok (.iastore, 1) := by decide +kernel
theorem dX11_lay_118 : decode cX11_lay 118 = .ok (.iconst 0, 1) := by decide +kernel
theorem dX11_lay_119 : decode cX11_lay 119 = .ok (.istore 4, 2) := by decide +kernel
theorem dX11_lay_121 : decode cX11_lay 121 = .ok (.iload 4, 2) := by decide +kernel
theorem dX11_lay_123 : decode cX11_lay 123 = .ok (.bipush 121, 2) := by decide +kernel
theorem dX11_lay_125 : decode cX11_lay 125 = .ok (.if_icmp .ge 37, 3) := by decide +kernel
theorem dX11_lay_128 : decode cX11_lay 128 = .ok (.aload_n 0, 1) := by decide +kernel
theorem dX11_lay_129 : decode cX11_lay 129 = .ok (.getfield 40, 3) := by decide +kernel
theorem dX11_lay_132 : decode cX11_lay 132 = .ok (.bipush 121, 2) := by decide +kernel
theorem dX11_lay_134 : decode cX11_lay 134 = .ok (.iload_n 1, 1) := by decide +kernel
theorem dX11_lay_135 : decode cX11_lay 135 = .ok (.imul, 1) := by decide +kernel
theorem dX11_lay_136 : decode cX11_lay 136 = .ok (.iload 4, 2) := by decide +kernel
theorem dX11_lay_138 : decode cX11_lay 138 = .ok (.iadd, 1) := by decide +kernel
theorem dX11_lay_139 : decode cX11_lay 139 = .ok (.iload_n 2, 1) := by decide +kernel
theorem dX11_lay_140 : decode cX11_lay 140 = .ok (.iconst 3, 1) := by decide +kernel
theorem dX11_lay_141 : decode cX11_lay 141 = .ok (.if_icmp .ne 13, 3) := by decide +kernel
theorem dX11_lay_144 : decode cX11_lay 144 = .ok (.aload_n 0, 1) := by decide +kernel
theorem dX11_lay_145 : decode cX11_lay 145 = .ok (.getfield 31, 3) := by decide +kernel
theorem dX11_lay_148 : decode cX11_lay 148 = .ok (.iload 4, 2) := by decide +kernel
theorem dX11_lay_150 : decode cX11_lay 150 = .ok (.iaload, 1) := by decide +kernel
theorem dX11_lay_151 : decode cX11_lay 151 = .ok (.goto 4, 3) := by decide +kernel
theorem dX11_lay_154 : decode cX11_lay 154 = .ok (.iconst 0, 1) := by decide +kernel
theorem dX11_lay_155 : decode cX11_lay 155 = .ok (.iastore, 1) := by decide +kernel
theorem dX11_lay_156 : decode cX11_lay 156 = .ok (.iinc 4 1, 3) := by decide +kernel
theorem dX11_lay_159 : decode cX11_lay 159 = .ok (.goto (-38), 3) := by decide +kernel
theorem dX11_lay_162 : decode cX11_lay 162 = .ok (.iconst 1, 1) := by decide +kernel
theorem dX11_lay_163 : decode cX11_lay 163 = .ok (.ireturn, 1) := by decide +kernel
theorem dX11_lies_0 : decode cX11_lies 0 = .ok (.aload_n 0, 1) := by decide +kernel
theorem dX11_lies_1 : decode cX11_lies 1 = .ok (.iconst 0, 1) := by decide +kernel
theorem dX11_lies_2 : decode cX11_lies 2 = .ok (.putfield 84, 3) := by decide +kernel
theorem dX11_lies_5 : decode cX11_lies 5 = .ok (.aload_n 0, 1) := by decide +kernel
theorem dX11_lies_6 : decode cX11_lies 6 = .ok (.iload_n 1, 1) := by decide +kernel
theorem dX11_lies_7 : decode cX11_lies 7 = .ok (.invokevirtual 224, 3) := by decide +kernel
theorem dX11_lies_10 : decode cX11_lies 10 = .ok (.ifCond .ne 9, 3) := by decide +kernel
theorem dX11_lies_13 : decode cX11_lies 13 = .ok (.aload_n 0, 1) := by decide +kernel
theorem dX11_lies_14 : decode cX11_lies 14 = .ok (.iconst 1, 1) := by decide +kernel
theorem dX11_lies_15 : decode cX11_lies 15 = .ok (.invokevirtual 115, 3) := by decide +kernel
theorem dX11_lies_18 : decode cX11_lies 18 = .ok (.ireturn, 1) := by decide +kernel
theorem dX11_lies_19 : decode cX11_lies 19 = .ok (.aload_n 0, 1) := by decide +kernel
theorem dX11_lies_20 : decode cX11_lies 20 = .ok (.iconst 0, 1) := by decide +kernel
theorem dX11_lies_21 : decode cX11_lies 21 = .ok (.putfield 88, 3) := by decide +kernel
theorem dX11_lies_24 : decode cX11_lies 24 = .ok (.aload_n 0, 1) := by decide +kernel
theorem dX11_lies_25 : decode cX11_lies 25 = .ok (.getfield 34, 3) := by decide +kernel
theorem dX11_lies_28 : decode cX11_lies 28 = .ok (.iload_n 1, 1) := by decide +kernel
theorem dX11_lies_29 : decode cX11_lies 29 = .ok (.iaload, 1) := by decide +kernel
theorem dX11_lies_30 : decode cX11_lies 30 = .ok (.ireturn, 1) := by decide +kernel
theorem dX11_partsIn_0 : decode cX11_partsIn 0 = .ok (.aload_n 0, 1) := by decide +kernel
theorem dX11_partsIn_1 : decode cX11_partsIn 1 = .ok (.getfield 25, 3) := by decide +kernel
theorem dX11_partsIn_4 : decode cX11_partsIn 4 = .ok (.aload_n 0, 1) := by decide +kernel
theorem dX11_partsIn_5 : decode cX11_partsIn 5 = .ok (.getfield 40, 3) := by decide +kernel
theorem dX11_partsIn_8 : decode cX11_partsIn 8 = .ok (.bipush 121, 2) := by decide +kernel
theorem dX11_partsIn_10 : decode cX11_partsIn 10 = .ok (.iload_n 1, 1) := by decide +kernel
theorem dX11_partsIn_11 : decode cX11_partsIn 11 = .ok (.imul, 1) := by decide +kernel
theorem dX11_partsIn_12 : decode cX11_partsIn 12 = .ok (.iaload, 1) := by decide +kernel
theorem dX11_partsIn_13 : decode cX11_partsIn 13 = .ok (.iaload, 1) := by decide +kernel
theorem dX11_partsIn_14 : decode cX11_partsIn 14 = .ok (.ireturn, 1) := by decide +kernel
theorem dX11_taken_0 : decode cX11_taken 0 = .ok (.aload_n 0, 1) := by decide +kernel
theorem dX11_taken_1 : decode cX11_taken 1 = .ok (.iconst 0, 1) := by decide +kernel
theorem dX11_taken_2 : decode cX11_taken 2 = .ok (.putfield 84, 3) := by decide +kernel
theorem dX11_taken_5 : decode cX11_taken 5 = .ok (.aload_n 0, 1) := by decide +kernel
theorem dX11_taken_6 : decode cX11_taken 6 = .ok (.iload_n 1, 1) := by decide +kernel
theorem dX11_taken_7 : decode cX11_taken 7 = .ok (.invokevirtual 224, 3) := by decide +kernel
theorem dX11_taken_10 : decode cX11_taken 10 = .ok (.ifCond .ne 9, 3) := by decide +kernel
theorem dX11_taken_13 : decode cX11_taken 13 = .ok (.aload_n 0, 1) := by decide +kernel
theorem dX11_taken_14 : decode cX11_taken 14 = .ok (.iconst 1, 1) := by decide +kernel
theorem dX11_taken_15 : decode cX11_taken 15 = .ok (.invokevirtual 115, 3) := by decide +kernel
theorem dX11_taken_18 : decode cX11_taken 18 = .ok (.ireturn, 1) := by decide +kernel
theorem dX11_taken_19 : decode cX11_taken 19 = .ok (.aload_n 0, 1) := by decide +kernel
theorem dX11_taken_20 : decode cX11_taken 20 = .ok (.iload_n 2, 1) := by decide +kernel
theorem dX11_taken_21 : decode cX11_taken 21 = .ok (.iconst 1, 1) := by decide +kernel
theorem dX11_taken_22 : decode cX11_taken 22 = .ok (.iconst 3, 1) := by decide +kernel
theorem dX11_taken_23 : decode cX11_taken 23 = .ok (.invokevirtual 97, 3) := by decide +kernel
theorem dX11_taken_26 : decode cX11_taken 26 = .ok (.ifCond .ne 9, 3) := by decide +kernel
theorem dX11_taken_29 : decode cX11_taken 29 = .ok (.aload_n 0, 1) := by decide +kernel
theorem dX11_taken_30 : decode cX11_taken 30 = .ok (.iconst 2, 1) := by decide +kernel
theorem dX11_taken_31 : decode cX11_taken 31 = .ok (.invokevirtual 115, 3) := by decide +kernel
theorem dX11_taken_34 : decode cX11_taken 34 = .ok (.ireturn, 1) := by decide +kernel
theorem dX11_taken_35 : decode cX11_taken 35 = .ok (.aload_n 0, 1) := by decide +kernel
theorem dX11_taken_36 : decode cX11_taken 36 = .ok (.getfield 34, 3) := by decide +kernel
theorem dX11_taken_39 : decode cX11_taken 39 = .ok (.iload_n 1, 1) := by decide +kernel
theorem dX11_taken_40 : decode cX11_taken 40 = .ok (.iaload, 1) := by decide +kernel
theorem dX11_taken_41 : decode cX11_taken 41 = .ok (.iload_n 2, 1) := by decide +kernel
theorem dX11_taken_42 : decode cX11_taken 42 = .ok (.if_icmp .eq 10, 3) := by decide +kernel
theorem dX11_taken_45 : decode cX11_taken 45 = .ok (.aload_n 0, 1) := by decide +kernel
theorem dX11_taken_46 : decode cX11_taken 46 = .ok (.bipush 6, 2) := by decide +kernel
theorem dX11_taken_48 : decode cX11_taken 48 = .ok (.invokevirtual 115, 3) := by decide +kernel
theorem dX11_taken_51 : decode cX11_taken 51 = .ok (.ireturn, 1) := by decide +kernel
theorem dX11_taken_52 : decode cX11_taken 52 = .ok (.iload_n 2, 1) := by decide +kernel
theorem dX11_taken_53 : decode cX11_taken 53 = .ok (.iconst 3, 1) := by decide +kernel
theorem dX11_taken_54 : decode cX11_taken 54 = .ok (.if_icmp .ne 25, 3) := by decide +kernel
theorem dX11_taken_57 : decode cX11_taken 57 = .ok (.aload_n 0, 1) := by decide +kernel
theorem dX11_taken_58 : decode cX11_taken 58 = .ok (.iload_n 3, 1) := by decide +kernel
theorem dX11_taken_59 : decode cX11_taken 59 = .ok (.iconst 0, 1) := by decide +kernel
theorem dX11_taken_60 : decode cX11_taken 60 = .ok (.aload_n 0, 1) := by decide +kernel
theorem dX11_taken_61 : decode cX11_taken 61 = .ok (.iload_n 1, 1) := by decide +kernel
theorem dX11_taken_62 : decode cX11_taken 62 = .ok (.invokevirtual 230, 3) := by decide +kernel
theorem dX11_taken_65 : decode cX11_taken 65 = .ok (.iconst 1, 1) := by decide +kernel
theorem dX11_taken_66 : decode cX11_taken 66 = .ok (.isub, 1) := by decide +kernel
theorem dX11_taken_67 : decode cX11_taken 67 = .ok (.invokevirtual 97, 3) := by decide +kernel
theorem dX11_taken_70 : decode cX11_taken 70 = .ok (.ifCond .ne 9, 3) := by decide +kernel
theorem dX11_taken_73 : decode cX11_taken 73 = .ok (.aload_n 0, 1) := by decide +kernel
theorem dX11_taken_74 : decode cX11_taken 74 = .ok (.iconst 1, 1) := by decide +kernel
theorem dX11_taken_75 : decode cX11_taken 75 = .ok (.invokevirtual 115, 3) := by decide +kernel
theorem dX11_taken_78 : decode cX11_taken 78 = .ok (.ireturn, 1) := by decide +kernel
theorem dX11_taken_79 : decode cX11_taken 79 = .ok (.aload_n 0, 1) := by decide +kernel
theorem dX11_taken_80 : decode cX11_taken 80 = .ok (.iconst 0, 1) := by decide +kernel
theorem dX11_taken_81 : decode cX11_taken 81 = .ok (.putfield 88, 3) := by decide +kernel
theorem dX11_taken_84 : decode cX11_taken 84 = .ok (.iload_n 2, 1) := by decide +kernel
theorem dX11_taken_85 : decode cX11_taken 85 = .ok (.iconst 3, 1) := by decide +kernel
theorem dX11_taken_86 : decode cX11_taken 86 = .ok (.if_icmp .ne 19, 3) := by decide +kernel
theorem dX11_taken_89 : decode cX11_taken 89 = .ok (.aload_n 0, 1) := by decide +kernel
theorem dX11_taken_90 : decode cX11_taken 90 = .ok (.getfield 40, 3) := by decide +kernel
theorem dX11_taken_93 : decode cX11_taken 93 = .ok (.bipush 121, 2) := by decide +kernel
theorem dX11_taken_95 : decode cX11_taken 95 = .ok (.iload_n 1, 1) := by decide +kernel
theorem dX11_taken_96 : decode cX11_taken 96 = .ok (.imul, 1) := by decide +kernel
theorem dX11_taken_97 : decode cX11_taken 97 = .ok (.iconst 1, 1) := by decide +kernel
theorem dX11_taken_98 : decode cX11_taken 98 = .ok (.iadd, 1) := by decide +kernel
theorem dX11_taken_99 : decode cX11_taken 99 = .ok (.iload_n 3, 1) := by decide +kernel
theorem dX11_taken_100 : decode cX11_taken 100 = .ok (.iadd, 1) := by decide +kernel
theorem dX11_taken_101 : decode cX11_taken 101 = .ok (.iaload, 1) := by decide +kernel
theorem dX11_taken_102 : decode cX11_taken 102 = .ok (.goto 9, 3) := by decide +kernel
theorem dX11_taken_105 : decode cX11_taken 105 = .ok (.aload_n 0, 1) := by decide +kernel
theorem dX11_taken_106 : decode cX11_taken 106 = .ok (.getfield 37, 3) := by decide +kernel
theorem dX11_taken_109 : decode cX11_taken 109 = .ok (.iload_n 1, 1) := by decide +kernel
theorem dX11_taken_110 : decode cX11_taken 110 = .ok (.iaload, 1) := by decide +kernel
theorem dX11_taken_111 : decode cX11_taken 111 = .ok (.ireturn, 1) := by decide +kernel
theorem dX11_copy_0 : decode cX11_copy 0 = .ok (.aload_n 0, 1) := by decide +kernel
theorem dX11_copy_1 : decode cX11_copy 1 = .ok (.iconst 0, 1) := by decide +kernel
theorem dX11_copy_2 : decode cX11_copy 2 = .ok (.putfield 84, 3) := by decide +kernel
theorem dX11_copy_5 : decode cX11_copy 5 = .ok (.aload_n 0, 1) := by decide +kernel
theorem dX11_copy_6 : decode cX11_copy 6 = .ok (.iload_n 1, 1) := by decide +kernel
theorem dX11_copy_7 : decode cX11_copy 7 = .ok (.invokevirtual 224, 3) := by decide +kernel
theorem dX11_copy_10 : decode cX11_copy 10 = .ok (.ifCond .eq 11, 3) := by decide +kernel
theorem dX11_copy_13 : decode cX11_copy 13 = .ok (.aload_n 0, 1) := by decide +kernel
theorem dX11_copy_14 : decode cX11_copy 14 = .ok (.iload_n 3, 1) := by decide +kernel
theorem dX11_copy_15 : decode cX11_copy 15 = .ok (.invokevirtual 224, 3) := by decide +kernel
theorem dX11_copy_18 : decode cX11_copy 18 = .ok (.ifCond .ne 9, 3) := by decide +kernel
theorem dX11_copy_21 : decode cX11_copy 21 = .ok (.aload_n 0, 1) := by decide +kernel
theorem dX11_copy_22 : decode cX11_copy 22 = .ok (.iconst 1, 1) := by decide +kernel
theorem dX11_copy_23 : decode cX11_copy 23 = .ok (.invokevirtual 115, 3) := by decide +kernel
theorem dX11_copy_26 : decode cX11_copy 26 = .ok (.ireturn, 1) := by decide +kernel
theorem dX11_copy_27 : decode cX11_copy 27 = .ok (.aload_n 0, 1) := by decide +kernel
theorem dX11_copy_28 : decode cX11_copy 28 = .ok (.getfield 34, 3) := by decide +kernel
theorem dX11_copy_31 : decode cX11_copy 31 = .ok (.iload_n 1, 1) := by decide +kernel
theorem dX11_copy_32 : decode cX11_copy 32 = .ok (.iaload, 1) := by decide +kernel
theorem dX11_copy_33 : decode cX11_copy 33 = .ok (.iconst 3, 1) := by decide +kernel
theorem dX11_copy_34 : decode cX11_copy 34 = .ok (.if_icmp .ne 13, 3) := by decide +kernel
theorem dX11_copy_37 : decode cX11_copy 37 = .ok (.aload_n 0, 1) := by decide +kernel
theorem dX11_copy_38 : decode cX11_copy 38 = .ok (.getfield 34, 3) := by decide +kernel
theorem dX11_copy_41 : decode cX11_copy 41 = .ok (.iload_n 3, 1) := by decide +kernel
theorem dX11_copy_42 : decode cX11_copy 42 = .ok (.iaload, 1) := by decide +kernel
theorem dX11_copy_43 : decode cX11_copy 43 = .ok (.iconst 3, 1) := by decide +kernel
theorem dX11_copy_44 : decode cX11_copy 44 = .ok (.if_icmp .eq 10, 3) := by decide +kernel
theorem dX11_copy_47 : decode cX11_copy 47 = .ok (.aload_n 0, 1) := by decide +kernel
theorem dX11_copy_48 : decode cX11_copy 48 = .ok (.bipush 6, 2) := by decide +kernel
theorem dX11_copy_50 : decode cX11_copy 50 = .ok (.invokevirtual 115, 3) := by decide +kernel
theorem dX11_copy_53 : decode cX11_copy 53 = .ok (.ireturn, 1) := by decide +kernel
theorem dX11_copy_54 : decode cX11_copy 54 = .ok (.iload_n 2, 1) := by decide +kernel
theorem dX11_copy_55 : decode cX11_copy 55 = .ok (.ifCond .lt 38, 3) := by decide +kernel
theorem dX11_copy_58 : decode cX11_copy 58 = .ok (.iload 4, 2) := by decide +kernel
theorem dX11_copy_60 : decode cX11_copy 60 = .ok (.ifCond .lt 33, 3) := by decide +kernel
theorem dX11_copy_63 : decode cX11_copy 63 = .ok (.iload 5, 2) := by decide +kernel
theorem dX11_copy_65 : decode cX11_copy 65 = .ok (.ifCond .lt 28, 3) := by decide +kernel
theorem dX11_copy_68 : decode cX11_copy 68 = .ok (.iload 5, 2) := by decide +kernel
theorem dX11_copy_70 : decode cX11_copy 70 = .ok (.aload_n 0, 1) := by decide +kernel
theorem dX11_copy_71 : decode cX11_copy 71 = .ok (.iload_n 1, 1) := by decide +kernel
theorem dX11_copy_72 : decode cX11_copy 72 = .ok (.invokevirtual 230, 3) := by decide +kernel
theorem dX11_copy_75 : decode cX11_copy 75 = .ok (.iload_n 2, 1) := by decide +kernel
theorem dX11_copy_76 : decode cX11_copy 76 = .ok (.isub, 1) := by decide +kernel
theorem dX11_copy_77 : decode cX11_copy 77 = .ok (.if_icmp .gt 16, 3) := by decide +kernel
theorem dX11_copy_80 : decode cX11_copy 80 = .ok (.iload 5, 2) := by decide +kernel
theorem dX11_copy_82 : decode cX11_copy 82 = .ok (.aload_n 0, 1) := by decide +kernel
theorem dX11_copy_83 : decode cX11_copy 83 = .ok (.iload_n 3, 1) := by decide +kernel
theorem dX11_copy_84 : decode cX11_copy 84 = .ok (.invokevirtual 230, 3) := by decide +kernel
theorem dX11_copy_87 : decode cX11_copy 87 = .ok (.iload 4, 2) := by decide +kernel
theorem dX11_copy_89 : decode cX11_copy 89 = .ok (.isub, 1) := by decide +kernel
theorem dX11_copy_90 : decode cX11_copy 90 = .ok (.if_icmp .le 9, 3) := by decide +kernel
theorem dX11_copy_93 : decode cX11_copy 93 = .ok (.aload_n 0, 1) := by decide +kernel
theorem dX11_copy_94 : decode cX11_copy 94 = .ok (.iconst 2, 1) := by decide +kernel
theorem dX11_copy_95 : decode cX11_copy 95 = .ok (.invokevirtual 115, 3) := by decide +kernel
theorem dX11_copy_98 : decode cX11_copy 98 = .ok (.ireturn, 1) := by decide +kernel
theorem dX11_copy_99 : decode cX11_copy 99 = .ok (.aload_n 0, 1) := by decide +kernel
theorem dX11_copy_100 : decode cX11_copy 100 = .ok (.iload_n 3, 1) := by decide +kernel
theorem dX11_copy_101 : decode cX11_copy 101 = .ok (.invokevirtual 227, 3) := by decide +kernel
theorem dX11_copy_104 : decode cX11_copy 104 = .ok (.iconst 0, 1) := by decide +kernel
theorem dX11_copy_105 : decode cX11_copy 105 = .ok (.istore 6, 2) := by decide +kernel
theorem dX11_copy_107 : decode cX11_copy 107 = .ok (.iload 6, 2) := by decide +kernel
theorem dX11_copy_109 : decode cX11_copy 109 = .ok (.iload 5, 2) := by decide +kernel
theorem dX11_copy_111 : decode cX11_copy 111 = .ok (.if_icmp .ge 32, 3) := by decide +kernel
theorem dX11_copy_114 : decode cX11_copy 114 = .ok (.aload_n 0, 1) := by decide +kernel
theorem dX11_copy_115 : decode cX11_copy 115 = .ok (.getfield 81, 3) := by decide +kernel
theorem dX11_copy_118 : decode cX11_copy 118 = .ok (.iload 6, 2) := by decide +kernel
theorem dX11_copy_120 : decode cX11_copy 120 = .ok (.aload_n 0, 1) := by decide +kernel
theorem dX11_copy_121 : decode cX11_copy 121 = .ok (.getfield 40, 3) := by decide +kernel
theorem dX11_copy_124 : decode cX11_copy 124 = .ok (.bipush 121, 2) := by decide +kernel
theorem dX11_copy_126 : decode cX11_copy 126 = .ok (.iload_n 1, 1) := by decide +kernel
theorem dX11_copy_127 : decode cX11_copy 127 = .ok (.imul, 1) := by decide +kernel
theorem dX11_copy_128 : decode cX11_copy 128 = .ok (.iconst 1, 1) := by decide +kernel
theorem dX11_copy_129 : decode cX11_copy 129 = .ok (.iadd, 1) := by decide +kernel
theorem dX11_copy_130 : decode cX11_copy 130 = .ok (.iload_n 2, 1) := by decide +kernel
theorem dX11_copy_131 : decode cX11_copy 131 = .ok (.iadd, 1) := by decide +kernel
theorem dX11_copy_132 : decode cX11_copy 132 = .ok (.iload 6, 2) := by decide +kernel
theorem dX11_copy_134 : decode cX11_copy 134 = .ok (.iadd, 1) := by decide +kernel
theorem dX11_copy_135 : decode cX11_copy 135 = .ok (.iaload, 1) := by decide +kernel
theorem dX11_copy_136 : decode cX11_copy 136 = .ok (.iastore, 1) := by decide +kernel
theorem dX11_copy_137 : decode cX11_copy 137 = .ok (.iinc 6 1, 3) := by decide +kernel
theorem dX11_copy_140 : decode cX11_copy 140 = .ok (.goto (-33), 3) := by decide +kernel
theorem dX11_copy_143 : decode cX11_copy 143 = .ok (.iconst 0, 1) := by decide +kernel
theorem dX11_copy_144 : decode cX11_copy 144 = .ok (.istore 6, 2) := by decide +kernel
theorem dX11_copy_146 : decode cX11_copy 146 = .ok (.iload 6, 2) := by decide +kernel
theorem dX11_copy_148 : decode cX11_copy 148 = .ok (.iload 5, 2) := by decide +kernel
theorem dX11_copy_150 : decode cX11_copy 150 = .ok (.if_icmp .ge 33, 3) := by decide +kernel
theorem dX11_copy_153 : decode cX11_copy 153 = .ok (.aload_n 0, 1) := by decide +kernel
theorem dX11_copy_154 : decode cX11_copy 154 = .ok (.getfield 40, 3) := by decide +kernel
theorem dX11_copy_157 : decode cX11_copy 157 = .ok (.bipush 121, 2) := by decide +kernel
theorem dX11_copy_159 : decode cX11_copy 159 = .ok (.iload_n 3, 1) := by decide +kernel
theorem dX11_copy_160 : decode cX11_copy 160 = .ok (.imul, 1) := by decide +kernel
theorem dX11_copy_161 : decode cX11_copy 161 = .ok (.iconst 1, 1) := by decide +kernel
theorem dX11_copy_162 : decode cX11_copy 162 = .ok (.iadd, 1) := by decide +kernel
theorem dX11_copy_163 : decode cX11_copy 163 = .ok (.iload 4, 2) := by decide +kernel
theorem dX11_copy_165 : decode cX11_copy 165 = .ok (.iadd, 1) := by decide +kernel
theorem dX11_copy_166 : decode cX11_copy 166 = .ok (.iload 6, 2) := by decide +kernel
theorem dX11_copy_168 : decode cX11_copy 168 = .ok (.iadd, 1) := by decide +kernel
theorem dX11_copy_169 : decode cX11_copy 169 = .ok (.aload_n 0, 1) := by decide +kernel
theorem dX11_copy_170 : decode cX11_copy 170 = .ok (.getfield 81, 3) := by decide +kernel
theorem dX11_copy_173 : decode cX11_copy 173 = .ok (.iload 6, 2) := by decide +kernel
theorem dX11_copy_175 : decode cX11_copy 175 = .ok (.iaload, 1) := by decide +kernel
theorem dX11_copy_176 : decode cX11_copy 176 = .ok (.iastore, 1) := by decide +kernel
theorem dX11_copy_177 : decode cX11_copy 177 = .ok (.iinc 6 1, 3) := by decide +kernel
theorem dX11_copy_180 : decode cX11_copy 180 = .ok (.goto (-34), 3) := by decide +kernel
theorem dX11_copy_183 : decode cX11_copy 183 = .ok (.iconst 1, 1) := by decide +kernel
theorem dX11_copy_184 : decode cX11_copy 184 = .ok (.ireturn, 1) := by decide +kernel
theorem dX11_use_0 : decode cX11_use 0 = .ok (.aload_n 0, 1) := by decide +kernel
theorem dX11_use_1 : decode cX11_use 1 = .ok (.iconst 0, 1) := by decide +kernel
theorem dX11_use_2 : decode cX11_use 2 = .ok (.putfield 84, 3) := by decide +kernel
theorem dX11_use_5 : decode cX11_use 5 = .ok (.aload_n 0, 1) := by decide +kernel
theorem dX11_use_6 : decode cX11_use 6 = .ok (.iload_n 1, 1) := by decide +kernel
theorem dX11_use_7 : decode cX11_use 7 = .ok (.invokevirtual 224, 3) := by decide +kernel
theorem dX11_use_10 : decode cX11_use 10 = .ok (.ifCond .ne 9, 3) := by decide +kernel
theorem dX11_use_13 : decode cX11_use 13 = .ok (.aload_n 0, 1) := by decide +kernel
theorem dX11_use_14 : decode cX11_use 14 = .ok (.iconst 1, 1) := by decide +kernel
theorem dX11_use_15 : decode cX11_use 15 = .ok (.invokevirtual 115, 3) := by decide +kernel
theorem dX11_use_18 : decode cX11_use 18 = .ok (.ireturn, 1) := by decide +kernel
theorem dX11_use_19 : decode cX11_use 19 = .ok (.aload_n 0, 1) := by decide +kernel
theorem dX11_use_20 : decode cX11_use 20 = .ok (.getfield 34, 3) := by decide +kernel
theorem dX11_use_23 : decode cX11_use 23 = .ok (.iload_n 1, 1) := by decide +kernel
theorem dX11_use_24 : decode cX11_use 24 = .ok (.iaload, 1) := by decide +kernel
theorem dX11_use_25 : decode cX11_use 25 = .ok (.iconst 3, 1) := by decide +kernel
theorem dX11_use_26 : decode cX11_use 26 = .ok (.if_icmp .eq 10, 3) := by decide +kernel
theorem dX11_use_29 : decode cX11_use 29 = .ok (.aload_n 0, 1) := by decide +kernel
theorem dX11_use_30 : decode cX11_use 30 = .ok (.bipush 6, 2) := by decide +kernel
theorem dX11_use_32 : decode cX11_use 32 = .ok (.invokevirtual 115, 3) := by decide +kernel
theorem dX11_use_35 : decode cX11_use 35 = .ok (.ireturn, 1) := by decide +kernel
theorem dX11_use_36 : decode cX11_use 36 = .ok (.iconst 0, 1) := by decide +kernel
theorem dX11_use_37 : decode cX11_use 37 = .ok (.istore_n 2, 1) := by decide +kernel
theorem dX11_use_38 : decode cX11_use 38 = .ok (.iconst 0, 1) := by decide +kernel
theorem dX11_use_39 : decode cX11_use 39 = .ok (.istore_n 3, 1) := by decide +kernel
theorem dX11_use_40 : decode cX11_use 40 = .ok (.iload_n 3, 1) := by decide +kernel
theorem dX11_use_41 : decode cX11_use 41 = .ok (.aload_n 0, 1) := by decide +kernel
theorem dX11_use_42 : decode cX11_use 42 = .ok (.iload_n 1, 1) := by decide +kernel
theorem dX11_use_43 : decode cX11_use 43 = .ok (.invokevirtual 230, 3) := by decide +kernel
theorem dX11_use_46 : decode cX11_use 46 = .ok (.if_icmp .ge 25, 3) := by decide +kernel
theorem dX11_use_49 : decode cX11_use 49 = .ok (.iload_n 2, 1) := by decide +kernel
theorem dX11_use_50 : decode cX11_use 50 = .ok (.aload_n 0, 1) := by decide +kernel
theorem dX11_use_51 : decode cX11_use 51 = .ok (.getfield 40, 3) := by decide +kernel
theorem dX11_use_54 : decode cX11_use 54 = .ok (.bipush 121, 2) := by decide +kernel
theorem dX11_use_56 : decode cX11_use 56 = .ok (.iload_n 1, 1) := by decide +kernel
theorem dX11_use_57 : decode cX11_use 57 = .ok (.imul, 1) := by decide +kernel
theorem dX11_use_58 : decode cX11_use 58 = .ok (.iconst 1, 1) := by decide +kernel
theorem dX11_use_59 : decode cX11_use 59 = .ok (.iadd, 1) := by decide +kernel
theorem dX11_use_60 : decode cX11_use 60 = .ok (.iload_n 3, 1) := by decide +kernel
theorem dX11_use_61 : decode cX11_use 61 = .ok (.iadd, 1) := by decide +kernel
theorem dX11_use_62 : decode cX11_use 62 = .ok (.iaload, 1) := by decide +kernel
theorem dX11_use_63 : decode cX11_use 63 = .ok (.iadd, 1) := by decide +kernel
theorem dX11_use_64 : decode cX11_use 64 = .ok (.istore_n 2, 1) := by decide +kernel
theorem dX11_use_65 : decode cX11_use 65 = .ok (.iinc 3 1, 3) := by decide +kernel
theorem dX11_use_68 : decode cX11_use 68 = .ok (.goto (-28), 3) := by decide +kernel
theorem dX11_use_71 : decode cX11_use 71 = .ok (.iload_n 2, 1) := by decide +kernel
theorem dX11_use_72 : decode cX11_use 72 = .ok (.ifCond .ne 9, 3) := by decide +kernel
theorem dX11_use_75 : decode cX11_use 75 = .ok (.aload_n 0, 1) := by decide +kernel
theorem dX11_use_76 : decode cX11_use 76 = .ok (.iconst 5, 1) := by decide +kernel
theorem dX11_use_77 : decode cX11_use 77 = .ok (.invokevirtual 115, 3) := by decide +kernel
theorem dX11_use_80 : decode cX11_use 80 = .ok (.ireturn, 1) := by decide +kernel
theorem dX11_use_81 : decode cX11_use 81 = .ok (.aload_n 0, 1) := by decide +kernel
theorem dX11_use_82 : decode cX11_use 82 = .ok (.invokevirtual 190, 3) := by decide +kernel
theorem dX11_use_85 : decode cX11_use 85 = .ok (.aload_n 0, 1) := by decide +kernel
theorem dX11_use_86 : decode cX11_use 86 = .ok (.iconst 1, 1) := by decide +kernel
theorem dX11_use_87 : decode cX11_use 87 = .ok (.putfield 104, 3) := by decide +kernel
theorem dX11_use_90 : decode cX11_use 90 = .ok (.iconst 0, 1) := by decide +kernel
theorem dX11_use_91 : decode cX11_use 91 = .ok (.istore_n 3, 1) := by decide +kernel
theorem dX11_use_92 : decode cX11_use 92 = .ok (.iload_n 3, 1) := by decide +kernel
theorem dX11_use_93 : decode cX11_use 93 = .ok (.bipush 121, 2) := by decide +kernel
theorem dX11_use_95 : decode cX11_use 95 = .ok (.if_icmp .ge 26, 3) := by decide +kernel
theorem dX11_use_98 : decode cX11_use 98 = .ok (.aload_n 0, 1) := by decide +kernel
theorem dX11_use_99 : decode cX11_use 99 = .ok (.getfield 31, 3) := by decide +kernel
theorem dX11_use_102 : decode cX11_use 102 = .ok (.iload_n 3, 1) := by decide +kernel
theorem dX11_use_103 : decode cX11_use 103 = .ok (.aload_n 0, 1) := by decide +kernel
theorem dX11_use_104 : decode cX11_use 104 = .ok (.getfield 40, 3) := by decide +kernel
theorem dX11_use_107 : decode cX11_use 107 = .ok (.bipush 121, 2) := by decide +kernel
theorem dX11_use_109 : decode cX11_use 109 = .ok (.iload_n 1, 1) := by decide +kernel
theorem dX11_use_110 : decode cX11_use 110 = .ok (.imul, 1) := by decide +kernel
theorem dX11_use_111 : decode cX11_use 111 = .ok (.iload_n 3, 1) := by decide +kernel
theorem dX11_use_112 : decode cX11_use 112 = .ok (.iadd, 1) := by decide +kernel
theorem dX11_use_113 : decode cX11_use 113 = .ok (.iaload, 1) := by decide +kernel
theorem dX11_use_114 : decode cX11_use 114 = .ok (.iastore, 1) := by decide +kernel
theorem dX11_use_115 : decode cX11_use 115 = .ok (.iinc 3 1, 3) := by decide +kernel
theorem dX11_use_118 : decode cX11_use 118 = .ok (.goto (-26), 3) := by decide +kernel
theorem dX11_use_121 : decode cX11_use 121 = .ok (.iconst 1, 1) := by decide +kernel
theorem dX11_use_122 : decode cX11_use 122 = .ok (.ireturn, 1) := by decide +kernel
theorem dX11_size_0 : decode cX11_size 0 = .ok (.aload_n 0, 1) := by decide +kernel
theorem dX11_size_1 : decode cX11_size 1 = .ok (.iconst 0, 1) := by decide +kernel
theorem dX11_size_2 : decode cX11_size 2 = .ok (.putfield 84, 3) := by decide +kernel
theorem dX11_size_5 : decode cX11_size 5 = .ok (.iload_n 1, 1) := by decide +kernel
theorem dX11_size_6 : decode cX11_size 6 = .ok (.tableswitch 59 0 4 #[34, 39, 44, 49, 54], 34) := by decide +kernel
theorem dX11_size_40 : decode cX11_size 40 = .ok (.aload_n 0, 1) := by decide +kernel
theorem dX11_size_41 : decode cX11_size 41 = .ok (.getfield 91, 3) := by decide +kernel
theorem dX11_size_44 : decode cX11_size 44 = .ok (.ireturn, 1) := by decide +kernel
theorem dX11_size_45 : decode cX11_size 45 = .ok (.aload_n 0, 1) := by decide +kernel
theorem dX11_size_46 : decode cX11_size 46 = .ok (.getfield 94, 3) := by decide +kernel
theorem dX11_size_49 : decode cX11_size 49 = .ok (.ireturn, 1) := by decide +kernel
theorem dX11_size_50 : decode cX11_size 50 = .ok (.aload_n 0, 1) := by decide +kernel
theorem dX11_size_51 : decode cX11_size 51 = .ok (.getfield 112, 3) := by decide +kernel
theorem dX11_size_54 : decode cX11_size 54 = .ok (.ireturn, 1) := by decide +kernel
theorem dX11_size_55 : decode cX11_size 55 = .ok (.aload_n 0, 1) := by decide +kernel
theorem dX11_size_56 : decode cX11_size 56 = .ok (.getfield 101, 3) := by decide +kernel
theorem dX11_size_59 : decode cX11_size 59 = .ok (.ireturn, 1) := by decide +kernel
theorem dX11_size_60 : decode cX11_size 60 = .ok (.aload_n 0, 1) := by decide +kernel
theorem dX11_size_61 : decode cX11_size 61 = .ok (.getfield 221, 3) := by decide +kernel
theorem dX11_size_64 : decode cX11_size 64 = .ok (.ireturn, 1) := by decide +kernel
theorem dX11_size_65 : decode cX11_size 65 = .ok (.iconst (-1), 1) := by decide +kernel
theorem dX11_size_66 : decode cX11_size 66 = .ok (.ireturn, 1) := by decide +kernel
theorem dX11_status_0 : decode cX11_status 0 = .ok (.aload_n 0, 1) := by decide +kernel
theorem dX11_status_1 : decode cX11_status 1 = .ok (.iconst 0, 1) := by decide +kernel
theorem dX11_status_2 : decode cX11_status 2 = .ok (.putfield 84, 3) := by decide +kernel
theorem dX11_status_5 : decode cX11_status 5 = .ok (.aload_n 0, 1) := by decide +kernel
theorem dX11_status_6 : decode cX11_status 6 = .ok (.getfield 88, 3) := by decide +kernel
theorem dX11_status_9 : decode cX11_status 9 = .ok (.ireturn, 1) := by decide +kernel
