theorem dX11_init_0 : decode cX11_init 0 = .ok (.aload_n 0, 1) := by decide +kernel
theorem dX11_init_1 : decode cX11_init 1 = .ok (.invokespecial 1, 3) := by decide +kernel
theorem dX11_init_4 : decode cX11_init 4 = .ok (.aload_n 0, 1) := by decide +kernel
theorem dX11_init_5 : decode cX11_init 5 = .ok (.bipush 16, 2) := by decide +kernel
theorem dX11_init_7 : decode cX11_init 7 = .ok (.newarray .int, 2) := by decide +kernel
theorem dX11_init_9 : decode cX11_init 9 = .ok (.putfield 7, 3) := by decide +kernel
theorem dX11_init_12 : decode cX11_init 12 = .ok (.aload_n 0, 1) := by decide +kernel
theorem dX11_init_13 : decode cX11_init 13 = .ok (.bipush 16, 2) := by decide +kernel
theorem dX11_init_15 : decode cX11_init 15 = .ok (.newarray .int, 2) := by decide +kernel
theorem dX11_init_17 : decode cX11_init 17 = .ok (.putfield 13, 3) := by decide +kernel
theorem dX11_init_20 : decode cX11_init 20 = .ok (.aload_n 0, 1) := by decide +kernel
theorem dX11_init_21 : decode cX11_init 21 = .ok (.bipush 16, 2) := by decide +kernel
theorem dX11_init_23 : decode cX11_init 23 = .ok (.newarray .int, 2) := by decide +kernel
theorem dX11_init_25 : decode cX11_init 25 = .ok (.putfield 16, 3) := by decide +kernel
theorem dX11_init_28 : decode cX11_init 28 = .ok (.aload_n 0, 1) := by decide +kernel
theorem dX11_init_29 : decode cX11_init 29 = .ok (.bipush 120, 2) := by decide +kernel
theorem dX11_init_31 : decode cX11_init 31 = .ok (.newarray .int, 2) := by decide +kernel
theorem dX11_init_33 : decode cX11_init 33 = .ok (.putfield 19, 3) := by decide +kernel
theorem dX11_init_36 : decode cX11_init 36 = .ok (.aload_n 0, 1) := by decide +kernel
theorem dX11_init_37 : decode cX11_init 37 = .ok (.bipush 24, 2) := by decide +kernel
theorem dX11_init_39 : decode cX11_init 39 = .ok (.newarray .int, 2) := by decide +kernel
theorem dX11_init_41 : decode cX11_init 41 = .ok (.putfield 22, 3) := by decide +kernel
theorem dX11_init_44 : decode cX11_init 44 = .ok (.aload_n 0, 1) := by decide +kernel
theorem dX11_init_45 : decode cX11_init 45 = .ok (.bipush 24, 2) := by decide +kernel
theorem dX11_init_47 : decode cX11_init 47 = .ok (.newarray .int, 2) := by decide +kernel
theorem dX11_init_49 : decode cX11_init 49 = .ok (.putfield 25, 3) := by decide +kernel
theorem dX11_init_52 : decode cX11_init 52 = .ok (.aload_n 0, 1) := by decide +kernel
theorem dX11_init_53 : decode cX11_init 53 = .ok (.sipush 2880, 3) := by decide +kernel
theorem dX11_init_56 : decode cX11_init 56 = .ok (.newarray .int, 2) := by decide +kernel
theorem dX11_init_58 : decode cX11_init 58 = .ok (.putfield 28, 3) := by decide +kernel
theorem dX11_init_61 : decode cX11_init 61 = .ok (.aload_n 0, 1) := by decide +kernel
theorem dX11_init_62 : decode cX11_init 62 = .ok (.bipush 121, 2) := by decide +kernel
theorem dX11_init_64 : decode cX11_init 64 = .ok (.newarray .int, 2) := by decide +kernel
theorem dX11_init_66 : decode cX11_init 66 = .ok (.putfield 31, 3) := by decide +kernel
theorem dX11_init_69 : decode cX11_init 69 = .ok (.aload_n 0, 1) := by decide +kernel
theorem dX11_init_70 : decode cX11_init 70 = .ok (.bipush 16, 2) := by decide +kernel
theorem dX11_init_72 : decode cX11_init 72 = .ok (.newarray .int, 2) := by decide +kernel
theorem dX11_init_74 : decode cX11_init 74 = .ok (.putfield 34, 3) := by decide +kernel
theorem dX11_init_77 : decode cX11_init 77 = .ok (.aload_n 0, 1) := by decide +kernel
theorem dX11_init_78 : decode cX11_init 78 = .ok (.bipush 16, 2) := by decide +kernel
theorem dX11_init_80 : decode cX11_init 80 = .ok (.newarray .int, 2) := by decide +kernel
theorem dX11_init_82 : decode cX11_init 82 = .ok (.putfield 37, 3) := by decide +kernel
theorem dX11_init_85 : decode cX11_init 85 = .ok (.aload_n 0, 1) := by decide +kernel
theorem dX11_init_86 : decode cX11_init 86 = .ok (.sipush 1936, 3) := by decide +kernel
theorem dX11_init_89 : decode cX11_init 89 = .ok (.newarray .int, 2) := by decide +kernel
theorem dX11_init_91 : decode cX11_init 91 = .ok (.putfield 40, 3) := by decide +kernel
theorem dX11_init_94 : decode cX11_init 94 = .ok (.aload_n 0, 1) := by decide +kernel
theorem dX11_init_95 : decode cX11_init 95 = .ok (.sipush 7140, 3) := by decide +kernel
theorem dX11_init_98 : decode cX11_init 98 = .ok (.newarray .int, 2) := by decide +kernel
theorem dX11_init_100 : decode cX11_init 100 = .ok (.putfield 43, 3) := by decide +kernel
theorem dX11_init_103 : decode cX11_init 103 = .ok (.aload_n 0, 1) := by decide +kernel
theorem dX11_init_104 : decode cX11_init 104 = .ok (.sipush 7560, 3) := by decide +kernel
theorem dX11_init_107 : decode cX11_init 107 = .ok (.newarray .int, 2) := by decide +kernel
theorem dX11_init_109 : decode cX11_init 109 = .ok (.putfield 46, 3) := by decide +kernel
theorem dX11_init_112 : decode cX11_init 112 = .ok (.aload_n 0, 1) := by decide +kernel
theorem dX11_init_113 : decode cX11_init 113 = .ok (.ldc 49, 2) := by decide +kernel
theorem dX11_init_115 : decode cX11_init 115 = .ok (.newarray .boolean, 2) := by decide +kernel
theorem dX11_init_117 : decode cX11_init 117 = .ok (.putfield 50, 3) := by decide +kernel
theorem dX11_init_120 : decode cX11_init 120 = .ok (.aload_n 0, 1) := by decide +kernel
theorem dX11_init_121 : decode cX11_init 121 = .ok (.ldc 49, 2) := by decide +kernel
theorem dX11_init_123 : decode cX11_init 123 = .ok (.newarray .boolean, 2) := by decide +kernel
theorem dX11_init_125 : decode cX11_init 125 = .ok (.putfield 54, 3) := by decide +kernel
theorem dX11_init_128 : decode cX11_init 128 = .ok (.aload_n 0, 1) := by decide +kernel
theorem dX11_init_129 : decode cX11_init 129 = .ok (.bipush 120, 2) := by decide +kernel
theorem dX11_init_131 : decode cX11_init 131 = .ok (.newarray .int, 2) := by decide +kernel
theorem dX11_init_133 : decode cX11_init 133 = .ok (.putfield 57, 3) := by decide +kernel
theorem dX11_init_136 : decode cX11_init 136 = .ok (.aload_n 0, 1) := by decide +kernel
theorem dX11_init_137 : decode cX11_init 137 = .ok (.bipush 17, 2) := by decide +kernel
theorem dX11_init_139 : decode cX11_init 139 = .ok (.newarray .int, 2) := by decide +kernel
theorem dX11_init_141 : decode cX11_init 141 = .ok (.putfield 60, 3) := by decide +kernel
theorem dX11_init_144 : decode cX11_init 144 = .ok (.aload_n 0, 1) := by decide +kernel
theorem dX11_init_145 : decode cX11_init 145 = .ok (.bipush 17, 2) := by decide +kernel
theorem dX11_init_147 : decode cX11_init 147 = .ok (.newarray .int, 2) := by decide +kernel
theorem dX11_init_149 : decode cX11_init 149 = .ok (.putfield 63, 3) := by decide +kernel
theorem dX11_init_152 : decode cX11_init 152 = .ok (.aload_n 0, 1) := by decide +kernel
theorem dX11_init_153 : decode cX11_init 153 = .ok (.bipush 17, 2) := by decide +kernel
theorem dX11_init_155 : decode cX11_init 155 = .ok (.newarray .int, 2) := by decide +kernel
theorem dX11_init_157 : decode cX11_init 157 = .ok (.putfield 66, 3) := by decide +kernel
theorem dX11_init_160 : decode cX11_init 160 = .ok (.aload_n 0, 1) := by decide +kernel
theorem dX11_init_161 : decode cX11_init 161 = .ok (.sipush 4096, 3) := by decide +kernel
theorem dX11_init_164 : decode cX11_init 164 = .ok (.newarray .int, 2) := by decide +kernel
theorem dX11_init_166 : decode cX11_init 166 = .ok (.putfield 69, 3) := by decide +kernel
theorem dX11_init_169 : decode cX11_init 169 = .ok (.aload_n 0, 1) := by decide +kernel
theorem dX11_init_170 : decode cX11_init 170 = .ok (.bipush 16, 2) := by decide +kernel
theorem dX11_init_172 : decode cX11_init 172 = .ok (.newarray .int, 2) := by decide +kernel
theorem dX11_init_174 : decode cX11_init 174 = .ok (.putfield 72, 3) := by decide +kernel
theorem dX11_init_177 : decode cX11_init 177 = .ok (.aload_n 0, 1) := by decide +kernel
theorem dX11_init_178 : decode cX11_init 178 = .ok (.ldc 49, 2) := by decide +kernel
theorem dX11_init_180 : decode cX11_init 180 = .ok (.newarray .boolean, 2) := by decide +kernel
theorem dX11_init_182 : decode cX11_init 182 = .ok (.putfield 75, 3) := by decide +kernel
theorem dX11_init_185 : decode cX11_init 185 = .ok (.aload_n 0, 1) := by decide +kernel
theorem dX11_init_186 : decode cX11_init 186 = .ok (.ldc 49, 2) := by decide +kernel
theorem dX11_init_188 : decode cX11_init 188 = .ok (.newarray .boolean, 2) := by decide +kernel
theorem dX11_init_190 : decode cX11_init 190 = .ok (.putfield 78, 3) := by decide +kernel
theorem dX11_init_193 : decode cX11_init 193 = .ok (.aload_n 0, 1) := by decide +kernel
theorem dX11_init_194 : decode cX11_init 194 = .ok (.bipush 120, 2) := by decide +kernel
theorem dX11_init_196 : decode cX11_init 196 = .ok (.newarray .int, 2) := by decide +kernel
theorem dX11_init_198 : decode cX11_init 198 = .ok (.putfield 81, 3) := by decide +kernel
theorem dX11_init_201 : decode cX11_init 201 = .ok (.return_, 1) := by decide +kernel
theorem dX11_no_0 : decode cX11_no 0 = .ok (.aload_n 0, 1) := by decide +kernel
theorem dX11_no_1 : decode cX11_no 1 = .ok (.iload_n 1, 1) := by decide +kernel
theorem dX11_no_2 : decode cX11_no 2 = .ok (.putfield 88, 3) := by decide +kernel
theorem dX11_no_5 : decode cX11_no 5 = .ok (.iconst (-1), 1) := by decide +kernel
theorem dX11_no_6 : decode cX11_no 6 = .ok (.ireturn, 1) := by decide +kernel
theorem dX11_not_0 : decode cX11_not 0 = .ok (.aload_n 0, 1) := by decide +kernel
theorem dX11_not_1 : decode cX11_not 1 = .ok (.iload_n 1, 1) := by decide +kernel
theorem dX11_not_2 : decode cX11_not 2 = .ok (.putfield 88, 3) := by decide +kernel
theorem dX11_not_5 : decode cX11_not 5 = .ok (.iconst 0, 1) := by decide +kernel
theorem dX11_not_6 : decode cX11_not 6 = .ok (.ireturn, 1) := by decide +kernel
theorem dX11_in_0 : decode cX11_in 0 = .ok (.iload_n 1, 1) := by decide +kernel
theorem dX11_in_1 : decode cX11_in 1 = .ok (.iload_n 2, 1) := by decide +kernel
theorem dX11_in_2 : decode cX11_in 2 = .ok (.if_icmp .lt 12, 3) := by decide +kernel
theorem dX11_in_5 : decode cX11_in 5 = .ok (.iload_n 1, 1) := by decide +kernel
theorem dX11_in_6 : decode cX11_in 6 = .ok (.iload_n 3, 1) := by decide +kernel
theorem dX11_in_7 : decode cX11_in 7 = .ok (.if_icmp .gt 7, 3) := by decide +kernel
theorem dX11_in_10 : decode cX11_in 10 = .ok (.iconst 1, 1) := by decide +kernel
theorem dX11_in_11 : decode cX11_in 11 = .ok (.goto 4, 3) := by decide +kernel
theorem dX11_in_14 : decode cX11_in 14 = .ok (.iconst 0, 1) := by decide +kernel
theorem dX11_in_15 : decode cX11_in 15 = .ok (.ireturn, 1) := by decide +kernel
theorem dX11_bitsOf_0 : decode cX11_bitsOf 0 = .ok (.iconst 0, 1) := by decide +kernel
theorem dX11_bitsOf_1 : decode cX11_bitsOf 1 = .ok (.istore_n 2, 1) := by decide +kernel
theorem dX11_bitsOf_2 : decode cX11_bitsOf 2 = .ok (.iload_n 1, 1) := by decide +kernel
theorem dX11_bitsOf_3 : decode cX11_bitsOf 3 = .ok (.istore_n 3, 1) := by decide +kernel
theorem dX11_bitsOf_4 : decode cX11_bitsOf 4 = .ok (.iload_n 3, 1) := by decide +kernel
theorem dX11_bitsOf_5 : decode cX11_bitsOf 5 = .ok (.ifCond .eq 15, 3) := by decide +kernel
theorem dX11_bitsOf_8 : decode cX11_bitsOf 8 = .ok (.iinc 2 1, 3) := by decide +kernel
theorem dX11_bitsOf_11 : decode cX11_bitsOf 11 = .ok (.iload_n 3, 1) := by decide +kernel
theorem dX11_bitsOf_12 : decode cX11_bitsOf 12 = .ok (.iload_n 3, 1) := by decide +kernel
theorem dX11_bitsOf_13 : decode cX11_bitsOf 13 = .ok (.iconst 1, 1) := by decide +kernel
theorem dX11_bitsOf_14 : decode cX11_bitsOf 14 = .ok (.isub, 1) := by decide +kernel
theorem dX11_bitsOf_15 : decode cX11_bitsOf 15 = .ok (.iand, 1) := by decide +kernel
theorem dX11_bitsOf_16 : decode cX11_bitsOf 16 = .ok (.istore_n 3, 1) := by decide +kernel
theorem dX11_bitsOf_17 : decode cX11_bitsOf 17 = .ok (.goto (-13), 3) := by decide +kernel
theorem dX11_bitsOf_20 : decode cX11_bitsOf 20 = .ok (.iload_n 2, 1) := by decide +kernel
theorem dX11_bitsOf_21 : decode cX11_bitsOf 21 = .ok (.ireturn, 1) := by decide +kernel
theorem dX11_isSet_0 : decode cX11_isSet 0 = .ok (.iload_n 1, 1) := by decide +kernel
theorem dX11_isSet_1 : decode cX11_isSet 1 = .ok (.ifCond .le 17, 3) := by decide +kernel
theorem dX11_isSet_4 : decode cX11_isSet 4 = .ok (.iload_n 1, 1) := by decide +kernel
theorem dX11_isSet_5 : decode cX11_isSet 5 = .ok (.iconst 1, 1) := by decide +kernel
theorem dX11_isSet_6 : decode cX11_isSet 6 = .ok (.aload_n 0, 1) := by decide +kernel
theorem dX11_isSet_7 : decode cX11_isSet 7 = .ok (.getfield 91, 3) := by decide +kernel
theorem dX11_isSet_10 : decode cX11_isSet 10 = .ok (.ishl, 1) := by decide +kernel
theorem dX11_isSet_11 : decode cX11_isSet 11 = .ok (.if_icmp .ge 7, 3) := by decide +kernel
theorem dX11_isSet_14 : decode cX11_isSet 14 = .ok (.iconst 1, 1) := by decide +kernel
theorem dX11_isSet_15 : decode cX11_isSet 15 = .ok (.goto 4, 3) := by decide +kernel
theorem dX11_isSet_18 : decode cX11_isSet 18 = .ok (.iconst 0, 1) := by decide +kernel
theorem dX11_isSet_19 : decode cX11_isSet 19 = .ok (.ireturn, 1) := by decide +kernel
theorem dX11_isFamily_0 : decode cX11_isFamily 0 = .ok (.aload_n 0, 1) := by decide +kernel
theorem dX11_isFamily_1 : decode cX11_isFamily 1 = .ok (.iload_n 1, 1) := by decide +kernel
theorem dX11_isFamily_2 : decode cX11_isFamily 2 = .ok (.iconst 0, 1) := by decide +kernel
theorem dX11_isFamily_3 : decode cX11_isFamily 3 = .ok (.aload_n 0, 1) := by decide +kernel
theorem dX11_isFamily_4 : decode cX11_isFamily 4 = .ok (.getfield 94, 3) := by decide +kernel
theorem dX11_isFamily_7 : decode cX11_isFamily 7 = .ok (.iconst 1, 1) := by decide +kernel
theorem dX11_isFamily_8 : decode cX11_isFamily 8 = .ok (.isub, 1) := by decide +kernel
theorem dX11_isFamily_9 : decode cX11_isFamily 9 = .ok (.invokevirtual 97, 3) := by decide +kernel
theorem dX11_isFamily_12 : decode cX11_isFamily 12 = .ok (.ireturn, 1) := by decide +kernel
theorem dX11_quorumOf_0 : decode cX11_quorumOf 0 = .ok (.aload_n 0, 1) := by decide +kernel
theorem dX11_quorumOf_1 : decode cX11_quorumOf 1 = .ok (.getfield 28, 3) := by decide +kernel
theorem dX11_quorumOf_4 : decode cX11_quorumOf 4 = .ok (.bipush 120, 2) := by decide +kernel
theorem dX11_quorumOf_6 : decode cX11_quorumOf 6 = .ok (.iload_n 1, 1) := by decide +kernel
theorem dX11_quorumOf_7 : decode cX11_quorumOf 7 = .ok (.imul, 1) := by decide +kernel
theorem dX11_quorumOf_8 : decode cX11_quorumOf 8 = .ok (.iload_n 2, 1) := by decide +kernel
theorem dX11_quorumOf_9 : decode cX11_quorumOf 9 = .ok (.iadd, 1) := by decide +kernel
theorem dX11_quorumOf_10 : decode cX11_quorumOf 10 = .ok (.iaload, 1) := by decide +kernel
theorem dX11_quorumOf_11 : decode cX11_quorumOf 11 = .ok (.ireturn, 1) := by decide +kernel
theorem dX11_act_0 : decode cX11_act 0 = .ok (.aload_n 0, 1) := by decide +kernel
theorem dX11_act_1 : decode cX11_act 1 = .ok (.getfield 101, 3) := by decide +kernel
theorem dX11_act_4 : decode cX11_act 4 = .ok (.bipush 60, 2) := by decide +kernel
theorem dX11_act_6 : decode cX11_act 6 = .ok (.if_icmp .ne 48, 3) := by decide +kernel
theorem dX11_act_9 : decode cX11_act 9 = .ok (.bipush 126, 2) := by decide +kernel
theorem dX11_act_11 : decode cX11_act 11 = .ok (.istore 4, 2) := by decide +kernel
theorem dX11_act_13 : decode cX11_act 13 = .ok (.iload 4, 2) := by decide +kernel
theorem dX11_act_15 : decode cX11_act 15 = .ok (.sipush 7560, 3) := by decide +kernel
theorem dX11_act_18 : decode cX11_act 18 = .ok (.if_icmp .ge 26, 3) := by decide +kernel
theorem dX11_act_21 : decode cX11_act 21 = .ok (.aload_n 0, 1) := by decide +kernel
theorem dX11_act_22 : decode cX11_act 22 = .ok (.getfield 46, 3) := by decide +kernel
theorem dX11_act_25 : decode cX11_act 25 = .ok (.iload 4, 2) := by decide +kernel
theorem dX11_act_27 : decode cX11_act 27 = .ok (.bipush 126, 2) := by decide +kernel
theorem dX11_act_29 : decode cX11_act 29 = .ok (.isub, 1) := by decide +kernel
theorem dX11_act_30 : decode cX11_act 30 = .ok (.aload_n 0, 1) := by decide +kernel
theorem dX11_act_31 : decode cX11_act 31 = .ok (.getfield 46, 3) := by decide +kernel
theorem dX11_act_34 : decode cX11_act 34 = .ok (.iload 4, 2) := by decide +kernel
theorem dX11_act_36 : decode cX11_act 36 = .ok (.iaload, 1) := by decide +kernel
theorem dX11_act_37 : decode cX11_act 37 = .ok (.iastore, 1) := by decide +kernel
theorem dX11_act_38 : decode cX11_act 38 = .ok (.iinc 4 1, 3) := by decide +kernel
theorem dX11_act_41 : decode cX11_act 41 = .ok (.goto (-28), 3) := by decide +kernel
theorem dX11_act_44 : decode cX11_act 44 = .ok (.aload_n 0, 1) := by decide +kernel
theorem dX11_act_45 : decode cX11_act 45 = .ok (.dup, 1) := by decide +kernel
theorem dX11_act_46 : decode cX11_act 46 = .ok (.getfield 101, 3) := by decide +kernel
theorem dX11_act_49 : decode cX11_act 49 = .ok (.iconst 1, 1) := by decide +kernel
theorem dX11_act_50 : decode cX11_act 50 = .ok (.isub, 1) := by decide +kernel
theorem dX11_act_51 : decode cX11_act 51 = .ok (.putfield 101, 3) := by decide +kernel
theorem dX11_act_54 : decode cX11_act 54 = .ok (.bipush 126, 2) := by decide +kernel
theorem dX11_act_56 : decode cX11_act 56 = .ok (.aload_n 0, 1) := by decide +kernel
theorem dX11_act_57 : decode cX11_act 57 = .ok (.getfield 101, 3) := by decide +kernel
theorem dX11_act_60 : decode cX11_act 60 = .ok (.imul, 1) := by decide +kernel
theorem dX11_act_61 : decode cX11_act 61 = .ok (.istore 4, 2) := by decide +kernel
theorem dX11_act_63 : decode cX11_act 63 = .ok (.aload_n 0, 1) := by decide +kernel
theorem dX11_act_64 : decode cX11_act 64 = .ok (.getfield 46, 3) := by decide +kernel
theorem dX11_act_67 : decode cX11_act 67 = .ok (.iload 4, 2) := by decide +kernel
theorem dX11_act_69 : decode cX11_act 69 = .ok (.iload_n 1, 1) := by decide +kernel
theorem dX11_act_70 : decode cX11_act 70 = .ok (.iastore, 1) := by decide +kernel
theorem dX11_act_71 : decode cX11_act 71 = .ok (.aload_n 0, 1) := by decide +kernel
theorem dX11_act_72 : decode cX11_act 72 = .ok (.getfield 46, 3) := by decide +kernel
theorem dX11_act_75 : decode cX11_act 75 = .ok (.iload 4, 2) := by decide +kernel
theorem dX11_act_77 : decode cX11_act 77 = .ok (.iconst 1, 1) := by decide +kernel
theorem dX11_act_78 : decode cX11_act 78 = .ok (.iadd, 1) := by decide +kernel
theorem dX11_act_79 : decode cX11_act 79 = .ok (.iload_n 2, 1) := by decide +kernel
theorem dX11_act_80 : decode cX11_act 80 = .ok (.iastore, 1) := by decide +kernel
theorem dX11_act_81 : decode cX11_act 81 = .ok (.aload_n 0, 1) := by decide +kernel
theorem dX11_act_82 : decode cX11_act 82 = .ok (.getfield 46, 3) := by decide +kernel
theorem dX11_act_85 : decode cX11_act 85 = .ok (.iload 4, 2) := by decide +kernel
theorem dX11_act_87 : decode cX11_act 87 = .ok (.iconst 2, 1) := by decide +kernel
theorem dX11_act_88 : decode cX11_act 88 = .ok (.iadd, 1) := by decide +kernel
theorem dX11_act_89 : decode cX11_act 89 = .ok (.iload_n 3, 1) := by decide +kernel
theorem dX11_act_90 : decode cX11_act 90 = .ok (.iastore, 1) := by decide +kernel
theorem dX11_act_91 : decode cX11_act 91 = .ok (.aload_n 0, 1) := by decide +kernel
theorem dX11_act_92 : decode cX11_act 92 = .ok (.dup, 1) := by decide +kernel
theorem dX11_act_93 : decode cX11_act 93 = .ok (.getfield 101, 3) := by decide +kernel
theorem dX11_act_96 : decode cX11_act 96 = .ok (.iconst 1, 1) := by decide +kernel
theorem dX11_act_97 : decode cX11_act 97 = .ok (.iadd, 1) := by decide +kernel
theorem dX11_act_98 : decode cX11_act 98 = .ok (.putfield 101, 3) := by decide +kernel
theorem dX11_act_101 : decode cX11_act 101 = .ok (.aload_n 0, 1) := by decide +kernel
theorem dX11_act_102 : decode cX11_act 102 = .ok (.iconst 0, 1) := by decide +kernel
theorem dX11_act_103 : decode cX11_act 103 = .ok (.putfield 88, 3) := by decide +kernel
theorem dX11_act_106 : decode cX11_act 106 = .ok (.return_, 1) := by decide +kernel
theorem dX11_planActs_0 : decode cX11_planActs 0 = .ok (.aload_n 0, 1) := by decide +kernel
theorem dX11_planActs_1 : decode cX11_planActs 1 = .ok (.iconst 4, 1) := by decide +kernel
theorem dX11_planActs_2 : decode cX11_planActs 2 = .ok (.iconst 0, 1) := by decide +kernel
theorem dX11_planActs_3 : decode cX11_planActs 3 = .ok (.aload_n 0, 1) := by decide +kernel
theorem dX11_planActs_4 : decode cX11_planActs 4 = .ok (.getfield 104, 3) := by decide +kernel
theorem dX11_planActs_7 : decode cX11_planActs 7 = .ok (.ifCond .eq 7, 3) := by decide +kernel
theorem dX11_planActs_10 : decode cX11_planActs 10 = .ok (.iconst 1, 1) := by decide +kernel
theorem dX11_planActs_11 : decode cX11_planActs 11 = .ok (.goto 4, 3) := by decide +kernel
theorem dX11_planActs_14 : decode cX11_planActs 14 = .ok (.iconst 0, 1) := by decide +kernel
theorem dX11_planActs_15 : decode cX11_planActs 15 = .ok (.invokevirtual 108, 3) := by decide +kernel
theorem dX11_planActs_18 : decode cX11_planActs 18 = .ok (.iconst 0, 1) := by decide +kernel
theorem dX11_planActs_19 : decode cX11_planActs 19 = .ok (.istore_n 1, 1) := by decide +kernel
theorem dX11_planActs_20 : decode cX11_planActs 20 = .ok (.iload_n 1, 1) := by decide +kernel
theorem dX11_planActs_21 : decode cX11_planActs 21 = .ok (.bipush 121, 2) := by decide +kernel
theorem dX11_planActs_23 : decode cX11_planActs 23 = .ok (.if_icmp .ge 33, 3) := by decide +kernel
theorem dX11_planActs_26 : decode cX11_planActs 26 = .ok (.aload_n 0, 1) := by decide +kernel
theorem dX11_planActs_27 : decode cX11_planActs 27 = .ok (.getfield 46, 3) := by decide +kernel
theorem dX11_planActs_30 : decode cX11_planActs 30 = .ok (.bipush 126, 2) := by decide +kernel
theorem dX11_planActs_32 : decode cX11_planActs 32 = .ok (.aload_n 0, 1) := by decide +kernel
theorem dX11_planActs_33 : decode cX11_planActs 33 = .ok (.getfield 101, 3) := by decide +kernel
theorem dX11_planActs_36 : decode cX11_planActs 36 = .ok (.iconst 1, 1) := by decide +kernel
theorem dX11_planActs_37 : decode cX11_planActs 37 = .ok (.isub, 1) := by decide +kernel
theorem dX11_planActs_38 : decode cX11_planActs 38 = .ok (.imul, 1) := by decide +kernel
theorem dX11_planActs_39 : decode cX11_planActs 39 = .ok (.iconst 3, 1) := by decide +kernel
theorem dX11_planActs_40 : decode cX11_planActs 40 = .ok (.iadd, 1) := by decide +kernel
theorem dX11_planActs_41 : decode cX11_planActs 41 = .ok (.iload_n 1, 1) := by decide +kernel
theorem dX11_planActs_42 : decode cX11_planActs 42 = .ok (.iadd, 1) := by decide +kernel
theorem dX11_planActs_43 : decode cX11_planActs 43 = .ok (.aload_n 0, 1) := by decide +kernel
theorem dX11_planActs_44 : decode cX11_planActs 44 = .ok (.getfield 31, 3) := by decide +kernel
theorem dX11_planActs_47 : decode cX11_planActs 47 = .ok (.iload_n 1, 1) := by decide +kernel
theorem dX11_planActs_48 : decode cX11_planActs 48 = .ok (.iaload, 1) := by decide +kernel
theorem dX11_planActs_49 : decode cX11_planActs 49 = .ok (.iastore, 1) := by decide +kernel
theorem dX11_planActs_50 : decode cX11_planActs 50 = .ok (.iinc 1 1, 3) := by decide +kernel
theorem dX11_planActs_53 : decode cX11_planActs 53 = .ok (.goto (-33), 3) := by decide +kernel
theorem dX11_planActs_56 : decode cX11_planActs 56 = .ok (.return_, 1) := by decide +kernel
theorem dX11_caseActs_0 : decode cX11_caseActs 0 = .ok (.aload_n 0, 1) := by decide +kernel
theorem dX11_caseActs_1 : decode cX11_caseActs 1 = .ok (.iconst 5, 1) := by decide +kernel
theorem dX11_caseActs_2 : decode cX11_caseActs 2 = .ok (.iload_n 1, 1) := by decide +kernel
theorem dX11_caseActs_3 : decode cX11_caseActs 3 = .ok (.aload_n 0, 1) := by decide +kernel
theorem dX11_caseActs_4 : decode cX11_caseActs 4 = .ok (.getfield 34, 3) := by decide +kernel
theorem dX11_caseActs_7 : decode cX11_caseActs 7 = .ok (.iload_n 1, 1) := by decide +kernel
theorem dX11_caseActs_8 : decode cX11_caseActs 8 = .ok (.iaload, 1) := by decide +kernel
theorem dX11_caseActs_9 : decode cX11_caseActs 9 = .ok (.invokevirtual 108, 3) := by decide +kernel
theorem dX11_caseActs_12 : decode cX11_caseActs 12 = .ok (.bipush 126, 2) := by decide +kernel
theorem dX11_caseActs_14 : decode cX11_caseActs 14 = .ok (.aload_n 0, 1) := by decide +kernel
theorem dX11_caseActs_15 : decode cX11_caseActs 15 = .ok (.getfield 101, 3) := by decide +kernel
theorem dX11_caseActs_18 : decode cX11_caseActs 18 = .ok (.iconst 1, 1) := by decide +kernel
theorem dX11_caseActs_19 : decode cX11_caseActs 19 = .ok (.isub, 1) := by decide +kernel
theorem dX11_caseActs_20 : decode cX11_caseActs 20 = .ok (.imul, 1) := by decide +kernel
theorem dX11_caseActs_21 : decode cX11_caseActs 21 = .ok (.istore_n 2, 1) := by decide +kernel
theorem dX11_caseActs_22 : decode cX11_caseActs 22 = .ok (.aload_n 0, 1) := by decide +kernel
theorem dX11_caseActs_23 : decode cX11_caseActs 23 = .ok (.getfield 46, 3) := by decide +kernel
theorem dX11_caseActs_26 : decode cX11_caseActs 26 = .ok (.iload_n 2, 1) := by decide +kernel
theorem dX11_caseActs_27 : decode cX11_caseActs 27 = .ok (.iconst 3, 1) := by decide +kernel
theorem dX11_caseActs_28 : decode cX11_caseActs 28 = .ok (.iadd, 1) := by decide +kernel
theorem dX11_caseActs_29 : decode cX11_caseActs 29 = .ok (.aload_n 0, 1) := by decide +kernel
theorem dX11_caseActs_30 : decode cX11_caseActs 30 = .ok (.getfield 37, 3) := by decide +kernel
theorem dX11_caseActs_33 : decode cX11_caseActs 33 = .ok (.iload_n 1, 1) := by decide +kernel
theorem dX11_caseActs_34 : decode cX11_caseActs 34 = .ok (.iaload, 1) := by decide +kernel
theorem dX11_caseActs_35 : decode cX11_caseActs 35 = .ok (.iastore, 1) := by decide +kernel
theorem dX11_caseActs_36 : decode cX11_caseActs 36 = .ok (.iconst 0, 1) := by decide +kernel
theorem dX11_caseActs_37 : decode cX11_caseActs 37 = .ok (.istore_n 3, 1) := by decide +kernel
theorem dX11_caseActs_38 : decode cX11_caseActs 38 = .ok (.iload_n 3, 1) := by decide +kernel
theorem dX11_caseActs_39 : decode cX11_caseActs 39 = .ok (.bipush 121, 2) := by decide +kernel
theorem dX11_caseActs_41 : decode cX11_caseActs 41 = .ok (.if_icmp .ge 30, 3) := by decide +kernel
theorem dX11_caseActs_44 : decode cX11_caseActs 44 = .ok (.aload_n 0, 1) := by decide +kernel
theorem dX11_caseActs_45 : decode cX11_caseActs 45 = .ok (.getfield 46, 3) := by decide +kernel
theorem dX11_caseActs_48 : decode cX11_caseActs 48 = .ok (.iload_n 2, 1) := by decide +kernel
theorem dX11_caseActs_49 : decode cX11_caseActs 49 = .ok (.iconst 4, 1) := by decide +kernel
theorem dX11_caseActs_50 : decode cX11_caseActs 50 = .ok (.iadd, 1) := by decide +kernel
theorem dX11_caseActs_51 : decode cX11_caseActs 51 = .ok (.iload_n 3, 1) := by decide +kernel
theorem dX11_caseActs_52 : decode cX11_caseActs 52 = .ok (.iadd, 1) := by decide +kernel
theorem dX11_caseActs_53 : decode cX11_caseActs 53 = .ok (.aload_n 0, 1) := by decide +kernel
theorem dX11_caseActs_54 : decode cX11_caseActs 54 = .ok (.getfield 40, 3) := by decide +kernel
theorem dX11_caseActs_57 : decode cX11_caseActs 57 = .ok (.bipush 121, 2) := by decide +kernel
theorem dX11_caseActs_59 : decode cX11_caseActs 59 = .ok (.iload_n 1, 1) := by decide +kernel
theorem dX11_caseActs_60 : decode cX11_caseActs 60 = .ok (.imul, 1) := by decide +kernel
theorem dX11_caseActs_61 : decode cX11_caseActs 61 = .ok (.iload_n 3, 1) := by decide +kernel
theorem dX11_caseActs_62 : decode cX11_caseActs 62 = .ok (.iadd, 1) := by decide +kernel
theorem dX11_caseActs_63 : decode cX11_caseActs 63 = .ok (.iaload, 1) := by decide +kernel
theorem dX11_caseActs_64 : decode cX11_caseActs 64 = .ok (.iastore, 1) := by decide +kernel
theorem dX11_caseActs_65 : decode cX11_caseActs 65 = .ok (.iinc 3 1, 3) := by decide +kernel
theorem dX11_caseActs_68 : decode cX11_caseActs 68 = .ok (.goto (-30), 3) := by decide +kernel
theorem dX11_caseActs_71 : decode cX11_caseActs 71 = .ok (.return_, 1) := by decide +kernel
theorem dX11_undo_0 : decode cX11_undo 0 = .ok (.aload_n 0, 1) := by decide +kernel
theorem dX11_undo_1 : decode cX11_undo 1 = .ok (.iconst 0, 1) := by decide +kernel
theorem dX11_undo_2 : decode cX11_undo 2 = .ok (.putfield 84, 3) := by decide +kernel
theorem dX11_undo_5 : decode cX11_undo 5 = .ok (.aload_n 0, 1) := by decide +kernel
theorem dX11_undo_6 : decode cX11_undo 6 = .ok (.getfield 101, 3) := by decide +kernel
theorem dX11_undo_9 : decode cX11_undo 9 = .ok (.ifCond .ne 5, 3) := by decide +kernel
theorem dX11_undo_12 : decode cX11_undo 12 = .ok (.iconst 0, 1) := by decide +kernel
theorem dX11_undo_13 : decode cX11_undo 13 = .ok (.ireturn, 1) := by decide +kernel
theorem dX11_undo_14 : decode cX11_undo 14 = .ok (.aload_n 0, 1) := by decide +kernel
theorem dX11_undo_15 : decode cX11_undo 15 = .ok (.dup, 1) := by decide +kernel
theorem dX11_undo_16 : decode cX11_undo 16 = .ok (.getfield 101, 3) := by decide +kernel
theorem dX11_undo_19 : decode cX11_undo 19 = .ok (.iconst 1, 1) := by decide +kernel
theorem dX11_undo_20 : decode cX11_undo 20 = .ok (.isub, 1) := by decide +kernel
theorem dX11_undo_21 : decode cX11_undo 21 = .ok (.putfield 101, 3) := by decide +kernel
theorem dX11_undo_24 : decode cX11_undo 24 = .ok (.bipush 126, 2) := by decide +kernel
theorem dX11_undo_26 : decode cX11_undo 26 = .ok (.aload_n 0, 1) := by decide +kernel
theorem dX11_undo_27 : decode cX11_undo 27 = .ok (.getfield 101, 3) := by decide +kernel
theorem dX11_undo_30 : decode cX11_undo 30 = .ok (.imul, 1) := by decide +kernel
theorem dX11_undo_31 : decode cX11_undo 31 = .ok (.istore_n 1, 1) := by decide +kernel
theorem dX11_undo_32 : decode cX11_undo 32 = .ok (.aload_n 0, 1) := by decide +kernel
theorem dX11_undo_33 : decode cX11_undo 33 = .ok (.getfield 46, 3) := by decide +kernel
theorem dX11_undo_36 : decode cX11_undo 36 = .ok (.iload_n 1, 1) := by decide +kernel
theorem dX11_undo_37 : decode cX11_undo 37 = .ok (.iconst 1, 1) := by decide +kernel
theorem dX11_undo_38 : decode cX11_undo 38 = .ok (.iadd, 1) := by decide +kernel
theorem dX11_undo_39 : decode cX11_undo 39 = .ok (.iaload, 1) := by decide +kernel
theorem dX11_undo_40 : decode cX11_undo 40 = .ok (.istore_n 2, 1) := by decide +kernel
theorem dX11_undo_41 : decode cX11_undo 41 = .ok (.aload_n 0, 1) := by decide +kernel
theorem dX11_undo_42 : decode cX11_undo 42 = .ok (.getfield 46, 3) := by decide +kernel
theorem dX11_undo_45 : decode cX11_undo 45 = .ok (.iload_n 1, 1) := by decide +kernel
theorem dX11_undo_46 : decode cX11_undo 46 = .ok (.iconst 2, 1) := by decide +kernel
theorem dX11_undo_47 : decode cX11_undo 47 = .ok (.iadd, 1) := by decide +kernel
theorem dX11_undo_48 : decode cX11_undo 48 = .ok (.iaload, 1) := by decide +kernel
theorem dX11_undo_49 : decode cX11_undo 49 = .ok (.istore_n 3, 1) := by decide +kernel
theorem dX11_undo_50 : decode cX11_undo 50 = .ok (.aload_n 0, 1) := by decide +kernel
theorem dX11_undo_51 : decode cX11_undo 51 = .ok (.getfield 46, 3) := by decide +kernel
theorem dX11_undo_54 : decode cX11_undo 54 = .ok (.iload_n 1, 1) := by decide +kernel
theorem dX11_undo_55 : decode cX11_undo 55 = .ok (.iaload, 1) := by decide +kernel
theorem dX11_undo_56 : decode cX11_undo 56 = .ok (.tableswitch 138 0 4 #[36, 54, 64, 77, 87], 36) := by decide +kernel
theorem dX11_undo_92 : decode cX11_undo 92 = .ok (.aload_n 0, 1) := by decide +kernel
theorem dX11_undo_93 : decode cX11_undo 93 = .ok (.dup, 1) := by decide +kernel
theorem dX11_undo_94 : decode cX11_undo 94 = .ok (.getfield 91, 3) := by decide +kernel
theorem dX11_undo_97 : decode cX11_undo 97 = .ok (.iconst 1, 1) := by decide +kernel
theorem dX11_undo_98 : decode cX11_undo 98 = .ok (.isub, 1) := by decide +kernel
theorem dX11_undo_99 : decode cX11_undo 99 = .ok (.putfield 91, 3) := by decide +kernel
theorem dX11_undo_102 : decode cX11_undo 102 = .ok (.aload_n 0, 1) := by decide +kernel
theorem dX11_undo_103 : decode cX11_undo 103 = .ok (.iconst 0, 1) := by decide +kernel
theorem dX11_undo_104 : decode cX11_undo 104 = .ok (.putfield 112, 3) := by decide +kernel
theorem dX11_undo_107 : decode cX11_undo 107 = .ok (.goto 147, 3) := by decide +kernel
theorem dX11_undo_110 : decode cX11_undo 110 = .ok (.aload_n 0, 1) := by decide +kernel
theorem dX11_undo_111 : decode cX11_undo 111 = .ok (.getfield 13, 3) := by decide +kernel
theorem dX11_undo_114 : decode cX11_undo 114 = .ok (.iload_n 2, 1) := by decide +kernel
theorem dX11_undo_115 : decode cX11_undo 115 = .ok (.iload_n 3, 1) := by decide +kernel
theorem dX11_undo_116 : decode cX11_undo 116 = .ok (.iastore, 1) := by decide +kernel
theorem dX11_undo_117 : decode cX11_undo 117 = .ok (.goto 137, 3) := by decide +kernel
theorem dX11_undo_120 : decode cX11_undo 120 = .ok (.aload_n 0, 1) := by decide +kernel
theorem dX11_undo_121 : decode cX11_undo 121 = .ok (.dup, 1) := by decide +kernel
theorem dX11_undo_122 : decode cX11_undo 122 = .ok (.getfield 94, 3) := by decide +kernel
theorem dX11_undo_125 : decode cX11_undo 125 = .ok (.iconst 1, 1) := by decide +kernel
theorem dX11_undo_126 : decode cX11_undo 126 = .ok (.isub, 1) := by decide +kernel
theorem dX11_undo_127 : decode cX11_undo 127 = .ok (.putfield 94, 3) := by decide +kernel
theorem dX11_undo_130 : decode cX11_undo 130 = .ok (.goto 124, 3) := by decide +kernel
theorem dX11_undo_133 : decode cX11_undo 133 = .ok (.aload_n 0, 1) := by decide +kernel
theorem dX11_undo_134 : decode cX11_undo 134 = .ok (.getfield 16, 3) := by decide +kernel
theorem dX11_undo_137 : decode cX11_undo 137 = .ok (.iload_n 2, 1) := by decide +kernel
theorem dX11_undo_138 : decode cX11_undo 138 = .ok (.iload_n 3, 1) := by decide +kernel
theorem dX11_undo_139 : decode cX11_undo 139 = .ok (.iastore, 1) := by decide +kernel
theorem dX11_undo_140 : decode cX11_undo 140 = .ok (.goto 114, 3) := by decide +kernel
theorem dX11_undo_143 : decode cX11_undo 143 = .ok (.aload_n 0, 1) := by decide +kernel
theorem dX11_undo_144 : decode cX11_undo 144 = .ok (.iload_n 3, 1) := by decide +kernel
theorem dX11_undo_145 : decode cX11_undo 145 = .ok (.iconst 1, 1) := by decide +kernel
theorem dX11_undo_146 : decode cX11_undo 146 = .ok (.if_icmp .ne 7, 3) := by decide +kernel
theorem dX11_undo_149 : decode cX11_undo 149 = .ok (.iconst 1, 1) := by decide +kernel
theorem dX11_undo_150 : decode cX11_undo 150 = .ok (.goto 4, 3) := by decide +kernel
theorem dX11_undo_153 : decode cX11_undo 153 = .ok (.iconst 0, 1) := by decide +kernel
theorem dX11_undo_154 : decode cX11_undo 154 = .ok (.putfield 104, 3) := by decide +kernel
theorem dX11_undo_157 : decode cX11_undo 157 = .ok (.iconst 0, 1) := by decide +kernel
theorem dX11_undo_158 : decode cX11_undo 158 = .ok (.istore 4, 2) := by decide +kernel
theorem dX11_undo_160 : decode cX11_undo 160 = .ok (.iload 4, 2) := by decide +kernel
theorem dX11_undo_162 : decode cX11_undo 162 = .ok (.bipush 121, 2) := by decide +kernel
theorem dX11_undo_164 : decode cX11_undo 164 = .ok (.if_icmp .ge 27, 3) := by decide +kernel
theorem dX11_undo_167 : decode cX11_undo 167 = .ok (.aload_n 0, 1) := by decide +kernel
theorem dX11_undo_168 : decode cX11_undo 168 = .ok (.getfield 31, 3) := by decide +kernel
theorem dX11_undo_171 : decode cX11_undo 171 = .ok (.iload 4, 2) := by decide +kernel
theorem dX11_undo_173 : decode cX11_undo 173 = .ok (.aload_n 0, 1) := by decide +kernel
theorem dX11_undo_174 : decode cX11_undo 174 = .ok (.getfield 46, 3) := by decide +kernel
theorem dX11_undo_177 : decode cX11_undo 177 = .ok (.iload_n 1, 1) := by decide +kernel
theorem dX11_undo_178 : decode cX11_undo 178 = .ok (.iconst 3, 1) := by decide +kernel
theorem dX11_undo_179 : decode cX11_undo 179 = .ok (.iadd, 1) := by decide +kernel
theorem dX11_undo_180 : decode cX11_undo 180 = .ok (.iload 4, 2) := by decide +kernel
theorem dX11_undo_182 : decode cX11_undo 182 = .ok (.iadd, 1) := by decide +kernel
theorem dX11_undo_183 : decode cX11_undo 183 = .ok (.iaload, 1) := by decide +kernel
theorem dX11_undo_184 : decode cX11_undo 184 = .ok (.iastore, 1) := by decide +kernel
theorem dX11_undo_185 : decode cX11_undo 185 = .ok (.iinc 4 1, 3) := by decide +kernel
theorem dX11_undo_188 : decode cX11_undo 188 = .ok (.goto (-28), 3) := by decide +kernel
theorem dX11_undo_191 : decode cX11_undo 191 = .ok (.goto 63, 3) := by decide +kernel
theorem dX11_undo_194 : decode cX11_undo 194 = .ok (.aload_n 0, 1) := by decide +kernel
theorem dX11_undo_195 : decode cX11_undo 195 = .ok (.getfield 34, 3) := by decide +kernel
theorem dX11_undo_198 : decode cX11_undo 198 = .ok (.iload_n 2, 1) := by decide +kernel
theorem dX11_undo_199 : decode cX11_undo 199 = .ok (.iload_n 3, 1) := by decide +kernel
theorem dX11_undo_200 : decode cX11_undo 200 = .ok (.iastore, 1) := by decide +kernel
theorem dX11_undo_201 : decode cX11_undo 201 = .ok (.aload_n 0, 1) := by decide +kernel
theorem dX11_undo_202 : decode cX11_undo 202 = .ok (.getfield 37, 3) := by decide +kernel
theorem dX11_undo_205 : decode cX11_undo 205 = .ok (.iload_n 2, 1) := by decide +kernel
theorem dX11_undo_206 : decode cX11_undo 206 = .ok (.aload_n 0, 1) := by decide +kernel
theorem dX11_undo_207 : decode cX11_undo 207 = .ok (.getfield 46, 3) := by decide +kernel
theorem dX11_undo_210 : decode cX11_undo 210 = .ok (.iload_n 1, 1) := by decide +kernel
theorem dX11_undo_211 : decode cX11_undo 211 = .ok (.iconst 3, 1) := by decide +kernel
theorem dX11_undo_212 : decode cX11_undo 212 = .ok (.iadd, 1) := by decide +kernel
theorem dX11_undo_213 : decode cX11_undo 213 = .ok (.iaload, 1) := by decide +kernel
theorem dX11_undo_214 : decode cX11_undo 214 = .ok (.iastore, 1) := by decide +kernel
theorem dX11_undo_215 : decode cX11_undo 215 = .ok (.iconst 0, 1) := by decide +kernel
theorem dX11_undo_216 : decode cX11_undo 216 = .ok (.istore 4, 2) := by decide +kernel
theorem dX11_undo_218 : decode cX11_undo 218 = .ok (.iload 4, 2) := by decide +kernel
theorem dX11_undo_220 : decode cX11_undo 220 = .ok (.bipush 121, 2) := by decide +kernel
theorem dX11_undo_222 : decode cX11_undo 222 = .ok (.if_icmp .ge 32, 3) := by decide +kernel
theorem dX11_undo_225 : decode cX11_undo 225 = .ok (.aload_n 0, 1) := by decide +kernel
theorem dX11_undo_226 : decode cX11_undo 226 = .ok (.getfield 40, 3) := by decide +kernel
theorem dX11_undo_229 : decode cX11_undo 229 = .ok (.bipush 121, 2) := by decide +kernel
theorem dX11_undo_231 : decode cX11_undo 231 = .ok (.iload_n 2, 1) := by decide +kernel
theorem dX11_undo_232 : decode cX11_undo 232 = .ok (.imul, 1) := by decide +kernel
theorem dX11_undo_233 : decode cX11_undo 233 = .ok (.iload 4, 2) := by decide +kernel
theorem dX11_undo_235 : decode cX11_undo 235 = .ok (.iadd, 1) := by decide +kernel
theorem dX11_undo_236 : decode cX11_undo 236 = .ok (.aload_n 0, 1) := by decide +kernel
theorem dX11_undo_237 : decode cX11_undo 237 = .ok (.getfield 46, 3) := by decide +kernel
theorem dX11_undo_240 : decode cX11_undo 240 = .ok (.iload_n 1, 1) := by decide +kernel
theorem dX11_undo_241 : decode cX11_undo 241 = .ok (.iconst 4, 1) := by decide +kernel
theorem dX11_undo_242 : decode cX11_undo 242 = .ok (.iadd, 1) := by decide +kernel
theorem dX11_undo_243 : decode cX11_undo 243 = .ok (.iload 4, 2) := by decide +kernel
theorem dX11_undo_245 : decode cX11_undo 245 = .ok (.iadd, 1) := by decide +kernel
theorem dX11_undo_246 : decode cX11_undo 246 = .ok (.iaload, 1) := by decide +kernel
theorem dX11_undo_247 : decode cX11_undo 247 = .ok (.iastore, 1) := by decide +kernel
theorem dX11_undo_248 : decode cX11_undo 248 = .ok (.iinc 4 1, 3) := by decide +kernel
theorem dX11_undo_251 : decode cX11_undo 251 = .ok (.goto (-33), 3) := by decide +kernel
theorem dX11_undo_254 : decode cX11_undo 254 = .ok (.iconst 1, 1) := by decide +kernel
theorem dX11_undo_255 : decode cX11_undo 255 = .ok (.ireturn, 1) := by decide +kernel
theorem dX11_keeper_0 : decode cX11_keeper 0 = .ok (.aload_n 0, 1) := by decide +kernel
theorem dX11_keeper_1 : decode cX11_keeper 1 = .ok (.iconst 0, 1) := by decide +kernel
theorem dX11_keeper_2 : decode cX11_keeper 2 = .ok (.putfield 84, 3) := by decide +kernel
theorem dX11_keeper_5 : decode cX11_keeper 5 = .ok (.aload_n 0, 1) := by decide +kernel
theorem dX11_keeper_6 : decode cX11_keeper 6 = .ok (.iload_n 1, 1) := by decide +kernel
theorem dX11_keeper_7 : decode cX11_keeper 7 = .ok (.iconst 1, 1) := by decide +kernel
theorem dX11_keeper_8 : decode cX11_keeper 8 = .ok (.bipush 100, 2) := by decide +kernel
theorem dX11_keeper_10 : decode cX11_keeper 10 = .ok (.invokevirtual 97, 3) := by decide +kernel
theorem dX11_keeper_13 : decode cX11_keeper 13 = .ok (.ifCond .eq 14, 3) := by decide +kernel
theorem dX11_keeper_16 : decode cX11_keeper 16 = .ok (.aload_n 0, 1) := by decide +kernel
theorem dX11_keeper_17 : decode cX11_keeper 17 = .ok (.iload_n 2, 1) := by decide +kernel
theorem dX11_keeper_18 : decode cX11_keeper 18 = .ok (.iconst 0, 1) := by decide +kernel
theorem dX11_keeper_19 : decode cX11_keeper 19 = .ok (.bipush 10, 2) := by decide +kernel
theorem dX11_keeper_21 : decode cX11_keeper 21 = .ok (.invokevirtual 97, 3) := by decide +kernel
theorem dX11_keeper_24 : decode cX11_keeper 24 = .ok (.ifCond .ne 9, 3) := by decide +kernel
theorem dX11_keeper_27 : decode cX11_keeper 27 = .ok (.aload_n 0, 1) := by decide +kernel
theorem dX11_keeper_28 : decode cX11_keeper 28 = .ok (.iconst 2, 1) := by decide +kernel
theorem dX11_keeper_29 : decode cX11_keeper 29 = .ok (.invokevirtual 115, 3) := by decide +kernel
theorem dX11_keeper_32 : decode cX11_keeper 32 = .ok (.ireturn, 1) := by decide +kernel
theorem dX11_keeper_33 : decode cX11_keeper 33 = .ok (.aload_n 0, 1) := by decide +kernel
theorem dX11_keeper_34 : decode cX11_keeper 34 = .ok (.getfield 91, 3) := by decide +kernel
theorem dX11_keeper_37 : decode cX11_keeper 37 = .ok (.bipush 16, 2) := by decide +kernel
theorem dX11_keeper_39 : decode cX11_keeper 39 = .ok (.if_icmp .ne 9, 3) := by decide +kernel
theorem dX11_keeper_42 : decode cX11_keeper 42 = .ok (.aload_n 0, 1) := by decide +kernel
theorem dX11_keeper_43 : decode cX11_keeper 43 = .ok (.iconst 4, 1) := by decide +kernel
theorem dX11_keeper_44 : decode cX11_keeper 44 = .ok (.invokevirtual 115, 3) := by decide +kernel
theorem dX11_keeper_47 : decode cX11_keeper 47 = .ok (.ireturn, 1) := by decide +kernel
theorem dX11_keeper_48 : decode cX11_keeper 48 = .ok (.aload_n 0, 1) := by decide +kernel
theorem dX11_keeper_49 : decode cX11_keeper 49 = .ok (.getfield 7, 3) := by decide +kernel
theorem dX11_keeper_52 : decode cX11_keeper 52 = .ok (.aload_n 0, 1) := by decide +kernel
theorem dX11_keeper_53 : decode cX11_keeper 53 = .ok (.getfield 91, 3) := by decide +kernel
theorem dX11_keeper_56 : decode cX11_keeper 56 = .ok (.iload_n 1, 1) := by decide +kernel
theorem dX11_keeper_57 : decode cX11_keeper 57 = .ok (.iastore, 1) := by decide +kernel
theorem dX11_keeper_58 : decode cX11_keeper 58 = .ok (.aload_n 0, 1) := by decide +kernel
theorem dX11_keeper_59 : decode cX11_keeper 59 = .ok (.getfield 13, 3) := by decide +kernel
theorem dX11_keeper_62 : decode cX11_keeper 62 = .ok (.aload_n 0, 1) := by decide +kernel
theorem dX11_keeper_63 : decode cX11_keeper 63 = .ok (.getfield 91, 3) := by decide +kernel
theorem dX11_keeper_66 : decode cX11_keeper 66 = .ok (.iload_n 2, 1) := by decide +kernel
theorem dX11_keeper_67 : decode cX11_keeper 67 = .ok (.iastore, 1) := by decide +kernel
theorem dX11_keeper_68 : decode cX11_keeper 68 = .ok (.aload_n 0, 1) := by decide +kernel
theorem dX11_keeper_69 : decode cX11_keeper 69 = .ok (.getfield 16, 3) := by decide +kernel
theorem dX11_keeper_72 : decode cX11_keeper 72 = .ok (.aload_n 0, 1) := by decide +kernel
theorem dX11_keeper_73 : decode cX11_keeper 73 = .ok (.getfield 91, 3) := by decide +kernel
theorem dX11_keeper_76 : decode cX11_keeper 76 = .ok (.iconst 0, 1) := by decide +kernel
theorem dX11_keeper_77 : decode cX11_keeper 77 = .ok (.iastore, 1) := by decide +kernel
theorem dX11_keeper_78 : decode cX11_keeper 78 = .ok (.aload_n 0, 1) := by decide +kernel
theorem dX11_keeper_79 : decode cX11_keeper 79 = .ok (.dup, 1) := by decide +kernel
theorem dX11_keeper_80 : decode cX11_keeper 80 = .ok (.getfield 91, 3) := by decide +kernel
theorem dX11_keeper_83 : decode cX11_keeper 83 = .ok (.iconst 1, 1) := by decide +kernel
theorem dX11_keeper_84 : decode cX11_keeper 84 = .ok (.iadd, 1) := by decide +kernel
theorem dX11_keeper_85 : decode cX11_keeper 85 = .ok (.putfield 91, 3) := by decide +kernel
theorem dX11_keeper_88 : decode cX11_keeper 88 = .ok (.aload_n 0, 1) := by decide +kernel
theorem dX11_keeper_89 : decode cX11_keeper 89 = .ok (.iconst 0, 1) := by decide +kernel
theorem dX11_keeper_90 : decode cX11_keeper 90 = .ok (.iconst 0, 1) := by decide +kernel
theorem dX11_keeper_91 : decode cX11_keeper 91 = .ok (.iconst 0, 1) := by decide +kernel
theorem dX11_keeper_92 : decode cX11_keeper 92 = .ok (.invokevirtual 108, 3) := by decide +kernel
theorem dX11_keeper_95 : decode cX11_keeper 95 = .ok (.aload_n 0, 1) := by decide +kernel
theorem dX11_keeper_96 : decode cX11_keeper 96 = .ok (.getfield 91, 3) := by decide +kernel
theorem dX11_keeper_99 : decode cX11_keeper 99 = .ok (.iconst 1, 1) := by decide +kernel
theorem dX11_keeper_100 : decode cX11_keeper 100 = .ok (.isub, 1) := by decide +kernel
theorem dX11_keeper_101 : decode cX11_keeper 101 = .ok (.ireturn, 1) := by decide +kernel
theorem dX11_tenths_0 : decode cX11_tenths 0 = .ok (.aload_n 0, 1) := by decide +kernel
theorem dX11_tenths_1 : decode cX11_tenths 1 = .ok (.iconst 0, 1) := by decide +kernel
theorem dX11_tenths_2 : decode cX11_tenths 2 = .ok (.putfield 84, 3) := by decide +kernel
theorem dX11_tenths_5 : decode cX11_tenths 5 = .ok (.aload_n 0, 1) := by decide +kernel
theorem dX11_tenths_6 : decode cX11_tenths 6 = .ok (.iload_n 1, 1) := by decide +kernel
theorem dX11_tenths_7 : decode cX11_tenths 7 = .ok (.iconst 0, 1) := by decide +kernel
theorem dX11_tenths_8 : decode cX11_tenths 8 = .ok (.aload_n 0, 1) := by decide +kernel
theorem dX11_tenths_9 : decode cX11_tenths 9 = .ok (.getfield 91, 3) := by decide +kernel
theorem dX11_tenths_12 : decode cX11_tenths 12 = .ok (.iconst 1, 1) := by decide +kernel
theorem dX11_tenths_13 : decode cX11_tenths 13 = .ok (.isub, 1) := by decide +kernel
theorem dX11_tenths_14 : decode cX11_tenths 14 = .ok (.invokevirtual 97, 3) := by decide +kernel
theorem dX11_tenths_17 : decode cX11_tenths 17 = .ok (.ifCond .ne 9, 3) := by decide +kernel
theorem dX11_tenths_20 : decode cX11_tenths 20 = .ok (.aload_n 0, 1) := by decide +kernel
theorem dX11_tenths_21 : decode cX11_tenths 21 = .ok (.iconst 1, 1) := by decide +kernel
theorem dX11_tenths_22 : decode cX11_tenths 22 = .ok (.invokevirtual 119, 3) := by decide +kernel
theorem dX11_tenths_25 : decode cX11_tenths 25 = .ok (.ireturn, 1) := by decide +kernel
theorem dX11_tenths_26 : decode cX11_tenths 26 = .ok (.aload_n 0, 1) := by decide +kernel
theorem dX11_tenths_27 : decode cX11_tenths 27 = .ok (.iload_n 2, 1) := by decide +kernel
theorem dX11_tenths_28 : decode cX11_tenths 28 = .ok (.iconst 0, 1) := by decide +kernel
theorem dX11_tenths_29 : decode cX11_tenths 29 = .ok (.bipush 10, 2) := by decide +kernel
theorem dX11_tenths_31 : decode cX11_tenths 31 = .ok (.invokevirtual 97, 3) := by decide +kernel
theorem dX11_tenths_34 : decode cX11_tenths 34 = .ok (.ifCond .ne 9, 3) := by decide +kernel
theorem dX11_tenths_37 : decode cX11_tenths 37 = .ok (.aload_n 0, 1) := by decide +kernel
theorem dX11_tenths_38 : decode cX11_tenths 38 = .ok (.iconst 2, 1) := by decide +kernel
theorem dX11_tenths_39 : decode cX11_tenths 39 = .ok (.invokevirtual 119, 3) := by decide +kernel
theorem dX11_tenths_42 : decode cX11_tenths 42 = .ok (.ireturn, 1) := by decide +kernel
theorem dX11_tenths_43 : decode cX11_tenths 43 = .ok (.aload_n 0, 1) := by decide +kernel
theorem dX11_tenths_44 : decode cX11_tenths 44 = .ok (.iconst 1, 1) := by decide +kernel
theorem dX11_tenths_45 : decode cX11_tenths 45 = .ok (.iload_n 1, 1) := by decide +kernel
theorem dX11_tenths_46 : decode cX11_tenths 46 = .ok (.aload_n 0, 1) := by decide +kernel
theorem dX11_tenths_47 : decode cX11_tenths 47 = .ok (.getfield 13, 3) := by decide +kernel
theorem dX11_tenths_50 : decode cX11_tenths 50 = .ok (.iload_n 1, 1) := by decide +kernel
theorem dX11_tenths_51 : decode cX11_tenths 51 = .ok (.iaload, 1) := by decide +kernel
theorem dX11_tenths_52 : decode cX11_tenths 52 = .ok (.invokevirtual 108, 3) := by decide +kernel
theorem dX11_tenths_55 : decode cX11_tenths 55 = .ok (.aload_n 0, 1) := by decide +kernel
theorem dX11_tenths_56 : decode cX11_tenths 56 = .ok (.getfield 13, 3) := by decide +kernel
theorem dX11_tenths_59 : decode cX11_tenths 59 = .ok (.iload_n 1, 1) := by decide +kernel
theorem dX11_tenths_60 : decode cX11_tenths 60 = .ok (.iload_n 2, 1) := by decide +kernel
theorem dX11_tenths_61 : decode cX11_tenths 61 = .ok (.iastore, 1) := by decide +kernel
theorem dX11_tenths_62 : decode cX11_tenths 62 = .ok (.iconst 1, 1) := by decide +kernel
theorem dX11_tenths_63 : decode cX11_tenths 63 = .ok (.ireturn, 1) := by decide +kernel
theorem dX11_keeperOf_0 : decode cX11_keeperOf 0 = .ok (.aload_n 0, 1) := by decide +kernel
theorem dX11_keeperOf_1 : decode cX11_keeperOf 1 = .ok (.iconst 0, 1) := by decide +kernel
theorem dX11_keeperOf_2 : decode cX11_keeperOf 2 = .ok (.putfield 84, 3) := by decide +kernel
theorem dX11_keeperOf_5 : decode cX11_keeperOf 5 = .ok (.aload_n 0, 1) := by decide +kernel
theorem dX11_keeperOf_6 : decode cX11_keeperOf 6 = .ok (.iload_n 1, 1) := by decide +kernel
theorem dX11_keeperOf_7 : decode cX11_keeperOf 7 = .ok (.iconst 0, 1) := by decide +kernel
theorem dX11_keeperOf_8 : decode cX11_keeperOf 8 = .ok (.aload_n 0, 1) := by decide +kernel
theorem dX11_keeperOf_9 : decode cX11_keeperOf 9 = .ok (.getfield 91, 3) := by decide +kernel
theorem dX11_keeperOf_12 : decode cX11_keeperOf 12 = .ok (.iconst 1, 1) := by decide +kernel
theorem dX11_keeperOf_13 : decode cX11_keeperOf 13 = .ok (.isub, 1) := by decide +kernel
theorem dX11_keeperOf_14 : decode cX11_keeperOf 14 = .ok (.invokevirtual 97, 3) := by decide +kernel
theorem dX11_keeperOf_17 : decode cX11_keeperOf 17 = .ok (.ifCond .ne 5, 3) := by decide +kernel
theorem dX11_keeperOf_20 : decode cX11_keeperOf 20 = .ok (.iconst (-1), 1) := by decide +kernel
theorem dX11_keeperOf_21 : decode cX11_keeperOf 21 = .ok (.ireturn, 1) := by decide +kernel
theorem dX11_keeperOf_22 : decode cX11_keeperOf 22 = .ok (.iload_n 2, 1) := by decide +kernel
theorem dX11_keeperOf_23 : decode cX11_keeperOf 23 = .ok (.ifCond .ne 12, 3) := by decide +kernel
theorem dX11_keeperOf_26 : decode cX11_keeperOf 26 = .ok (.aload_n 0, 1) := by decide +kernel
theorem dX11_keeperOf_27 : decode cX11_keeperOf 27 = .ok (.getfield 7, 3) := by decide +kernel
theorem dX11_keeperOf_30 : decode cX11_keeperOf 30 = .ok (.iload_n 1, 1) := by decide +kernel
theorem dX11_keeperOf_31 : decode cX11_keeperOf 31 = .ok (.iaload, 1) := by decide +kernel
theorem dX11_keeperOf_32 : decode cX11_keeperOf 32 = .ok (.goto 32, 3) := by decide +kernel
theorem dX11_keeperOf_35 : decode cX11_keeperOf 35 = .ok (.iload_n 2, 1) := by decide +kernel
theorem dX11_keeperOf_36 : decode cX11_keeperOf 36 = .ok (.iconst 1, 1) := by decide +kernel
theorem dX11_keeperOf_37 : decode cX11_keeperOf 37 = .ok (.if_icmp .ne 12, 3) := by decide +kernel
theorem dX11_keeperOf_40 : decode cX11_keeperOf 40 = .ok (.aload_n 0, 1) := by decide +kernel
theorem dX11_keeperOf_41 : decode cX11_keeperOf 41 = .ok (.getfield 13, 3) := by decide +kernel
theorem dX11_keeperOf_44 : decode cX11_keeperOf 44 = .ok (.iload_n 1, 1) := by decide +kernel
theorem dX11_keeperOf_45 : decode cX11_keeperOf 45 = .ok (.iaload, 1) := by decide +kernel
theorem dX11_keeperOf_46 : decode cX11_keeperOf 46 = .ok (.goto 18, 3) := by decide +kernel
theorem dX11_keeperOf_49 : decode cX11_keeperOf 49 = .ok (.iload_n 2, 1) := by decide +kernel
theorem dX11_keeperOf_50 : decode cX11_keeperOf 50 = .ok (.iconst 2, 1) := by decide +kernel
theorem dX11_keeperOf_51 : decode cX11_keeperOf 51 = .ok (.if_icmp .ne 12, 3) := by decide +kernel
theorem dX11_keeperOf_54 : decode cX11_keeperOf 54 = .ok (.aload_n 0, 1) := by decide +kernel
theorem dX11_keeperOf_55 : decode cX11_keeperOf 55 = .ok (.getfield 16, 3) := by decide +kernel
theorem dX11_keeperOf_58 : decode cX11_keeperOf 58 = .ok (.iload_n 1, 1) := by decide +kernel
theorem dX11_keeperOf_59 : decode cX11_keeperOf 59 = .ok (.iaload, 1) := by decide +kernel
theorem dX11_keeperOf_60 : decode cX11_keeperOf 60 = .ok (.goto 4, 3) := by decide +kernel
theorem dX11_keeperOf_63 : decode cX11_keeperOf 63 = .ok (.iconst (-1), 1) := by decide +kernel
theorem dX11_keeperOf_64 : decode cX11_keeperOf 64 = .ok (.ireturn, 1) := by decide +kernel
theorem dX11_noSets_0 : decode cX11_noSets 0 = .ok (.iconst 0, 1) := by decide +kernel
theorem dX11_noSets_1 : decode cX11_noSets 1 = .ok (.istore_n 1, 1) := by decide +kernel
theorem dX11_noSets_2 : decode cX11_noSets 2 = .ok (.iload_n 1, 1) := by decide +kernel
theorem dX11_noSets_3 : decode cX11_noSets 3 = .ok (.ldc 49, 2) := by decide +kernel
theorem dX11_noSets_5 : decode cX11_noSets 5 = .ok (.if_icmp .ge 16, 3) := by decide +kernel
theorem dX11_noSets_8 : decode cX11_noSets 8 = .ok (.aload_n 0, 1) := by decide +kernel
theorem dX11_noSets_9 : decode cX11_noSets 9 = .ok (.getfield 50, 3) := by decide +kernel
theorem dX11_noSets_12 : decode cX11_noSets 12 = .ok (.iload_n 1, 1) := by decide +kernel
theorem dX11_noSets_13 : decode cX11_noSets 13 = .ok (.iconst 0, 1) := by decide +kernel
theorem dX11_noSets_14 : decode cX11_noSets 14 = .ok (.bastore, 1) := by decide +kernel
theorem dX11_noSets_15 : decode cX11_noSets 15 = .ok (.iinc 1 1, 3) := by decide +kernel
theorem dX11_noSets_18 : decode cX11_noSets 18 = .ok (.goto (-16), 3) := by decide +kernel
theorem dX11_noSets_21 : decode cX11_noSets 21 = .ok (.return_, 1) := by decide +kernel
theorem dX11_isBelow_0 : decode cX11_isBelow 0 = .ok (.iconst 0, 1) := by decide +kernel
theorem dX11_isBelow_1 : decode cX11_isBelow 1 = .ok (.istore_n 2, 1) := by decide +kernel
theorem dX11_isBelow_2 : decode cX11_isBelow 2 = .ok (.iload_n 2, 1) := by decide +kernel
theorem dX11_isBelow_3 : decode cX11_isBelow 3 = .ok (.bipush 16, 2) := by decide +kernel
theorem dX11_isBelow_5 : decode cX11_isBelow 5 = .ok (.if_icmp .ge 33, 3) := by decide +kernel
theorem dX11_isBelow_8 : decode cX11_isBelow 8 = .ok (.iload_n 1, 1) := by decide +kernel
theorem dX11_isBelow_9 : decode cX11_isBelow 9 = .ok (.iload_n 2, 1) := by decide +kernel
theorem dX11_isBelow_10 : decode cX11_isBelow 10 = .ok (.ishr, 1) := by decide +kernel
theorem dX11_isBelow_11 : decode cX11_isBelow 11 = .ok (.iconst 1, 1) := by decide +kernel
theorem dX11_isBelow_12 : decode cX11_isBelow 12 = .ok (.iand, 1) := by decide +kernel
theorem dX11_isBelow_13 : decode cX11_isBelow 13 = .ok (.iconst 1, 1) := by decide +kernel
theorem dX11_isBelow_14 : decode cX11_isBelow 14 = .ok (.if_icmp .ne 18, 3) := by decide +kernel
theorem dX11_isBelow_17 : decode cX11_isBelow 17 = .ok (.aload_n 0, 1) := by decide +kernel
theorem dX11_isBelow_18 : decode cX11_isBelow 18 = .ok (.getfield 54, 3) := by decide +kernel
theorem dX11_isBelow_21 : decode cX11_isBelow 21 = .ok (.iload_n 1, 1) := by decide +kernel
theorem dX11_isBelow_22 : decode cX11_isBelow 22 = .ok (.iconst 1, 1) := by decide +kernel
theorem dX11_isBelow_23 : decode cX11_isBelow 23 = .ok (.iload_n 2, 1) := by decide +kernel
theorem dX11_isBelow_24 : decode cX11_isBelow 24 = .ok (.ishl, 1) := by decide +kernel
theorem dX11_isBelow_25 : decode cX11_isBelow 25 = .ok (.ixor, 1) := by decide +kernel
theorem dX11_isBelow_26 : decode cX11_isBelow 26 = .ok (.baload, 1) := by decide +kernel
theorem dX11_isBelow_27 : decode cX11_isBelow 27 = .ok (.ifCond .eq 5, 3) := by decide +kernel
theorem dX11_isBelow_30 : decode cX11_isBelow 30 = .ok (.iconst 1, 1) := by decide +kernel
theorem dX11_isBelow_31 : decode cX11_isBelow 31 = .ok (.ireturn, 1) := by decide +kernel
theorem dX11_isBelow_32 : decode cX11_isBelow 32 = .ok (.iinc 2 1, 3) := by decide +kernel
theorem dX11_isBelow_35 : decode cX11_isBelow 35 = .ok (.goto (-33), 3) := by decide +kernel
theorem dX11_isBelow_38 : decode cX11_isBelow 38 = .ok (.iconst 0, 1) := by decide +kernel
theorem dX11_isBelow_39 : decode cX11_isBelow 39 = .ok (.ireturn, 1) := by decide +kernel
theorem dX11_least_0 : decode cX11_least 0 = .ok (.aload_n 0, 1) := by decide +kernel
theorem dX11_least_1 : decode cX11_least 1 = .ok (.iconst 0, 1) := by decide +kernel
theorem dX11_least_2 : decode cX11_least 2 = .ok (.putfield 123, 3) := by decide +kernel
theorem dX11_least_5 : decode cX11_least 5 = .ok (.iconst 1, 1) := by decide +kernel
theorem dX11_least_6 : decode cX11_least 6 = .ok (.istore_n 1, 1) := by decide +kernel
theorem dX11_least_7 : decode cX11_least 7 = .ok (.iconst 0, 1) := by decide +kernel
theorem dX11_least_8 : decode cX11_least 8 = .ok (.istore_n 2, 1) := by decide +kernel
theorem dX11_least_9 : decode cX11_least 9 = .ok (.iload_n 2, 1) := by decide +kernel
theorem dX11_least_10 : decode cX11_least 10 = .ok (.ldc 49, 2) := by decide +kernel
theorem dX11_least_12 : decode cX11_least 12 = .ok (.if_icmp .ge 89, 3) := by decide +kernel
theorem dX11_least_15 : decode cX11_least 15 = .ok (.aload_n 0, 1) := by decide +kernel
theorem dX11_least_16 : decode cX11_least 16 = .ok (.iload_n 2, 1) := by decide +kernel
theorem dX11_least_17 : decode cX11_least 17 = .ok (.invokevirtual 126, 3) := by decide +kernel
theorem dX11_least_20 : decode cX11_least 20 = .ok (.istore_n 3, 1) := by decide +kernel
theorem dX11_least_21 : decode cX11_least 21 = .ok (.aload_n 0, 1) := by decide +kernel
theorem dX11_least_22 : decode cX11_least 22 = .ok (.getfield 54, 3) := by decide +kernel
theorem dX11_least_25 : decode cX11_least 25 = .ok (.iload_n 2, 1) := by decide +kernel
theorem dX11_least_26 : decode cX11_least 26 = .ok (.aload_n 0, 1) := by decide +kernel
theorem dX11_least_27 : decode cX11_least 27 = .ok (.getfield 50, 3) := by decide +kernel
theorem dX11_least_30 : decode cX11_least 30 = .ok (.iload_n 2, 1) := by decide +kernel
theorem dX11_least_31 : decode cX11_least 31 = .ok (.baload, 1) := by decide +kernel
theorem dX11_least_32 : decode cX11_least 32 = .ok (.ifCond .ne 7, 3) := by decide +kernel
theorem dX11_least_35 : decode cX11_least 35 = .ok (.iload_n 3, 1) := by decide +kernel
theorem dX11_least_36 : decode cX11_least 36 = .ok (.ifCond .eq 7, 3) := by decide +kernel
theorem dX11_least_39 : decode cX11_least 39 = .ok (.iconst 1, 1) := by decide +kernel
theorem dX11_least_40 : decode cX11_least 40 = .ok (.goto 4, 3) := by decide +kernel
theorem dX11_least_43 : decode cX11_least 43 = .ok (.iconst 0, 1) := by decide +kernel
theorem dX11_least_44 : decode cX11_least 44 = .ok (.bastore, 1) := by decide +kernel
theorem dX11_least_45 : decode cX11_least 45 = .ok (.aload_n 0, 1) := by decide +kernel
theorem dX11_least_46 : decode cX11_least 46 = .ok (.getfield 50, 3) := by decide +kernel
theorem dX11_least_49 : decode cX11_least 49 = .ok (.iload_n 2, 1) := by decide +kernel
theorem dX11_least_50 : decode cX11_least 50 = .ok (.baload, 1) := by decide +kernel
theorem dX11_least_51 : decode cX11_least 51 = .ok (.ifCond .eq 44, 3) := by decide +kernel
theorem dX11_least_54 : decode cX11_least 54 = .ok (.iload_n 3, 1) := by decide +kernel
theorem dX11_least_55 : decode cX11_least 55 = .ok (.ifCond .eq 6, 3) := by decide +kernel
theorem dX11_least_58 : decode cX11_least 58 = .ok (.goto 37, 3) := by decide +kernel
theorem dX11_least_61 : decode cX11_least 61 = .ok (.aload_n 0, 1) := by decide +kernel
theorem dX11_least_62 : decode cX11_least 62 = .ok (.getfield 123, 3) := by decide +kernel
theorem dX11_least_65 : decode cX11_least 65 = .ok (.bipush 120, 2) := by decide +kernel
theorem dX11_least_67 : decode cX11_least 67 = .ok (.if_icmp .ge 16, 3) := by decide +kernel
theorem dX11_least_70 : decode cX11_least 70 = .ok (.aload_n 0, 1) := by decide +kernel
theorem dX11_least_71 : decode cX11_least 71 = .ok (.getfield 57, 3) := by decide +kernel
theorem dX11_least_74 : decode cX11_least 74 = .ok (.aload_n 0, 1) := by decide +kernel
theorem dX11_least_75 : decode cX11_least 75 = .ok (.getfield 123, 3) := by decide +kernel
theorem dX11_least_78 : decode cX11_least 78 = .ok (.iload_n 2, 1) := by decide +kernel
theorem dX11_least_79 : decode cX11_least 79 = .ok (.iastore, 1) := by decide +kernel
theorem dX11_least_80 : decode cX11_least 80 = .ok (.goto 5, 3) := by decide +kernel
theorem dX11_least_83 : decode cX11_least 83 = .ok (.iconst 0, 1) := by decide +kernel
theorem dX11_least_84 : decode cX11_least 84 = .ok (.istore_n 1, 1) := by decide +kernel
theorem dX11_least_85 : decode cX11_least 85 = .ok (.aload_n 0, 1) := by decide +kernel
theorem dX11_least_86 : decode cX11_least 86 = .ok (.dup, 1) := by decide +kernel
theorem dX11_least_87 : decode cX11_least 87 = .ok (.getfield 123, 3) := by decide +kernel
theorem dX11_least_90 : decode cX11_least 90 = .ok (.iconst 1, 1) := by decide +kernel
theorem dX11_least_91 : decode cX11_least 91 = .ok (.iadd, 1) := by decide +kernel
theorem dX11_least_92 : decode cX11_least 92 = .ok (.putfield 123, 3) := by decide +kernel
theorem dX11_least_95 : decode cX11_least 95 = .ok (.iinc 2 1, 3) := by decide +kernel
theorem dX11_least_98 : decode cX11_least 98 = .ok (.goto (-89), 3) := by decide +kernel
theorem dX11_least_101 : decode cX11_least 101 = .ok (.iload_n 1, 1) := by decide +kernel
theorem dX11_least_102 : decode cX11_least 102 = .ok (.ireturn, 1) := by decide +kernel
theorem dX11_made_0 : decode cX11_made 0 = .ok (.aload_n 0, 1) := by decide +kernel
theorem dX11_made_1 : decode cX11_made 1 = .ok (.getfield 94, 3) := by decide +kernel
theorem dX11_made_4 : decode cX11_made 4 = .ok (.bipush 24, 2) := by decide +kernel
theorem dX11_made_6 : decode cX11_made 6 = .ok (.if_icmp .ne 9, 3) := by decide +kernel
theorem dX11_made_9 : decode cX11_made 9 = .ok (.aload_n 0, 1) := by decide +kernel
theorem dX11_made_10 : decode cX11_made 10 = .ok (.iconst 4, 1) := by decide +kernel
theorem dX11_made_11 : decode cX11_made 11 = .ok (.invokevirtual 115, 3) := by decide +kernel
theorem dX11_made_14 : decode cX11_made 14 = .ok (.ireturn, 1) := by decide +kernel
theorem dX11_made_15 : decode cX11_made 15 = .ok (.aload_n 0, 1) := by decide +kernel
theorem dX11_made_16 : decode cX11_made 16 = .ok (.invokevirtual 129, 3) := by decide +kernel
theorem dX11_made_19 : decode cX11_made 19 = .ok (.ifCond .ne 9, 3) := by decide +kernel
theorem dX11_made_22 : decode cX11_made 22 = .ok (.aload_n 0, 1) := by decide +kernel
theorem dX11_made_23 : decode cX11_made 23 = .ok (.iconst 3, 1) := by decide +kernel
theorem dX11_made_24 : decode cX11_made 24 = .ok (.invokevirtual 115, 3) := by decide +kernel
theorem dX11_made_27 : decode cX11_made 27 = .ok (.ireturn, 1) := by decide +kernel
theorem dX11_made_28 : decode cX11_made 28 = .ok (.iconst 0, 1) := by decide +kernel
theorem dX11_made_29 : decode cX11_made 29 = .ok (.istore_n 2, 1) := by decide +kernel
theorem dX11_made_30 : decode cX11_made 30 = .ok (.iload_n 2, 1) := by decide +kernel
theorem dX11_made_31 : decode cX11_made 31 = .ok (.aload_n 0, 1) := by decide +kernel
theorem dX11_made_32 : decode cX11_made 32 = .ok (.getfield 123, 3) := by decide +kernel
theorem dX11_made_35 : decode cX11_made 35 = .ok (.if_icmp .ge 29, 3) := by decide +kernel
theorem dX11_made_38 : decode cX11_made 38 = .ok (.aload_n 0, 1) := by decide +kernel
theorem dX11_made_39 : decode cX11_made 39 = .ok (.getfield 28, 3) := by decide +kernel
theorem dX11_made_42 : decode cX11_made 42 = .ok (.bipush 120, 2) := by decide +kernel
theorem dX11_made_44 : decode cX11_made 44 = .ok (.aload_n 0, 1) := by decide +kernel
theorem dX11_made_45 : decode cX11_made 45 = .ok (.getfield 94, 3) := by decide +kernel
theorem dX11_made_48 : decode cX11_made 48 = .ok (.imul, 1) := by decide +kernel
theorem dX11_made_49 : decode cX11_made 49 = .ok (.iload_n 2, 1) := by decide +kernel
theorem dX11_made_50 : decode cX11_made 50 = .ok (.iadd, 1) := by decide +kernel
theorem dX11_made_51 : decode cX11_made 51 = .ok (.aload_n 0, 1) := by decide +kernel
theorem dX11_made_52 : decode cX11_made 52 = .ok (.getfield 57, 3) := by decide +kernel
theorem dX11_made_55 : decode cX11_made 55 = .ok (.iload_n 2, 1) := by decide +kernel
theorem dX11_made_56 : decode cX11_made 56 = .ok (.iaload, 1) := by decide +kernel
theorem dX11_made_57 : decode cX11_made 57 = .ok (.iastore, 1) := by decide +kernel
theorem dX11_made_58 : decode cX11_made 58 = .ok (.iinc 2 1, 3) := by decide +kernel
theorem dX11_made_61 : decode cX11_made 61 = .ok (.goto (-31), 3) := by decide +kernel
theorem dX11_made_64 : decode cX11_made 64 = .ok (.aload_n 0, 1) := by decide +kernel
theorem dX11_made_65 : decode cX11_made 65 = .ok (.getfield 22, 3) := by decide +kernel
theorem dX11_made_68 : decode cX11_made 68 = .ok (.aload_n 0, 1) := by decide +kernel
theorem dX11_made_69 : decode cX11_made 69 = .ok (.getfield 94, 3) := by decide +kernel
theorem dX11_made_72 : decode cX11_made 72 = .ok (.iload_n 1, 1) := by decide +kernel
theorem dX11_made_73 : decode cX11_made 73 = .ok (.iastore, 1) := by decide +kernel
theorem dX11_made_74 : decode cX11_made 74 = .ok (.aload_n 0, 1) := by decide +kernel
theorem dX11_made_75 : decode cX11_made 75 = .ok (.getfield 25, 3) := by decide +kernel
theorem dX11_made_78 : decode cX11_made 78 = .ok (.aload_n 0, 1) := by decide +kernel
theorem dX11_made_79 : decode cX11_made 79 = .ok (.getfield 94, 3) := by decide +kernel
theorem dX11_made_82 : decode cX11_made 82 = .ok (.aload_n 0, 1) := by decide +kernel
theorem dX11_made_83 : decode cX11_made 83 = .ok (.getfield 123, 3) := by decide +kernel
theorem dX11_made_86 : decode cX11_made 86 = .ok (.iastore, 1) := by decide +kernel
theorem dX11_made_87 : decode cX11_made 87 = .ok (.aload_n 0, 1) := by decide +kernel
theorem dX11_made_88 : decode cX11_made 88 = .ok (.dup, 1) := by decide +kernel
theorem dX11_made_89 : decode cX11_made 89 = .ok (.getfield 94, 3) := by decide +kernel
theorem dX11_made_92 : decode cX11_made 92 = .ok (.iconst 1, 1) := by decide +kernel
theorem dX11_made_93 : decode cX11_made 93 = .ok (.iadd, 1) := by decide +kernel
theorem dX11_made_94 : decode cX11_made 94 = .ok (.putfield 94, 3) := by decide +kernel
theorem dX11_made_97 : decode cX11_made 97 = .ok (.aload_n 0, 1) := by decide +kernel
theorem dX11_made_98 : decode cX11_made 98 = .ok (.iconst 2, 1) := by decide +kernel
theorem dX11_made_99 : decode cX11_made 99 = .ok (.iconst 0, 1) := by decide +kernel
theorem dX11_made_100 : decode cX11_made 100 = .ok (.iconst 0, 1) := by decide +kernel
theorem dX11_made_101 : decode cX11_made 101 = .ok (.invokevirtual 108, 3) := by decide +kernel
theorem dX11_made_104 : decode cX11_made 104 = .ok (.aload_n 0, 1) := by decide +kernel
theorem dX11_made_105 : decode cX11_made 105 = .ok (.getfield 94, 3) := by decide +kernel
theorem dX11_made_108 : decode cX11_made 108 = .ok (.iconst 1, 1) := by decide +kernel
theorem dX11_made_109 : decode cX11_made 109 = .ok (.isub, 1) := by decide +kernel
theorem dX11_made_110 : decode cX11_made 110 = .ok (.ireturn, 1) := by decide +kernel
theorem dX11_comeAll_0 : decode cX11_comeAll 0 = .ok (.aload_n 0, 1) := by decide +kernel
theorem dX11_comeAll_1 : decode cX11_comeAll 1 = .ok (.invokevirtual 133, 3) := by decide +kernel
theorem dX11_comeAll_4 : decode cX11_comeAll 4 = .ok (.iconst 0, 1) := by decide +kernel
theorem dX11_comeAll_5 : decode cX11_comeAll 5 = .ok (.istore_n 2, 1) := by decide +kernel
theorem dX11_comeAll_6 : decode cX11_comeAll 6 = .ok (.iload_n 2, 1) := by decide +kernel
theorem dX11_comeAll_7 : decode cX11_comeAll 7 = .ok (.aload_n 0, 1) := by decide +kernel
theorem dX11_comeAll_8 : decode cX11_comeAll 8 = .ok (.getfield 25, 3) := by decide +kernel
theorem dX11_comeAll_11 : decode cX11_comeAll 11 = .ok (.iload_n 1, 1) := by decide +kernel
theorem dX11_comeAll_12 : decode cX11_comeAll 12 = .ok (.iaload, 1) := by decide +kernel
theorem dX11_comeAll_13 : decode cX11_comeAll 13 = .ok (.if_icmp .ge 21, 3) := by decide +kernel
theorem dX11_comeAll_16 : decode cX11_comeAll 16 = .ok (.aload_n 0, 1) := by decide +kernel
theorem dX11_comeAll_17 : decode cX11_comeAll 17 = .ok (.getfield 50, 3) := by decide +kernel
theorem dX11_comeAll_20 : decode cX11_comeAll 20 = .ok (.aload_n 0, 1) := by decide +kernel
theorem dX11_comeAll_21 : decode cX11_comeAll 21 = .ok (.iload_n 1, 1) := by decide +kernel
theorem dX11_comeAll_22 : decode cX11_comeAll 22 = .ok (.iload_n 2, 1) := by decide +kernel
theorem dX11_comeAll_23 : decode cX11_comeAll 23 = .ok (.invokevirtual 136, 3) := by decide +kernel
theorem dX11_comeAll_26 : decode cX11_comeAll 26 = .ok (.iconst 1, 1) := by decide +kernel
theorem dX11_comeAll_27 : decode cX11_comeAll 27 = .ok (.bastore, 1) := by decide +kernel
theorem dX11_comeAll_28 : decode cX11_comeAll 28 = .ok (.iinc 2 1, 3) := by decide +kernel
theorem dX11_comeAll_31 : decode cX11_comeAll 31 = .ok (.goto (-25), 3) := by decide +kernel
theorem dX11_comeAll_34 : decode cX11_comeAll 34 = .ok (.return_, 1) := by decide +kernel
theorem dX11_list_0 : decode cX11_list 0 = .ok (.aload_n 0, 1) := by decide +kernel
theorem dX11_list_1 : decode cX11_list 1 = .ok (.iconst 0, 1) := by decide +kernel
theorem dX11_list_2 : decode cX11_list 2 = .ok (.putfield 84, 3) := by decide +kernel
theorem dX11_list_5 : decode cX11_list 5 = .ok (.aload_n 0, 1) := by decide +kernel
theorem dX11_list_6 : decode cX11_list 6 = .ok (.iload_n 1, 1) := by decide +kernel
theorem dX11_list_7 : decode cX11_list 7 = .ok (.invokevirtual 140, 3) := by decide +kernel
theorem dX11_list_10 : decode cX11_list 10 = .ok (.ifCond .ne 9, 3) := by decide +kernel
theorem dX11_list_13 : decode cX11_list 13 = .ok (.aload_n 0, 1) := by decide +kernel
theorem dX11_list_14 : decode cX11_list 14 = .ok (.iconst 2, 1) := by decide +kernel
theorem dX11_list_15 : decode cX11_list 15 = .ok (.invokevirtual 115, 3) := by decide +kernel
theorem dX11_list_18 : decode cX11_list 18 = .ok (.ireturn, 1) := by decide +kernel
theorem dX11_list_19 : decode cX11_list 19 = .ok (.aload_n 0, 1) := by decide +kernel
theorem dX11_list_20 : decode cX11_list 20 = .ok (.getfield 112, 3) := by decide +kernel
theorem dX11_list_23 : decode cX11_list 23 = .ok (.bipush 120, 2) := by decide +kernel
theorem dX11_list_25 : decode cX11_list 25 = .ok (.if_icmp .ne 9, 3) := by decide +kernel
theorem dX11_list_28 : decode cX11_list 28 = .ok (.aload_n 0, 1) := by decide +kernel
theorem dX11_list_29 : decode cX11_list 29 = .ok (.iconst 4, 1) := by decide +kernel
theorem dX11_list_30 : decode cX11_list 30 = .ok (.invokevirtual 115, 3) := by decide +kernel
theorem dX11_list_33 : decode cX11_list 33 = .ok (.ireturn, 1) := by decide +kernel
theorem dX11_list_34 : decode cX11_list 34 = .ok (.aload_n 0, 1) := by decide +kernel
theorem dX11_list_35 : decode cX11_list 35 = .ok (.getfield 19, 3) := by decide +kernel
theorem dX11_list_38 : decode cX11_list 38 = .ok (.aload_n 0, 1) := by decide +kernel
theorem dX11_list_39 : decode cX11_list 39 = .ok (.getfield 112, 3) := by decide +kernel
theorem dX11_list_42 : decode cX11_list 42 = .ok (.iload_n 1, 1) := by decide +kernel
theorem dX11_list_43 : decode cX11_list 43 = .ok (.iastore, 1) := by decide +kernel
theorem dX11_list_44 : decode cX11_list 44 = .ok (.aload_n 0, 1) := by decide +kernel
theorem dX11_list_45 : decode cX11_list 45 = .ok (.dup, 1) := by decide +kernel
theorem dX11_list_46 : decode cX11_list 46 = .ok (.getfield 112, 3) := by decide +kernel
theorem dX11_list_49 : decode cX11_list 49 = .ok (.iconst 1, 1) := by decide +kernel
theorem dX11_list_50 : decode cX11_list 50 = .ok (.iadd, 1) := by decide +kernel
theorem dX11_list_51 : decode cX11_list 51 = .ok (.putfield 112, 3) := by decide +kernel
theorem dX11_list_54 : decode cX11_list 54 = .ok (.aload_n 0, 1) := by decide +kernel
theorem dX11_list_55 : decode cX11_list 55 = .ok (.iconst 0, 1) := by decide +kernel
theorem dX11_list_56 : decode cX11_list 56 = .ok (.putfield 88, 3) := by decide +kernel
theorem dX11_list_59 : decode cX11_list 59 = .ok (.aload_n 0, 1) := by decide +kernel
theorem dX11_list_60 : decode cX11_list 60 = .ok (.getfield 112, 3) := by decide +kernel
theorem dX11_list_63 : decode cX11_list 63 = .ok (.ireturn, 1) := by decide +kernel
theorem dX11_told_0 : decode cX11_told 0 = .ok (.aload_n 0, 1) := by decide +kernel
theorem dX11_told_1 : decode cX11_told 1 = .ok (.iconst 0, 1) := by decide +kernel
theorem dX11_told_2 : decode cX11_told 2 = .ok (.putfield 84, 3) := by decide +kernel
theorem dX11_told_5 : decode cX11_told 5 = .ok (.aload_n 0, 1) := by decide +kernel
theorem dX11_told_6 : decode cX11_told 6 = .ok (.getfield 112, 3) := by decide +kernel
theorem dX11_told_9 : decode cX11_told 9 = .ok (.ifCond .ne 9, 3) := by decide +kernel
theorem dX11_told_12 : decode cX11_told 12 = .ok (.aload_n 0, 1) := by decide +kernel
theorem dX11_told_13 : decode cX11_told 13 = .ok (.iconst 5, 1) := by decide +kernel
theorem dX11_told_14 : decode cX11_told 14 = .ok (.invokevirtual 115, 3) := by decide +kernel
theorem dX11_told_17 : decode cX11_told 17 = .ok (.ireturn, 1) := by decide +kernel
theorem dX11_told_18 : decode cX11_told 18 = .ok (.aload_n 0, 1) := by decide +kernel
theorem dX11_told_19 : decode cX11_told 19 = .ok (.invokevirtual 133, 3) := by decide +kernel
theorem dX11_told_22 : decode cX11_told 22 = .ok (.iconst 0, 1) := by decide +kernel
theorem dX11_told_23 : decode cX11_told 23 = .ok (.istore_n 1, 1) := by decide +kernel
theorem dX11_told_24 : decode cX11_told 24 = .ok (.iload_n 1, 1) := by decide +kernel
theorem dX11_told_25 : decode cX11_told 25 = .ok (.aload_n 0, 1) := by decide +kernel
theorem dX11_told_26 : decode cX11_told 26 = .ok (.getfield 112, 3) := by decide +kernel
theorem dX11_told_29 : decode cX11_told 29 = .ok (.if_icmp .ge 21, 3) := by decide +kernel
theorem dX11_told_32 : decode cX11_told 32 = .ok (.aload_n 0, 1) := by decide +kernel
theorem dX11_told_33 : decode cX11_told 33 = .ok (.getfield 50, 3) := by decide +kernel
theorem dX11_told_36 : decode cX11_told 36 = .ok (.aload_n 0, 1) := by decide +kernel
theorem dX11_told_37 : decode cX11_told 37 = .ok (.getfield 19, 3) := by decide +kernel
theorem dX11_told_40 : decode cX11_told 40 = .ok (.iload_n 1, 1) := by decide +kernel
theorem dX11_told_41 : decode cX11_told 41 = .ok (.iaload, 1) := by decide +kernel
theorem dX11_told_42 : decode cX11_told 42 = .ok (.iconst 1, 1) := by decide +kernel
theorem dX11_told_43 : decode cX11_told 43 = .ok (.bastore, 1) := by decide +kernel
theorem dX11_told_44 : decode cX11_told 44 = .ok (.iinc 1 1, 3) := by decide +kernel
theorem dX11_told_47 : decode cX11_told 47 = .ok (.goto (-23), 3) := by decide +kernel
theorem dX11_told_50 : decode cX11_told 50 = .ok (.aload_n 0, 1) := by decide +kernel
theorem dX11_told_51 : decode cX11_told 51 = .ok (.iconst 0, 1) := by decide +kernel
theorem dX11_told_52 : decode cX11_told 52 = .ok (.invokevirtual 143, 3) := by decide +kernel
theorem dX11_told_55 : decode cX11_told 55 = .ok (.istore_n 1, 1) := by decide +kernel
theorem dX11_told_56 : decode cX11_told 56 = .ok (.iload_n 1, 1) := by decide +kernel
theorem dX11_told_57 : decode cX11_told 57 = .ok (.iconst (-1), 1) := by decide +kernel
theorem dX11_told_58 : decode cX11_told 58 = .ok (.if_icmp .eq 8, 3) := by decide +kernel
theorem dX11_told_61 : decode cX11_told 61 = .ok (.aload_n 0, 1) := by decide +kernel
theorem dX11_told_62 : decode cX11_told 62 = .ok (.iconst 0, 1) := by decide +kernel
theorem dX11_told_63 : decode cX11_told 63 = .ok (.putfield 112, 3) := by decide +kernel
theorem dX11_told_66 : decode cX11_told 66 = .ok (.iload_n 1, 1) := by decide +kernel
theorem dX11_told_67 : decode cX11_told 67 = .ok (.ireturn, 1) := by decide +kernel
theorem dX11_strengthOf_0 : decode cX11_strengthOf 0 = .ok (.iconst 0, 1) := by decide +kernel
theorem dX11_strengthOf_1 : decode cX11_strengthOf 1 = .ok (.istore_n 2, 1) := by decide +kernel
theorem dX11_strengthOf_2 : decode cX11_strengthOf 2 = .ok (.iconst 0, 1) := by decide +kernel
theorem dX11_strengthOf_3 : decode cX11_strengthOf 3 = .ok (.istore_n 3, 1) := by decide +kernel
theorem dX11_strengthOf_4 : decode cX11_strengthOf 4 = .ok (.iload_n 3, 1) := by decide +kernel
theorem dX11_strengthOf_5 : decode cX11_strengthOf 5 = .ok (.aload_n 0, 1) := by decide +kernel
theorem dX11_strengthOf_6 : decode cX11_strengthOf 6 = .ok (.getfield 91, 3) := by decide +kernel
theorem dX11_strengthOf_9 : decode cX11_strengthOf 9 = .ok (.if_icmp .ge 31, 3) := by decide +kernel
theorem dX11_strengthOf_12 : decode cX11_strengthOf 12 = .ok (.iload_n 2, 1) := by decide +kernel
theorem dX11_strengthOf_13 : decode cX11_strengthOf 13 = .ok (.iload_n 1, 1) := by decide +kernel
theorem dX11_strengthOf_14 : decode cX11_strengthOf 14 = .ok (.iload_n 3, 1) := by decide +kernel
theorem dX11_strengthOf_15 : decode cX11_strengthOf 15 = .ok (.ishr, 1) := by decide +kernel
theorem dX11_strengthOf_16 : decode cX11_strengthOf 16 = .ok (.iconst 1, 1) := by decide +kernel
theorem dX11_strengthOf_17 : decode cX11_strengthOf 17 = .ok (.iand, 1) := by decide +kernel
theorem dX11_strengthOf_18 : decode cX11_strengthOf 18 = .ok (.iconst 1, 1) := by decide +kernel
theorem dX11_strengthOf_19 : decode cX11_strengthOf 19 = .ok (.if_icmp .ne 12, 3) := by decide +kernel
theorem dX11_strengthOf_22 : decode cX11_strengthOf 22 = .ok (.aload_n 0, 1) := by decide +kernel
theorem dX11_strengthOf_23 : decode cX11_strengthOf 23 = .ok (.getfield 7, 3) := by decide +kernel
theorem dX11_strengthOf_26 : decode cX11_strengthOf 26 = .ok (.iload_n 3, 1) := by decide +kernel
theorem dX11_strengthOf_27 : decode cX11_strengthOf 27 = .ok (.iaload, 1) := by decide +kernel
theorem dX11_strengthOf_28 : decode cX11_strengthOf 28 = .ok (.goto 4, 3) := by decide +kernel
theorem dX11_strengthOf_31 : decode cX11_strengthOf 31 = .ok (.iconst 0, 1) := by decide +kernel
theorem dX11_strengthOf_32 : decode cX11_strengthOf 32 = .ok (.iadd, 1) := by decide +kernel
theorem dX11_strengthOf_33 : decode cX11_strengthOf 33 = .ok (.istore_n 2, 1) := by decide +kernel
theorem dX11_strengthOf_34 : decode cX11_strengthOf 34 = .ok (.iinc 3 1, 3) := by decide +kernel
theorem dX11_strengthOf_37 : decode cX11_strengthOf 37 = .ok (.goto (-33), 3) := by decide +kernel
theorem dX11_strengthOf_40 : decode cX11_strengthOf 40 = .ok (.iload_n 2, 1) := by decide +kernel
theorem dX11_strengthOf_41 : decode cX11_strengthOf 41 = .ok (.ireturn, 1) := by decide +kernel
theorem dX11_most_0 : decode cX11_most 0 = .ok (.aload_n 0, 1) := by decide +kernel
theorem dX11_most_1 : decode cX11_most 1 = .ok (.iconst 0, 1) := by decide +kernel
theorem dX11_most_2 : decode cX11_most 2 = .ok (.putfield 84, 3) := by decide +kernel
theorem dX11_most_5 : decode cX11_most 5 = .ok (.aload_n 0, 1) := by decide +kernel
theorem dX11_most_6 : decode cX11_most 6 = .ok (.iload_n 1, 1) := by decide +kernel
theorem dX11_most_7 : decode cX11_most 7 = .ok (.invokevirtual 140, 3) := by decide +kernel
theorem dX11_most_10 : decode cX11_most 10 = .ok (.ifCond .ne 9, 3) := by decide +kernel
theorem dX11_most_13 : decode cX11_most 13 = .ok (.aload_n 0, 1) := by decide +kernel
theorem dX11_most_14 : decode cX11_most 14 = .ok (.iconst 2, 1) := by decide +kernel
theorem dX11_most_15 : decode cX11_most 15 = .ok (.invokevirtual 115, 3) := by decide +kernel
theorem dX11_most_18 : decode cX11_most 18 = .ok (.ireturn, 1) := by decide +kernel
theorem dX11_most_19 : decode cX11_most 19 = .ok (.aload_n 0, 1) := by decide +kernel
theorem dX11_most_20 : decode cX11_most 20 = .ok (.invokevirtual 133, 3) := by decide +kernel
theorem dX11_most_23 : decode cX11_most 23 = .ok (.aload_n 0, 1) := by decide +kernel
theorem dX11_most_24 : decode cX11_most 24 = .ok (.iload_n 1, 1) := by decide +kernel
theorem dX11_most_25 : decode cX11_most 25 = .ok (.invokevirtual 146, 3) := by decide +kernel
theorem dX11_most_28 : decode cX11_most 28 = .ok (.istore_n 2, 1) := by decide +kernel
theorem dX11_most_29 : decode cX11_most 29 = .ok (.iload_n 1, 1) := by decide +kernel
theorem dX11_most_30 : decode cX11_most 30 = .ok (.istore_n 3, 1) := by decide +kernel
theorem dX11_most_31 : decode cX11_most 31 = .ok (.iload_n 3, 1) := by decide +kernel
theorem dX11_most_32 : decode cX11_most 32 = .ok (.ifCond .le 34, 3) := by decide +kernel
theorem dX11_most_35 : decode cX11_most 35 = .ok (.aload_n 0, 1) := by decide +kernel
theorem dX11_most_36 : decode cX11_most 36 = .ok (.getfield 50, 3) := by decide +kernel
theorem dX11_most_39 : decode cX11_most 39 = .ok (.iload_n 3, 1) := by decide +kernel
theorem dX11_most_40 : decode cX11_most 40 = .ok (.iconst 2, 1) := by decide +kernel
theorem dX11_most_41 : decode cX11_most 41 = .ok (.aload_n 0, 1) := by decide +kernel
theorem dX11_most_42 : decode cX11_most 42 = .ok (.iload_n 3, 1) := by decide +kernel
theorem dX11_most_43 : decode cX11_most 43 = .ok (.invokevirtual 146, 3) := by decide +kernel
theorem dX11_most_46 : decode cX11_most 46 = .ok (.imul, 1) := by decide +kernel
theorem dX11_most_47 : decode cX11_most 47 = .ok (.iload_n 2, 1) := by decide +kernel
theorem dX11_most_48 : decode cX11_most 48 = .ok (.if_icmp .le 7, 3) := by decide +kernel
theorem dX11_most_51 : decode cX11_most 51 = .ok (.iconst 1, 1) := by decide +kernel
theorem dX11_most_52 : decode cX11_most 52 = .ok (.goto 4, 3) := by decide +kernel
theorem dX11_most_55 : decode cX11_most 55 = .ok (.iconst 0, 1) := by decide +kernel
theorem dX11_most_56 : decode cX11_most 56 = .ok (.bastore, 1) := by decide +kernel
theorem dX11_most_57 : decode cX11_most 57 = .ok (.iload_n 3, 1) := by decide +kernel
theorem dX11_most_58 : decode cX11_most 58 = .ok (.iconst 1, 1) := by decide +kernel
theorem dX11_most_59 : decode cX11_most 59 = .ok (.isub, 1) := by decide +kernel
theorem dX11_most_60 : decode cX11_most 60 = .ok (.iload_n 1, 1) := by decide +kernel
theorem dX11_most_61 : decode cX11_most 61 = .ok (.iand, 1) := by decide +kernel
theorem dX11_most_62 : decode cX11_most 62 = .ok (.istore_n 3, 1) := by decide +kernel
theorem dX11_most_63 : decode cX11_most 63 = .ok (.goto (-32), 3) := by decide +kernel
theorem dX11_most_66 : decode cX11_most 66 = .ok (.aload_n 0, 1) := by decide +kernel
theorem dX11_most_67 : decode cX11_most 67 = .ok (.iconst 1, 1) := by decide +kernel
theorem dX11_most_68 : decode cX11_most 68 = .ok (.invokevirtual 143, 3) := by decide +kernel
theorem dX11_most_71 : decode cX11_most 71 = .ok (.ireturn, 1) := by decide +kernel
theorem dX11_comeRows_0 : decode cX11_comeRows 0 = .ok (.aload_n 0, 1) := by decide +kernel
theorem dX11_comeRows_1 : decode cX11_comeRows 1 = .ok (.invokevirtual 133, 3) := by decide +kernel
theorem dX11_comeRows_4 : decode cX11_comeRows 4 = .ok (.iconst 0, 1) := by decide +kernel
theorem dX11_comeRows_5 : decode cX11_comeRows 5 = .ok (.istore_n 1, 1) := by decide +kernel
theorem dX11_comeRows_6 : decode cX11_comeRows 6 = .ok (.iload_n 1, 1) := by decide +kernel
theorem dX11_comeRows_7 : decode cX11_comeRows 7 = .ok (.aload_n 0, 1) := by decide +kernel
theorem dX11_comeRows_8 : decode cX11_comeRows 8 = .ok (.getfield 149, 3) := by decide +kernel
theorem dX11_comeRows_11 : decode cX11_comeRows 11 = .ok (.if_icmp .ge 188, 3) := by decide +kernel
theorem dX11_comeRows_14 : decode cX11_comeRows 14 = .ok (.iconst 1, 1) := by decide +kernel
theorem dX11_comeRows_15 : decode cX11_comeRows 15 = .ok (.aload_n 0, 1) := by decide +kernel
theorem dX11_comeRows_16 : decode cX11_comeRows 16 = .ok (.getfield 63, 3) := by decide +kernel
theorem dX11_comeRows_19 : decode cX11_comeRows 19 = .ok (.iload_n 1, 1) := by decide +kernel
theorem dX11_comeRows_20 : decode cX11_comeRows 20 = .ok (.iaload, 1) := by decide +kernel
theorem dX11_comeRows_21 : decode cX11_comeRows 21 = .ok (.ishl, 1) := by decide +kernel
theorem dX11_comeRows_22 : decode cX11_comeRows 22 = .ok (.iconst 1, 1) := by decide +kernel
theorem dX11_comeRows_23 : decode cX11_comeRows 23 = .ok (.isub, 1) := by decide +kernel
theorem dX11_comeRows_24 : decode cX11_comeRows 24 = .ok (.aload_n 0, 1) := by decide +kernel
theorem dX11_comeRows_25 : decode cX11_comeRows 25 = .ok (.getfield 60, 3) := by decide +kernel
theorem dX11_comeRows_28 : decode cX11_comeRows 28 = .ok (.iload_n 1, 1) := by decide +kernel
theorem dX11_comeRows_29 : decode cX11_comeRows 29 = .ok (.iaload, 1) := by decide +kernel
theorem dX11_comeRows_30 : decode cX11_comeRows 30 = .ok (.ishl, 1) := by decide +kernel
theorem dX11_comeRows_31 : decode cX11_comeRows 31 = .ok (.istore_n 2, 1) := by decide +kernel
theorem dX11_comeRows_32 : decode cX11_comeRows 32 = .ok (.iload_n 1, 1) := by decide +kernel
theorem dX11_comeRows_33 : decode cX11_comeRows 33 = .ok (.iconst 1, 1) := by decide +kernel
theorem dX11_comeRows_34 : decode cX11_comeRows 34 = .ok (.iadd, 1) := by decide +kernel
theorem dX11_comeRows_35 : decode cX11_comeRows 35 = .ok (.istore_n 3, 1) := by decide +kernel
theorem dX11_comeRows_36 : decode cX11_comeRows 36 = .ok (.iload_n 3, 1) := by decide +kernel
theorem dX11_comeRows_37 : decode cX11_comeRows 37 = .ok (.aload_n 0, 1) := by decide +kernel
theorem dX11_comeRows_38 : decode cX11_comeRows 38 = .ok (.getfield 149, 3) := by decide +kernel
theorem dX11_comeRows_41 : decode cX11_comeRows 41 = .ok (.if_icmp .ge 16, 3) := by decide +kernel
theorem dX11_comeRows_44 : decode cX11_comeRows 44 = .ok (.aload_n 0, 1) := by decide +kernel
theorem dX11_comeRows_45 : decode cX11_comeRows 45 = .ok (.getfield 66, 3) := by decide +kernel
theorem dX11_comeRows_48 : decode cX11_comeRows 48 = .ok (.iload_n 3, 1) := by decide +kernel
theorem dX11_comeRows_49 : decode cX11_comeRows 49 = .ok (.iconst 0, 1) := by decide +kernel
theorem dX11_comeRows_50 : decode cX11_comeRows 50 = .ok (.iastore, 1) := by decide +kernel
theorem dX11_comeRows_51 : decode cX11_comeRows 51 = .ok (.iinc 3 1, 3) := by decide +kernel
theorem dX11_comeRows_54 : decode cX11_comeRows 54 = .ok (.goto (-18), 3) := by decide +kernel
theorem dX11_comeRows_57 : decode cX11_comeRows 57 = .ok (.iconst 1, 1) := by decide +kernel
theorem dX11_comeRows_58 : decode cX11_comeRows 58 = .ok (.istore_n 3, 1) := by decide +kernel
theorem dX11_comeRows_59 : decode cX11_comeRows 59 = .ok (.iload_n 3, 1) := by decide +kernel
theorem dX11_comeRows_60 : decode cX11_comeRows 60 = .ok (.ifCond .eq 133, 3) := by decide +kernel
theorem dX11_comeRows_63 : decode cX11_comeRows 63 = .ok (.iload_n 2, 1) := by decide +kernel
theorem dX11_comeRows_64 : decode cX11_comeRows 64 = .ok (.istore 4, 2) := by decide +kernel
theorem dX11_comeRows_66 : decode cX11_comeRows 66 = .ok (.iload_n 1, 1) := by decide +kernel
theorem dX11_comeRows_67 : decode cX11_comeRows 67 = .ok (.iconst 1, 1) := by decide +kernel
theorem dX11_comeRows_68 : decode cX11_comeRows 68 = .ok (.iadd, 1) := by decide +kernel
theorem dX11_comeRows_69 : decode cX11_comeRows 69 = .ok (.istore 5, 2) := by decide +kernel
theorem dX11_comeRows_71 : decode cX11_comeRows 71 = .ok (.iload 5, 2) := by decide +kernel
theorem dX11_comeRows_73 : decode cX11_comeRows 73 = .ok (.aload_n 0, 1) := by decide +kernel
theorem dX11_comeRows_74 : decode cX11_comeRows 74 = .ok (.getfield 149, 3) := by decide +kernel
theorem dX11_comeRows_77 : decode cX11_comeRows 77 = .ok (.if_icmp .ge 31, 3) := by decide +kernel
theorem dX11_comeRows_80 : decode cX11_comeRows 80 = .ok (.iload 4, 2) := by decide +kernel
theorem dX11_comeRows_82 : decode cX11_comeRows 82 = .ok (.iconst 1, 1) := by decide +kernel
theorem dX11_comeRows_83 : decode cX11_comeRows 83 = .ok (.aload_n 0, 1) := by decide +kernel
theorem dX11_comeRows_84 : decode cX11_comeRows 84 = .ok (.getfield 60, 3) := by decide +kernel
theorem dX11_comeRows_87 : decode cX11_comeRows 87 = .ok (.iload 5, 2) := by decide +kernel
theorem dX11_comeRows_89 : decode cX11_comeRows 89 = .ok (.iaload, 1) := by decide +kernel
theorem dX11_comeRows_90 : decode cX11_comeRows 90 = .ok (.aload_n 0, 1) := by decide +kernel
theorem dX11_comeRows_91 : decode cX11_comeRows 91 = .ok (.getfield 66, 3) := by decide +kernel
theorem dX11_comeRows_94 : decode cX11_comeRows 94 = .ok (.iload 5, 2) := by decide +kernel
theorem dX11_comeRows_96 : decode cX11_comeRows 96 = .ok (.iaload, 1) := by decide +kernel
theorem dX11_comeRows_97 : decode cX11_comeRows 97 = .ok (.iadd, 1) := by decide +kernel
theorem dX11_comeRows_98 : decode cX11_comeRows 98 = .ok (.ishl, 1) := by decide +kernel
theorem dX11_comeRows_99 : decode cX11_comeRows 99 = .ok (.ior, 1) := by decide +kernel
theorem dX11_comeRows_100 : decode cX11_comeRows 100 = .ok (.istore 4, 2) := by decide +kernel
theorem dX11_comeRows_102 : decode cX11_comeRows 102 = .ok (.iinc 5 1, 3) := by decide +kernel
theorem dX11_comeRows_105 : decode cX11_comeRows 105 = .ok (.goto (-34), 3) := by decide +kernel
theorem dX11_comeRows_108 : decode cX11_comeRows 108 = .ok (.aload_n 0, 1) := by decide +kernel
theorem dX11_comeRows_109 : decode cX11_comeRows 109 = .ok (.getfield 50, 3) := by decide +kernel
theorem dX11_comeRows_112 : decode cX11_comeRows 112 = .ok (.iload 4, 2) := by decide +kernel
theorem dX11_comeRows_114 : decode cX11_comeRows 114 = .ok (.iconst 1, 1) := by decide +kernel
theorem dX11_comeRows_115 : decode cX11_comeRows 115 = .ok (.bastore, 1) := by decide +kernel
theorem dX11_comeRows_116 : decode cX11_comeRows 116 = .ok (.aload_n 0, 1) := by decide +kernel
theorem dX11_comeRows_117 : decode cX11_comeRows 117 = .ok (.getfield 149, 3) := by decide +kernel
theorem dX11_comeRows_120 : decode cX11_comeRows 120 = .ok (.iconst 1, 1) := by decide +kernel
theorem dX11_comeRows_121 : decode cX11_comeRows 121 = .ok (.isub, 1) := by decide +kernel
theorem dX11_comeRows_122 : decode cX11_comeRows 122 = .ok (.istore 5, 2) := by decide +kernel
theorem dX11_comeRows_124 : decode cX11_comeRows 124 = .ok (.iload 5, 2) := by decide +kernel
theorem dX11_comeRows_126 : decode cX11_comeRows 126 = .ok (.iload_n 1, 1) := by decide +kernel
theorem dX11_comeRows_127 : decode cX11_comeRows 127 = .ok (.if_icmp .le 36, 3) := by decide +kernel
theorem dX11_comeRows_130 : decode cX11_comeRows 130 = .ok (.aload_n 0, 1) := by decide +kernel
theorem dX11_comeRows_131 : decode cX11_comeRows 131 = .ok (.getfield 66, 3) := by decide +kernel
theorem dX11_comeRows_134 : decode cX11_comeRows 134 = .ok (.iload 5, 2) := by decide +kernel
theorem dX11_comeRows_136 : decode cX11_comeRows 136 = .ok (.iaload, 1) := by decide +kernel
theorem dX11_comeRows_137 : decode cX11_comeRows 137 = .ok (.aload_n 0, 1) := by decide +kernel
theorem dX11_comeRows_138 : decode cX11_comeRows 138 = .ok (.getfield 63, 3) := by decide +kernel
theorem dX11_comeRows_141 : decode cX11_comeRows 141 = .ok (.iload 5, 2) := by decide +kernel
theorem dX11_comeRows_143 : decode cX11_comeRows 143 = .ok (.iaload, 1) := by decide +kernel
theorem dX11_comeRows_144 : decode cX11_comeRows 144 = .ok (.iconst 1, 1) := by decide +kernel
theorem dX11_comeRows_145 : decode cX11_comeRows 145 = .ok (.isub, 1) := by decide +kernel
theorem dX11_comeRows_146 : decode cX11_comeRows 146 = .ok (.if_icmp .ne 17, 3) := by decide +kernel
theorem dX11_comeRows_149 : decode cX11_comeRows 149 = .ok (.aload_n 0, 1) := by decide +kernel
theorem dX11_comeRows_150 : decode cX11_comeRows 150 = .ok (.getfield 66, 3) := by decide +kernel
theorem dX11_comeRows_153 : decode cX11_comeRows 153 = .ok (.iload 5, 2) := by decide +kernel
theorem dX11_comeRows_155 : decode cX11_comeRows 155 = .ok (.iconst 0, 1) := by decide +kernel
theorem dX11_comeRows_156 : decode cX11_comeRows 156 = .ok (.iastore, 1) := by decide +kernel
theorem dX11_comeRows_157 : decode cX11_comeRows 157 = .ok (.iinc 5 (-1), 3) := by decide +kernel
theorem dX11_comeRows_160 : decode cX11_comeRows 160 = .ok (.goto (-36), 3) := by decide +kernel
theorem dX11_comeRows_163 : decode cX11_comeRows 163 = .ok (.iload 5, 2) := by decide +kernel
theorem dX11_comeRows_165 : decode cX11_comeRows 165 = .ok (.iload_n 1, 1) := by decide +kernel
theorem dX11_comeRows_166 : decode cX11_comeRows 166 = .ok (.if_icmp .le 7, 3) := by decide +kernel
theorem dX11_comeRows_169 : decode cX11_comeRows 169 = .ok (.iconst 1, 1) := by decide +kernel
theorem dX11_comeRows_170 : decode cX11_comeRows 170 = .ok (.goto 4, 3) := by decide +kernel
theorem dX11_comeRows_173 : decode cX11_comeRows 173 = .ok (.iconst 0, 1) := by decide +kernel
theorem dX11_comeRows_174 : decode cX11_comeRows 174 = .ok (.istore_n 3, 1) := by decide +kernel
theorem dX11_comeRows_175 : decode cX11_comeRows 175 = .ok (.iload_n 3, 1) := by decide +kernel
theorem dX11_comeRows_176 : decode cX11_comeRows 176 = .ok (.ifCond .eq 14, 3) := by decide +kernel
theorem dX11_comeRows_179 : decode cX11_comeRows 179 = .ok (.aload_n 0, 1) := by decide +kernel
theorem dX11_comeRows_180 : decode cX11_comeRows 180 = .ok (.getfield 66, 3) := by decide +kernel
theorem dX11_comeRows_183 : decode cX11_comeRows 183 = .ok (.iload 5, 2) := by decide +kernel
theorem dX11_comeRows_185 : decode cX11_comeRows 185 = .ok (.dup2, 1) := by decide +kernel
theorem dX11_comeRows_186 : decode cX11_comeRows 186 = .ok (.iaload, 1) := by decide +kernel
theorem dX11_comeRows_187 : decode cX11_comeRows 187 = .ok (.iconst 1, 1) := by decide +kernel
theorem dX11_comeRows_188 : decode cX11_comeRows 188 = .ok (.iadd, 1) := by decide +kernel
theorem dX11_comeRows_189 : decode cX11_comeRows 189 = .ok (.iastore, 1) := by decide +kernel
theorem dX11_comeRows_190 : decode cX11_comeRows 190 = .ok (.goto (-131), 3) := by decide +kernel
theorem dX11_comeRows_193 : decode cX11_comeRows 193 = .ok (.iinc 1 1, 3) := by decide +kernel
theorem dX11_comeRows_196 : decode cX11_comeRows 196 = .ok (.goto (-190), 3) := by decide +kernel
theorem dX11_comeRows_199 : decode cX11_comeRows 199 = .ok (.return_, 1) := by decide +kernel
theorem dX11_areKeepers_0 : decode cX11_areKeepers 0 = .ok (.iload_n 1, 1) := by decide +kernel
theorem dX11_areKeepers_1 : decode cX11_areKeepers 1 = .ok (.ifCond .lt 25, 3) := by decide +kernel
theorem dX11_areKeepers_4 : decode cX11_areKeepers 4 = .ok (.iload_n 1, 1) := by decide +kernel
theorem dX11_areKeepers_5 : decode cX11_areKeepers 5 = .ok (.aload_n 0, 1) := by decide +kernel
theorem dX11_areKeepers_6 : decode cX11_areKeepers 6 = .ok (.getfield 91, 3) := by decide +kernel
theorem dX11_areKeepers_9 : decode cX11_areKeepers 9 = .ok (.if_icmp .ge 17, 3) := by decide +kernel
theorem dX11_areKeepers_12 : decode cX11_areKeepers 12 = .ok (.iload_n 2, 1) := by decide +kernel
theorem dX11_areKeepers_13 : decode cX11_areKeepers 13 = .ok (.aload_n 0, 1) := by decide +kernel
theorem dX11_areKeepers_14 : decode cX11_areKeepers 14 = .ok (.getfield 91, 3) := by decide +kernel
theorem dX11_areKeepers_17 : decode cX11_areKeepers 17 = .ok (.iload_n 1, 1) := by decide +kernel
theorem dX11_areKeepers_18 : decode cX11_areKeepers 18 = .ok (.isub, 1) := by decide +kernel
theorem dX11_areKeepers_19 : decode cX11_areKeepers 19 = .ok (.if_icmp .gt 7, 3) := by decide +kernel
theorem dX11_areKeepers_22 : decode cX11_areKeepers 22 = .ok (.iconst 1, 1) := by decide +kernel
theorem dX11_areKeepers_23 : decode cX11_areKeepers 23 = .ok (.goto 4, 3) := by decide +kernel
theorem dX11_areKeepers_26 : decode cX11_areKeepers 26 = .ok (.iconst 0, 1) := by decide +kernel
theorem dX11_areKeepers_27 : decode cX11_areKeepers 27 = .ok (.ireturn, 1) := by decide +kernel
theorem dX11_grid_0 : decode cX11_grid 0 = .ok (.aload_n 0, 1) := by decide +kernel
theorem dX11_grid_1 : decode cX11_grid 1 = .ok (.iconst 0, 1) := by decide +kernel
theorem dX11_grid_2 : decode cX11_grid 2 = .ok (.putfield 84, 3) := by decide +kernel
theorem dX11_grid_5 : decode cX11_grid 5 = .ok (.aload_n 0, 1) := by decide +kernel
theorem dX11_grid_6 : decode cX11_grid 6 = .ok (.iload_n 1, 1) := by decide +kernel
theorem dX11_grid_7 : decode cX11_grid 7 = .ok (.iconst 1, 1) := by decide +kernel
theorem dX11_grid_8 : decode cX11_grid 8 = .ok (.bipush 16, 2) := by decide +kernel
theorem dX11_grid_10 : decode cX11_grid 10 = .ok (.invokevirtual 97, 3) := by decide +kernel
theorem dX11_grid_13 : decode cX11_grid 13 = .ok (.ifCond .eq 14, 3) := by decide +kernel
theorem dX11_grid_16 : decode cX11_grid 16 = .ok (.aload_n 0, 1) := by decide +kernel
theorem dX11_grid_17 : decode cX11_grid 17 = .ok (.iload_n 2, 1) := by decide +kernel
theorem dX11_grid_18 : decode cX11_grid 18 = .ok (.iconst 1, 1) := by decide +kernel
theorem dX11_grid_19 : decode cX11_grid 19 = .ok (.bipush 16, 2) := by decide +kernel
theorem dX11_grid_21 : decode cX11_grid 21 = .ok (.invokevirtual 97, 3) := by decide +kernel
theorem dX11_grid_24 : decode cX11_grid 24 = .ok (.ifCond .ne 9, 3) := by decide +kernel
theorem dX11_grid_27 : decode cX11_grid 27 = .ok (.aload_n 0, 1) := by decide +kernel
theorem dX11_grid_28 : decode cX11_grid 28 = .ok (.iconst 2, 1) := by decide +kernel
theorem dX11_grid_29 : decode cX11_grid 29 = .ok (.invokevirtual 115, 3) := by decide +kernel
theorem dX11_grid_32 : decode cX11_grid 32 = .ok (.ireturn, 1) := by decide +kernel
theorem dX11_grid_33 : decode cX11_grid 33 = .ok (.aload_n 0, 1) := by decide +kernel
theorem dX11_grid_34 : decode cX11_grid 34 = .ok (.iload_n 3, 1) := by decide +kernel
theorem dX11_grid_35 : decode cX11_grid 35 = .ok (.iload_n 1, 1) := by decide +kernel
theorem dX11_grid_36 : decode cX11_grid 36 = .ok (.iload_n 2, 1) := by decide +kernel
theorem dX11_grid_37 : decode cX11_grid 37 = .ok (.imul, 1) := by decide +kernel
theorem dX11_grid_38 : decode cX11_grid 38 = .ok (.invokevirtual 152, 3) := by decide +kernel
theorem dX11_grid_41 : decode cX11_grid 41 = .ok (.ifCond .ne 9, 3) := by decide +kernel
theorem dX11_grid_44 : decode cX11_grid 44 = .ok (.aload_n 0, 1) := by decide +kernel
theorem dX11_grid_45 : decode cX11_grid 45 = .ok (.iconst 1, 1) := by decide +kernel
theorem dX11_grid_46 : decode cX11_grid 46 = .ok (.invokevirtual 115, 3) := by decide +kernel
theorem dX11_grid_49 : decode cX11_grid 49 = .ok (.ireturn, 1) := by decide +kernel
theorem dX11_grid_50 : decode cX11_grid 50 = .ok (.aload_n 0, 1) := by decide +kernel
theorem dX11_grid_51 : decode cX11_grid 51 = .ok (.iload_n 1, 1) := by decide +kernel
theorem dX11_grid_52 : decode cX11_grid 52 = .ok (.putfield 149, 3) := by decide +kernel
theorem dX11_grid_55 : decode cX11_grid 55 = .ok (.iconst 0, 1) := by decide +kernel
theorem dX11_grid_56 : decode cX11_grid 56 = .ok (.istore 4, 2) := by decide +kernel
theorem dX11_grid_58 : decode cX11_grid 58 = .ok (.iload 4, 2) := by decide +kernel
theorem dX11_grid_60 : decode cX11_grid 60 = .ok (.aload_n 0, 1) := by decide +kernel
theorem dX11_grid_61 : decode cX11_grid 61 = .ok (.getfield 149, 3) := by decide +kernel
theorem dX11_grid_64 : decode cX11_grid 64 = .ok (.if_icmp .ge 30, 3) := by decide +kernel
theorem dX11_grid_67 : decode cX11_grid 67 = .ok (.aload_n 0, 1) := by decide +kernel
theorem dX11_grid_68 : decode cX11_grid 68 = .ok (.getfield 60, 3) := by decide +kernel
theorem dX11_grid_71 : decode cX11_grid 71 = .ok (.iload 4, 2) := by decide +kernel
theorem dX11_grid_73 : decode cX11_grid 73 = .ok (.iload_n 3, 1) := by decide +kernel
theorem dX11_grid_74 : decode cX11_grid 74 = .ok (.iload 4, 2) := by decide +kernel
theorem dX11_grid_76 : decode cX11_grid 76 = .ok (.iload_n 2, 1) := by decide +kernel
theorem dX11_grid_77 : decode cX11_grid 77 = .ok (.imul, 1) := by decide +kernel
theorem dX11_grid_78 : decode cX11_grid 78 = .ok (.iadd, 1) := by decide +kernel
theorem dX11_grid_79 : decode cX11_grid 79 = .ok (.iastore, 1) := by decide +kernel
theorem dX11_grid_80 : decode cX11_grid 80 = .ok (.aload_n 0, 1) := by decide +kernel
theorem dX11_grid_81 : decode cX11_grid 81 = .ok (.getfield 63, 3) := by decide +kernel
theorem dX11_grid_84 : decode cX11_grid 84 = .ok (.iload 4, 2) := by decide +kernel
theorem dX11_grid_86 : decode cX11_grid 86 = .ok (.iload_n 2, 1) := by decide +kernel
theorem dX11_grid_87 : decode cX11_grid 87 = .ok (.iastore, 1) := by decide +kernel
theorem dX11_grid_88 : decode cX11_grid 88 = .ok (.iinc 4 1, 3) := by decide +kernel
theorem dX11_grid_91 : decode cX11_grid 91 = .ok (.goto (-33), 3) := by decide +kernel
theorem dX11_grid_94 : decode cX11_grid 94 = .ok (.aload_n 0, 1) := by decide +kernel
theorem dX11_grid_95 : decode cX11_grid 95 = .ok (.invokevirtual 156, 3) := by decide +kernel
theorem dX11_grid_98 : decode cX11_grid 98 = .ok (.aload_n 0, 1) := by decide +kernel
theorem dX11_grid_99 : decode cX11_grid 99 = .ok (.iconst 2, 1) := by decide +kernel
theorem dX11_grid_100 : decode cX11_grid 100 = .ok (.invokevirtual 143, 3) := by decide +kernel
theorem dX11_grid_103 : decode cX11_grid 103 = .ok (.ireturn, 1) := by decide +kernel
theorem dX11_wall_0 : decode cX11_wall 0 = .ok (.aload_n 0, 1) := by decide +kernel
theorem dX11_wall_1 : decode cX11_wall 1 = .ok (.iconst 0, 1) := by decide +kernel
theorem dX11_wall_2 : decode cX11_wall 2 = .ok (.putfield 84, 3) := by decide +kernel
theorem dX11_wall_5 : decode cX11_wall 5 = .ok (.aload_n 0, 1) := by decide +kernel
theorem dX11_wall_6 : decode cX11_wall 6 = .ok (.iconst 0, 1) := by decide +kernel
theorem dX11_wall_7 : decode cX11_wall 7 = .ok (.putfield 149, 3) := by decide +kernel
theorem dX11_wall_10 : decode cX11_wall 10 = .ok (.iconst 0, 1) := by decide +kernel
theorem dX11_wall_11 : decode cX11_wall 11 = .ok (.istore 7, 2) := by decide +kernel
theorem dX11_wall_13 : decode cX11_wall 13 = .ok (.iconst 1, 1) := by decide +kernel
theorem dX11_wall_14 : decode cX11_wall 14 = .ok (.istore 8, 2) := by decide +kernel
theorem dX11_wall_16 : decode cX11_wall 16 = .ok (.iconst 0, 1) := by decide +kernel
theorem dX11_wall_17 : decode cX11_wall 17 = .ok (.istore 9, 2) := by decide +kernel
theorem dX11_wall_19 : decode cX11_wall 19 = .ok (.iload 9, 2) := by decide +kernel
theorem dX11_wall_21 : decode cX11_wall 21 = .ok (.iconst 5, 1) := by decide +kernel
theorem dX11_wall_22 : decode cX11_wall 22 = .ok (.if_icmp .ge 145, 3) := by decide +kernel
theorem dX11_wall_25 : decode cX11_wall 25 = .ok (.iload 9, 2) := by decide +kernel
theorem dX11_wall_27 : decode cX11_wall 27 = .ok (.ifCond .ne 7, 3) := by decide +kernel
theorem dX11_wall_30 : decode cX11_wall 30 = .ok (.iload_n 2, 1) := by decide +kernel
theorem dX11_wall_31 : decode cX11_wall 31 = .ok (.goto 37, 3) := by decide +kernel
theorem dX11_wall_34 : decode cX11_wall 34 = .ok (.iload 9, 2) := by decide +kernel
theorem dX11_wall_36 : decode cX11_wall 36 = .ok (.iconst 1, 1) := by decide +kernel
theorem dX11_wall_37 : decode cX11_wall 37 = .ok (.if_icmp .ne 7, 3) := by decide +kernel
theorem dX11_wall_40 : decode cX11_wall 40 = .ok (.iload_n 3, 1) := by decide +kernel
theorem dX11_wall_41 : decode cX11_wall 41 = .ok (.goto 27, 3) := by decide +kernel
theorem dX11_wall_44 : decode cX11_wall 44 = .ok (.iload 9, 2) := by decide +kernel
theorem dX11_wall_46 : decode cX11_wall 46 = .ok (.iconst 2, 1) := by decide +kernel
theorem dX11_wall_47 : decode cX11_wall 47 = .ok (.if_icmp .ne 8, 3) := by decide +kernel
theorem dX11_wall_50 : decode cX11_wall 50 = .ok (.iload 4, 2) := by decide +kernel
theorem dX11_wall_52 : decode cX11_wall 52 = .ok (.goto 16, 3) := by decide +kernel
theorem dX11_wall_55 : decode cX11_wall 55 = .ok (.iload 9, 2) := by decide +kernel
theorem dX11_wall_57 : decode cX11_wall 57 = .ok (.iconst 3, 1) := by decide +kernel
theorem dX11_wall_58 : decode cX11_wall 58 = .ok (.if_icmp .ne 8, 3) := by decide +kernel
theorem dX11_wall_61 : decode cX11_wall 61 = .ok (.iload 5, 2) := by decide +kernel
theorem dX11_wall_63 : decode cX11_wall 63 = .ok (.goto 5, 3) := by decide +kernel
theorem dX11_wall_66 : decode cX11_wall 66 = .ok (.iload 6, 2) := by decide +kernel
theorem dX11_wall_68 : decode cX11_wall 68 = .ok (.istore 10, 2) := by decide +kernel
theorem dX11_wall_70 : decode cX11_wall 70 = .ok (.aload_n 0, 1) := by decide +kernel
theorem dX11_wall_71 : decode cX11_wall 71 = .ok (.iload 10, 2) := by decide +kernel
theorem dX11_wall_73 : decode cX11_wall 73 = .ok (.iload 9, 2) := by decide +kernel
theorem dX11_wall_75 : decode cX11_wall 75 = .ok (.ifCond .ne 7, 3) := by decide +kernel
theorem dX11_wall_78 : decode cX11_wall 78 = .ok (.iconst 1, 1) := by decide +kernel
theorem dX11_wall_79 : decode cX11_wall 79 = .ok (.goto 4, 3) := by decide +kernel
theorem dX11_wall_82 : decode cX11_wall 82 = .ok (.iconst 0, 1) := by decide +kernel
theorem dX11_wall_83 : decode cX11_wall 83 = .ok (.bipush 16, 2) := by decide +kernel
theorem dX11_wall_85 : decode cX11_wall 85 = .ok (.invokevirtual 97, 3) := by decide +kernel
theorem dX11_wall_88 : decode cX11_wall 88 = .ok (.ifCond .ne 9, 3) := by decide +kernel
theorem dX11_wall_91 : decode cX11_wall 91 = .ok (.aload_n 0, 1) := by decide +kernel
theorem dX11_wall_92 : decode cX11_wall 92 = .ok (.iconst 2, 1) := by decide +kernel
theorem dX11_wall_93 : decode cX11_wall 93 = .ok (.invokevirtual 115, 3) := by decide +kernel
theorem dX11_wall_96 : decode cX11_wall 96 = .ok (.ireturn, 1) := by decide +kernel
theorem dX11_wall_97 : decode cX11_wall 97 = .ok (.iload 8, 2) := by decide +kernel
theorem dX11_wall_99 : decode cX11_wall 99 = .ok (.ifCond .eq 12, 3) := by decide +kernel
theorem dX11_wall_102 : decode cX11_wall 102 = .ok (.iload 10, 2) := by decide +kernel
theorem dX11_wall_104 : decode cX11_wall 104 = .ok (.ifCond .le 7, 3) := by decide +kernel
theorem dX11_wall_107 : decode cX11_wall 107 = .ok (.iconst 1, 1) := by decide +kernel
theorem dX11_wall_108 : decode cX11_wall 108 = .ok (.goto 4, 3) := by decide +kernel
theorem dX11_wall_111 : decode cX11_wall 111 = .ok (.iconst 0, 1) := by decide +kernel
theorem dX11_wall_112 : decode cX11_wall 112 = .ok (.istore 8, 2) := by decide +kernel
theorem dX11_wall_114 : decode cX11_wall 114 = .ok (.iload 8, 2) := by decide +kernel
theorem dX11_wall_116 : decode cX11_wall 116 = .ok (.ifCond .ne 6, 3) := by decide +kernel
theorem dX11_wall_119 : decode cX11_wall 119 = .ok (.goto 42, 3) := by decide +kernel
theorem dX11_wall_122 : decode cX11_wall 122 = .ok (.aload_n 0, 1) := by decide +kernel
theorem dX11_wall_123 : decode cX11_wall 123 = .ok (.getfield 60, 3) := by decide +kernel
theorem dX11_wall_126 : decode cX11_wall 126 = .ok (.aload_n 0, 1) := by decide +kernel
theorem dX11_wall_127 : decode cX11_wall 127 = .ok (.getfield 149, 3) := by decide +kernel
theorem dX11_wall_130 : decode cX11_wall 130 = .ok (.iload 7, 2) := by decide +kernel
theorem dX11_wall_132 : decode cX11_wall 132 = .ok (.iastore, 1) := by decide +kernel
theorem dX11_wall_133 : decode cX11_wall 133 = .ok (.aload_n 0, 1) := by decide +kernel
theorem dX11_wall_134 : decode cX11_wall 134 = .ok (.getfield 63, 3) := by decide +kernel
theorem dX11_wall_137 : decode cX11_wall 137 = .ok (.aload_n 0, 1) := by decide +kernel
theorem dX11_wall_138 : decode cX11_wall 138 = .ok (.getfield 149, 3) := by decide +kernel
theorem dX11_wall_141 : decode cX11_wall 141 = .ok (.iload 10, 2) := by decide +kernel
theorem dX11_wall_143 : decode cX11_wall 143 = .ok (.iastore, 1) := by decide +kernel
theorem dX11_wall_144 : decode cX11_wall 144 = .ok (.aload_n 0, 1) := by decide +kernel
theorem dX11_wall_145 : decode cX11_wall 145 = .ok (.dup, 1) := by decide +kernel
theorem dX11_wall_146 : decode cX11_wall 146 = .ok (.getfield 149, 3) := by decide +kernel
theorem dX11_wall_149 : decode cX11_wall 149 = .ok (.iconst 1, 1) := by decide +kernel
theorem dX11_wall_150 : decode cX11_wall 150 = .ok (.iadd, 1) := by decide +kernel
theorem dX11_wall_151 : decode cX11_wall 151 = .ok (.putfield 149, 3) := by decide +kernel
theorem dX11_wall_154 : decode cX11_wall 154 = .ok (.iload 7, 2) := by decide +kernel
theorem dX11_wall_156 : decode cX11_wall 156 = .ok (.iload 10, 2) := by decide +kernel
theorem dX11_wall_158 : decode cX11_wall 158 = .ok (.iadd, 1) := by decide +kernel
theorem dX11_wall_159 : decode cX11_wall 159 = .ok (.istore 7, 2) := by decide +kernel
theorem dX11_wall_161 : decode cX11_wall 161 = .ok (.iinc 9 1, 3) := by decide +kernel
theorem dX11_wall_164 : decode cX11_wall 164 = .ok (.goto (-145), 3) := by decide +kernel
theorem dX11_wall_167 : decode cX11_wall 167 = .ok (.aload_n 0, 1) := by decide +kernel
theorem dX11_wall_168 : decode cX11_wall 168 = .ok (.iload_n 1, 1) := by decide +kernel
theorem dX11_wall_169 : decode cX11_wall 169 = .ok (.iload 7, 2) := by decide +kernel
theorem dX11_wall_171 : decode cX11_wall 171 = .ok (.invokevirtual 152, 3) := by decide +kernel
theorem dX11_wall_174 : decode cX11_wall 174 = .ok (.ifCond .ne 9, 3) := by decide +kernel
theorem dX11_wall_177 : decode cX11_wall 177 = .ok (.aload_n 0, 1) := by decide +kernel
theorem dX11_wall_178 : decode cX11_wall 178 = .ok (.iconst 1, 1) := by decide +kernel
theorem dX11_wall_179 : decode cX11_wall 179 = .ok (.invokevirtual 115, 3) := by decide +kernel
theorem dX11_wall_182 : decode cX11_wall 182 = .ok (.ireturn, 1) := by decide +kernel
theorem dX11_wall_183 : decode cX11_wall 183 = .ok (.iconst 0, 1) := by decide +kernel
theorem dX11_wall_184 : decode cX11_wall 184 = .ok (.istore 9, 2) := by decide +kernel
theorem dX11_wall_186 : decode cX11_wall 186 = .ok (.iload 9, 2) := by decide +kernel
theorem dX11_wall_188 : decode cX11_wall 188 = .ok (.aload_n 0, 1) := by decide +kernel
theorem dX11_wall_189 : decode cX11_wall 189 = .ok (.getfield 149, 3) := by decide +kernel
theorem dX11_wall_192 : decode cX11_wall 192 = .ok (.if_icmp .ge 20, 3) := by decide +kernel
theorem dX11_wall_195 : decode cX11_wall 195 = .ok (.aload_n 0, 1) := by decide +kernel
theorem dX11_wall_196 : decode cX11_wall 196 = .ok (.getfield 60, 3) := by decide +kernel
theorem dX11_wall_199 : decode cX11_wall 199 = .ok (.iload 9, 2) := by decide +kernel
theorem dX11_wall_201 : decode cX11_wall 201 = .ok (.dup2, 1) := by decide +kernel
theorem dX11_wall_202 : decode cX11_wall 202 = .ok (.iaload, 1) := by decide +kernel
theorem dX11_wall_203 : decode cX11_wall 203 = .ok (.iload_n 1, 1) := by decide +kernel
theorem dX11_wall_204 : decode cX11_wall 204 = .ok (.iadd, 1) := by decide +kernel
theorem dX11_wall_205 : decode cX11_wall 205 = .ok (.iastore, 1) := by decide +kernel
theorem dX11_wall_206 : decode cX11_wall 206 = .ok (.iinc 9 1, 3) := by decide +kernel
theorem dX11_wall_209 : decode cX11_wall 209 = .ok (.goto (-23), 3) := by decide +kernel
theorem dX11_wall_212 : decode cX11_wall 212 = .ok (.aload_n 0, 1) := by decide +kernel
theorem dX11_wall_213 : decode cX11_wall 213 = .ok (.invokevirtual 156, 3) := by decide +kernel
theorem dX11_wall_216 : decode cX11_wall 216 = .ok (.aload_n 0, 1) := by decide +kernel
theorem dX11_wall_217 : decode cX11_wall 217 = .ok (.iconst 3, 1) := by decide +kernel
theorem dX11_wall_218 : decode cX11_wall 218 = .ok (.invokevirtual 143, 3) := by decide +kernel
theorem dX11_wall_221 : decode cX11_wall 221 = .ok (.ireturn, 1) := by decide +kernel
theorem dX11_enoughs_0 : decode cX11_enoughs 0 = .ok (.aload_n 0, 1) := by decide +kernel
theorem dX11_enoughs_1 : decode cX11_enoughs 1 = .ok (.getfield 69, 3) := by decide +kernel
theorem dX11_enoughs_4 : decode cX11_enoughs 4 = .ok (.sipush 256, 3) := by decide +kernel
theorem dX11_enoughs_7 : decode cX11_enoughs 7 = .ok (.iload_n 1, 1) := by decide +kernel
theorem dX11_enoughs_8 : decode cX11_enoughs 8 = .ok (.imul, 1) := by decide +kernel
theorem dX11_enoughs_9 : decode cX11_enoughs 9 = .ok (.aload_n 0, 1) := by decide +kernel
theorem dX11_enoughs_10 : decode cX11_enoughs 10 = .ok (.getfield 72, 3) := by decide +kernel
theorem dX11_enoughs_13 : decode cX11_enoughs 13 = .ok (.iload_n 1, 1) := by decide +kernel
theorem dX11_enoughs_14 : decode cX11_enoughs 14 = .ok (.iaload, 1) := by decide +kernel
theorem dX11_enoughs_15 : decode cX11_enoughs 15 = .ok (.iadd, 1) := by decide +kernel
theorem dX11_enoughs_16 : decode cX11_enoughs 16 = .ok (.iload_n 2, 1) := by decide +kernel
theorem dX11_enoughs_17 : decode cX11_enoughs 17 = .ok (.iastore, 1) := by decide +kernel
theorem dX11_enoughs_18 : decode cX11_enoughs 18 = .ok (.aload_n 0, 1) := by decide +kernel
theorem dX11_enoughs_19 : decode cX11_enoughs 19 = .ok (.getfield 72, 3) := by decide +kernel
theorem dX11_enoughs_22 : decode cX11_enoughs 22 = .ok (.iload_n 1, 1) := by decide +kernel
theorem dX11_enoughs_23 : decode cX11_enoughs 23 = .ok (.dup2, 1) := by decide +kernel
theorem dX11_enoughs_24 : decode cX11_enoughs 24 = .ok (.iaload, 1) := by decide +kernel
theorem dX11_enoughs_25 : decode cX11_enoughs 25 = .ok (.iconst 1, 1) := by decide +kernel
theorem dX11_enoughs_26 : decode cX11_enoughs 26 = .ok (.iadd, 1) := by decide +kernel
theorem dX11_enoughs_27 : decode cX11_enoughs 27 = .ok (.iastore, 1) := by decide +kernel
theorem dX11_enoughs_28 : decode cX11_enoughs 28 = .ok (.return_, 1) := by decide +kernel
theorem dX11_tree_0 : decode cX11_tree 0 = .ok (.aload_n 0, 1) := by decide +kernel
theorem dX11_tree_1 : decode cX11_tree 1 = .ok (.iconst 0, 1) := by decide +kernel
theorem dX11_tree_2 : decode cX11_tree 2 = .ok (.putfield 84, 3) := by decide +kernel
theorem dX11_tree_5 : decode cX11_tree 5 = .ok (.aload_n 0, 1) := by decide +kernel
theorem dX11_tree_6 : decode cX11_tree 6 = .ok (.iload_n 1, 1) := by decide +kernel
theorem dX11_tree_7 : decode cX11_tree 7 = .ok (.iconst 1, 1) := by decide +kernel
theorem dX11_tree_8 : decode cX11_tree 8 = .ok (.iconst 4, 1) := by decide +kernel
theorem dX11_tree_9 : decode cX11_tree 9 = .ok (.invokevirtual 97, 3) := by decide +kernel
theorem dX11_tree_12 : decode cX11_tree 12 = .ok (.ifCond .ne 9, 3) := by decide +kernel
theorem dX11_tree_15 : decode cX11_tree 15 = .ok (.aload_n 0, 1) := by decide +kernel
theorem dX11_tree_16 : decode cX11_tree 16 = .ok (.iconst 2, 1) := by decide +kernel
theorem dX11_tree_17 : decode cX11_tree 17 = .ok (.invokevirtual 115, 3) := by decide +kernel
theorem dX11_tree_20 : decode cX11_tree 20 = .ok (.ireturn, 1) := by decide +kernel
theorem dX11_tree_21 : decode cX11_tree 21 = .ok (.iconst 1, 1) := by decide +kernel
theorem dX11_tree_22 : decode cX11_tree 22 = .ok (.iload_n 1, 1) := by decide +kernel
theorem dX11_tree_23 : decode cX11_tree 23 = .ok (.ishl, 1) := by decide +kernel
theorem dX11_tree_24 : decode cX11_tree 24 = .ok (.iconst 1, 1) := by decide +kernel
theorem dX11_tree_25 : decode cX11_tree 25 = .ok (.isub, 1) := by decide +kernel
theorem dX11_tree_26 : decode cX11_tree 26 = .ok (.istore_n 3, 1) := by decide +kernel
theorem dX11_tree_27 : decode cX11_tree 27 = .ok (.aload_n 0, 1) := by decide +kernel
theorem dX11_tree_28 : decode cX11_tree 28 = .ok (.iload_n 2, 1) := by decide +kernel
theorem dX11_tree_29 : decode cX11_tree 29 = .ok (.iload_n 3, 1) := by decide +kernel
theorem dX11_tree_30 : decode cX11_tree 30 = .ok (.invokevirtual 152, 3) := by decide +kernel
theorem dX11_tree_33 : decode cX11_tree 33 = .ok (.ifCond .ne 9, 3) := by decide +kernel
theorem dX11_tree_36 : decode cX11_tree 36 = .ok (.aload_n 0, 1) := by decide +kernel
theorem dX11_tree_37 : decode cX11_tree 37 = .ok (.iconst 1, 1) := by decide +kernel
theorem dX11_tree_38 : decode cX11_tree 38 = .ok (.invokevirtual 115, 3) := by decide +kernel
theorem dX11_tree_41 : decode cX11_tree 41 = .ok (.ireturn, 1) := by decide +kernel
theorem dX11_tree_42 : decode cX11_tree 42 = .ok (.iload_n 3, 1) := by decide +kernel
theorem dX11_tree_43 : decode cX11_tree 43 = .ok (.istore 4, 2) := by decide +kernel
theorem dX11_tree_45 : decode cX11_tree 45 = .ok (.iload 4, 2) := by decide +kernel
theorem dX11_tree_47 : decode cX11_tree 47 = .ok (.ifCond .le 223, 3) := by decide +kernel
theorem dX11_tree_50 : decode cX11_tree 50 = .ok (.iconst 1, 1) := by decide +kernel
theorem dX11_tree_51 : decode cX11_tree 51 = .ok (.iload_n 2, 1) := by decide +kernel
theorem dX11_tree_52 : decode cX11_tree 52 = .ok (.iload 4, 2) := by decide +kernel
theorem dX11_tree_54 : decode cX11_tree 54 = .ok (.iadd, 1) := by decide +kernel
theorem dX11_tree_55 : decode cX11_tree 55 = .ok (.iconst 1, 1) := by decide +kernel
theorem dX11_tree_56 : decode cX11_tree 56 = .ok (.isub, 1) := by decide +kernel
theorem dX11_tree_57 : decode cX11_tree 57 = .ok (.ishl, 1) := by decide +kernel
theorem dX11_tree_58 : decode cX11_tree 58 = .ok (.istore 5, 2) := by decide +kernel
theorem dX11_tree_60 : decode cX11_tree 60 = .ok (.aload_n 0, 1) := by decide +kernel
theorem dX11_tree_61 : decode cX11_tree 61 = .ok (.getfield 72, 3) := by decide +kernel
theorem dX11_tree_64 : decode cX11_tree 64 = .ok (.iload 4, 2) := by decide +kernel
theorem dX11_tree_66 : decode cX11_tree 66 = .ok (.iconst 0, 1) := by decide +kernel
theorem dX11_tree_67 : decode cX11_tree 67 = .ok (.iastore, 1) := by decide +kernel
