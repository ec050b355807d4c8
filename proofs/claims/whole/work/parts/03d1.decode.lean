theorem dX11_tree_68 : decode cX11_tree 68 = .ok (.iconst 2, 1) := by decide +kernel
theorem dX11_tree_69 : decode cX11_tree 69 = .ok (.iload 4, 2) := by decide +kernel
theorem dX11_tree_71 : decode cX11_tree 71 = .ok (.imul, 1) := by decide +kernel
theorem dX11_tree_72 : decode cX11_tree 72 = .ok (.iload_n 3, 1) := by decide +kernel
theorem dX11_tree_73 : decode cX11_tree 73 = .ok (.if_icmp .le 14, 3) := by decide +kernel
theorem dX11_tree_76 : decode cX11_tree 76 = .ok (.aload_n 0, 1) := by decide +kernel
theorem dX11_tree_77 : decode cX11_tree 77 = .ok (.iload 4, 2) := by decide +kernel
theorem dX11_tree_79 : decode cX11_tree 79 = .ok (.iload 5, 2) := by decide +kernel
theorem dX11_tree_81 : decode cX11_tree 81 = .ok (.invokevirtual 159, 3) := by decide +kernel
theorem dX11_tree_84 : decode cX11_tree 84 = .ok (.goto 180, 3) := by decide +kernel
theorem dX11_tree_87 : decode cX11_tree 87 = .ok (.iconst 2, 1) := by decide +kernel
theorem dX11_tree_88 : decode cX11_tree 88 = .ok (.iload 4, 2) := by decide +kernel
theorem dX11_tree_90 : decode cX11_tree 90 = .ok (.imul, 1) := by decide +kernel
theorem dX11_tree_91 : decode cX11_tree 91 = .ok (.istore 6, 2) := by decide +kernel
theorem dX11_tree_93 : decode cX11_tree 93 = .ok (.iload 6, 2) := by decide +kernel
theorem dX11_tree_95 : decode cX11_tree 95 = .ok (.iconst 1, 1) := by decide +kernel
theorem dX11_tree_96 : decode cX11_tree 96 = .ok (.iadd, 1) := by decide +kernel
theorem dX11_tree_97 : decode cX11_tree 97 = .ok (.istore 7, 2) := by decide +kernel
theorem dX11_tree_99 : decode cX11_tree 99 = .ok (.iconst 0, 1) := by decide +kernel
theorem dX11_tree_100 : decode cX11_tree 100 = .ok (.istore 8, 2) := by decide +kernel
theorem dX11_tree_102 : decode cX11_tree 102 = .ok (.iload 8, 2) := by decide +kernel
theorem dX11_tree_104 : decode cX11_tree 104 = .ok (.aload_n 0, 1) := by decide +kernel
theorem dX11_tree_105 : decode cX11_tree 105 = .ok (.getfield 72, 3) := by decide +kernel
theorem dX11_tree_108 : decode cX11_tree 108 = .ok (.iload 6, 2) := by decide +kernel
theorem dX11_tree_110 : decode cX11_tree 110 = .ok (.iaload, 1) := by decide +kernel
theorem dX11_tree_111 : decode cX11_tree 111 = .ok (.if_icmp .ge 32, 3) := by decide +kernel
theorem dX11_tree_114 : decode cX11_tree 114 = .ok (.aload_n 0, 1) := by decide +kernel
theorem dX11_tree_115 : decode cX11_tree 115 = .ok (.iload 4, 2) := by decide +kernel
theorem dX11_tree_117 : decode cX11_tree 117 = .ok (.iload 5, 2) := by decide +kernel
theorem dX11_tree_119 : decode cX11_tree 119 = .ok (.aload_n 0, 1) := by decide +kernel
theorem dX11_tree_120 : decode cX11_tree 120 = .ok (.getfield 69, 3) := by decide +kernel
theorem dX11_tree_123 : decode cX11_tree 123 = .ok (.sipush 256, 3) := by decide +kernel
theorem dX11_tree_126 : decode cX11_tree 126 = .ok (.iload 6, 2) := by decide +kernel
theorem dX11_tree_128 : decode cX11_tree 128 = .ok (.imul, 1) := by decide +kernel
theorem dX11_tree_129 : decode cX11_tree 129 = .ok (.iload 8, 2) := by decide +kernel
theorem dX11_tree_131 : decode cX11_tree 131 = .ok (.iadd, 1) := by decide +kernel
theorem dX11_tree_132 : decode cX11_tree 132 = .ok (.iaload, 1) := by decide +kernel
theorem dX11_tree_133 : decode cX11_tree 133 = .ok (.ior, 1) := by decide +kernel
theorem dX11_tree_134 : decode cX11_tree 134 = .ok (.invokevirtual 159, 3) := by decide +kernel
theorem dX11_tree_137 : decode cX11_tree 137 = .ok (.iinc 8 1, 3) := by decide +kernel
theorem dX11_tree_140 : decode cX11_tree 140 = .ok (.goto (-38), 3) := by decide +kernel
theorem dX11_tree_143 : decode cX11_tree 143 = .ok (.iconst 0, 1) := by decide +kernel
theorem dX11_tree_144 : decode cX11_tree 144 = .ok (.istore 8, 2) := by decide +kernel
theorem dX11_tree_146 : decode cX11_tree 146 = .ok (.iload 8, 2) := by decide +kernel
theorem dX11_tree_148 : decode cX11_tree 148 = .ok (.aload_n 0, 1) := by decide +kernel
theorem dX11_tree_149 : decode cX11_tree 149 = .ok (.getfield 72, 3) := by decide +kernel
theorem dX11_tree_152 : decode cX11_tree 152 = .ok (.iload 7, 2) := by decide +kernel
theorem dX11_tree_154 : decode cX11_tree 154 = .ok (.iaload, 1) := by decide +kernel
theorem dX11_tree_155 : decode cX11_tree 155 = .ok (.if_icmp .ge 32, 3) := by decide +kernel
theorem dX11_tree_158 : decode cX11_tree 158 = .ok (.aload_n 0, 1) := by decide +kernel
theorem dX11_tree_159 : decode cX11_tree 159 = .ok (.iload 4, 2) := by decide +kernel
theorem dX11_tree_161 : decode cX11_tree 161 = .ok (.iload 5, 2) := by decide +kernel
theorem dX11_tree_163 : decode cX11_tree 163 = .ok (.aload_n 0, 1) := by decide +kernel
theorem dX11_tree_164 : decode cX11_tree 164 = .ok (.getfield 69, 3) := by decide +kernel
theorem dX11_tree_167 : decode cX11_tree 167 = .ok (.sipush 256, 3) := by decide +kernel
theorem dX11_tree_170 : decode cX11_tree 170 = .ok (.iload 7, 2) := by decide +kernel
theorem dX11_tree_172 : decode cX11_tree 172 = .ok (.imul, 1) := by decide +kernel
theorem dX11_tree_173 : decode cX11_tree 173 = .ok (.iload 8, 2) := by decide +kernel
theorem dX11_tree_175 : decode cX11_tree 175 = .ok (.iadd, 1) := by decide +kernel
theorem dX11_tree_176 : decode cX11_tree 176 = .ok (.iaload, 1) := by decide +kernel
theorem dX11_tree_177 : decode cX11_tree 177 = .ok (.ior, 1) := by decide +kernel
theorem dX11_tree_178 : decode cX11_tree 178 = .ok (.invokevirtual 159, 3) := by decide +kernel
theorem dX11_tree_181 : decode cX11_tree 181 = .ok (.iinc 8 1, 3) := by decide +kernel
theorem dX11_tree_184 : decode cX11_tree 184 = .ok (.goto (-38), 3) := by decide +kernel
theorem dX11_tree_187 : decode cX11_tree 187 = .ok (.iconst 0, 1) := by decide +kernel
theorem dX11_tree_188 : decode cX11_tree 188 = .ok (.istore 8, 2) := by decide +kernel
theorem dX11_tree_190 : decode cX11_tree 190 = .ok (.iload 8, 2) := by decide +kernel
theorem dX11_tree_192 : decode cX11_tree 192 = .ok (.aload_n 0, 1) := by decide +kernel
theorem dX11_tree_193 : decode cX11_tree 193 = .ok (.getfield 72, 3) := by decide +kernel
theorem dX11_tree_196 : decode cX11_tree 196 = .ok (.iload 6, 2) := by decide +kernel
theorem dX11_tree_198 : decode cX11_tree 198 = .ok (.iaload, 1) := by decide +kernel
theorem dX11_tree_199 : decode cX11_tree 199 = .ok (.if_icmp .ge 65, 3) := by decide +kernel
theorem dX11_tree_202 : decode cX11_tree 202 = .ok (.iconst 0, 1) := by decide +kernel
theorem dX11_tree_203 : decode cX11_tree 203 = .ok (.istore 9, 2) := by decide +kernel
theorem dX11_tree_205 : decode cX11_tree 205 = .ok (.iload 9, 2) := by decide +kernel
theorem dX11_tree_207 : decode cX11_tree 207 = .ok (.aload_n 0, 1) := by decide +kernel
theorem dX11_tree_208 : decode cX11_tree 208 = .ok (.getfield 72, 3) := by decide +kernel
theorem dX11_tree_211 : decode cX11_tree 211 = .ok (.iload 7, 2) := by decide +kernel
theorem dX11_tree_213 : decode cX11_tree 213 = .ok (.iaload, 1) := by decide +kernel
theorem dX11_tree_214 : decode cX11_tree 214 = .ok (.if_icmp .ge 44, 3) := by decide +kernel
theorem dX11_tree_217 : decode cX11_tree 217 = .ok (.aload_n 0, 1) := by decide +kernel
theorem dX11_tree_218 : decode cX11_tree 218 = .ok (.iload 4, 2) := by decide +kernel
theorem dX11_tree_220 : decode cX11_tree 220 = .ok (.aload_n 0, 1) := by decide +kernel
theorem dX11_tree_221 : decode cX11_tree 221 = .ok (.getfield 69, 3) := by decide +kernel
theorem dX11_tree_224 : decode cX11_tree 224 = .ok (.sipush 256, 3) := by decide +kernel
theorem dX11_tree_227 : decode cX11_tree 227 = .ok (.iload 6, 2) := by decide +kernel
theorem dX11_tree_229 : decode cX11_tree 229 = .ok (.imul, 1) := by decide +kernel
theorem dX11_tree_230 : decode cX11_tree 230 = .ok (.iload 8, 2) := by decide +kernel
theorem dX11_tree_232 : decode cX11_tree 232 = .ok (.iadd, 1) := by decide +kernel
theorem dX11_tree_233 : decode cX11_tree 233 = .ok (.iaload, 1) := by decide +kernel
theorem dX11_tree_234 : decode cX11_tree 234 = .ok (.aload_n 0, 1) := by decide +kernel
theorem dX11_tree_235 : decode cX11_tree 235 = .ok (.getfield 69, 3) := by decide +kernel
theorem dX11_tree_238 : decode cX11_tree 238 = .ok (.sipush 256, 3) := by decide +kernel
theorem dX11_tree_241 : decode cX11_tree 241 = .ok (.iload 7, 2) := by decide +kernel
theorem dX11_tree_243 : decode cX11_tree 243 = .ok (.imul, 1) := by decide +kernel
theorem dX11_tree_244 : decode cX11_tree 244 = .ok (.iload 9, 2) := by decide +kernel
theorem dX11_tree_246 : decode cX11_tree 246 = .ok (.iadd, 1) := by decide +kernel
theorem dX11_tree_247 : decode cX11_tree 247 = .ok (.iaload, 1) := by decide +kernel
theorem dX11_tree_248 : decode cX11_tree 248 = .ok (.ior, 1) := by decide +kernel
theorem dX11_tree_249 : decode cX11_tree 249 = .ok (.invokevirtual 159, 3) := by decide +kernel
theorem dX11_tree_252 : decode cX11_tree 252 = .ok (.iinc 9 1, 3) := by decide +kernel
theorem dX11_tree_255 : decode cX11_tree 255 = .ok (.goto (-50), 3) := by decide +kernel
theorem dX11_tree_258 : decode cX11_tree 258 = .ok (.iinc 8 1, 3) := by decide +kernel
theorem dX11_tree_261 : decode cX11_tree 261 = .ok (.goto (-71), 3) := by decide +kernel
theorem dX11_tree_264 : decode cX11_tree 264 = .ok (.iinc 4 (-1), 3) := by decide +kernel
theorem dX11_tree_267 : decode cX11_tree 267 = .ok (.goto (-222), 3) := by decide +kernel
theorem dX11_tree_270 : decode cX11_tree 270 = .ok (.aload_n 0, 1) := by decide +kernel
theorem dX11_tree_271 : decode cX11_tree 271 = .ok (.invokevirtual 133, 3) := by decide +kernel
theorem dX11_tree_274 : decode cX11_tree 274 = .ok (.iconst 0, 1) := by decide +kernel
theorem dX11_tree_275 : decode cX11_tree 275 = .ok (.istore 4, 2) := by decide +kernel
theorem dX11_tree_277 : decode cX11_tree 277 = .ok (.iload 4, 2) := by decide +kernel
theorem dX11_tree_279 : decode cX11_tree 279 = .ok (.aload_n 0, 1) := by decide +kernel
theorem dX11_tree_280 : decode cX11_tree 280 = .ok (.getfield 72, 3) := by decide +kernel
theorem dX11_tree_283 : decode cX11_tree 283 = .ok (.iconst 1, 1) := by decide +kernel
theorem dX11_tree_284 : decode cX11_tree 284 = .ok (.iaload, 1) := by decide +kernel
theorem dX11_tree_285 : decode cX11_tree 285 = .ok (.if_icmp .ge 26, 3) := by decide +kernel
theorem dX11_tree_288 : decode cX11_tree 288 = .ok (.aload_n 0, 1) := by decide +kernel
theorem dX11_tree_289 : decode cX11_tree 289 = .ok (.getfield 50, 3) := by decide +kernel
theorem dX11_tree_292 : decode cX11_tree 292 = .ok (.aload_n 0, 1) := by decide +kernel
theorem dX11_tree_293 : decode cX11_tree 293 = .ok (.getfield 69, 3) := by decide +kernel
theorem dX11_tree_296 : decode cX11_tree 296 = .ok (.sipush 256, 3) := by decide +kernel
theorem dX11_tree_299 : decode cX11_tree 299 = .ok (.iload 4, 2) := by decide +kernel
theorem dX11_tree_301 : decode cX11_tree 301 = .ok (.iadd, 1) := by decide +kernel
theorem dX11_tree_302 : decode cX11_tree 302 = .ok (.iaload, 1) := by decide +kernel
theorem dX11_tree_303 : decode cX11_tree 303 = .ok (.iconst 1, 1) := by decide +kernel
theorem dX11_tree_304 : decode cX11_tree 304 = .ok (.bastore, 1) := by decide +kernel
theorem dX11_tree_305 : decode cX11_tree 305 = .ok (.iinc 4 1, 3) := by decide +kernel
theorem dX11_tree_308 : decode cX11_tree 308 = .ok (.goto (-31), 3) := by decide +kernel
theorem dX11_tree_311 : decode cX11_tree 311 = .ok (.aload_n 0, 1) := by decide +kernel
theorem dX11_tree_312 : decode cX11_tree 312 = .ok (.iconst 4, 1) := by decide +kernel
theorem dX11_tree_313 : decode cX11_tree 313 = .ok (.invokevirtual 143, 3) := by decide +kernel
theorem dX11_tree_316 : decode cX11_tree 316 = .ok (.ireturn, 1) := by decide +kernel
theorem dX11_plane_0 : decode cX11_plane 0 = .ok (.aload_n 0, 1) := by decide +kernel
theorem dX11_plane_1 : decode cX11_plane 1 = .ok (.iconst 0, 1) := by decide +kernel
theorem dX11_plane_2 : decode cX11_plane 2 = .ok (.putfield 84, 3) := by decide +kernel
theorem dX11_plane_5 : decode cX11_plane 5 = .ok (.aload_n 0, 1) := by decide +kernel
theorem dX11_plane_6 : decode cX11_plane 6 = .ok (.iload_n 1, 1) := by decide +kernel
theorem dX11_plane_7 : decode cX11_plane 7 = .ok (.iconst 2, 1) := by decide +kernel
theorem dX11_plane_8 : decode cX11_plane 8 = .ok (.iconst 3, 1) := by decide +kernel
theorem dX11_plane_9 : decode cX11_plane 9 = .ok (.invokevirtual 97, 3) := by decide +kernel
theorem dX11_plane_12 : decode cX11_plane 12 = .ok (.ifCond .ne 9, 3) := by decide +kernel
theorem dX11_plane_15 : decode cX11_plane 15 = .ok (.aload_n 0, 1) := by decide +kernel
theorem dX11_plane_16 : decode cX11_plane 16 = .ok (.iconst 2, 1) := by decide +kernel
theorem dX11_plane_17 : decode cX11_plane 17 = .ok (.invokevirtual 115, 3) := by decide +kernel
theorem dX11_plane_20 : decode cX11_plane 20 = .ok (.ireturn, 1) := by decide +kernel
theorem dX11_plane_21 : decode cX11_plane 21 = .ok (.iload_n 1, 1) := by decide +kernel
theorem dX11_plane_22 : decode cX11_plane 22 = .ok (.iconst 2, 1) := by decide +kernel
theorem dX11_plane_23 : decode cX11_plane 23 = .ok (.if_icmp .ne 8, 3) := by decide +kernel
theorem dX11_plane_26 : decode cX11_plane 26 = .ok (.bipush 7, 2) := by decide +kernel
theorem dX11_plane_28 : decode cX11_plane 28 = .ok (.goto 5, 3) := by decide +kernel
theorem dX11_plane_31 : decode cX11_plane 31 = .ok (.bipush 13, 2) := by decide +kernel
theorem dX11_plane_33 : decode cX11_plane 33 = .ok (.istore_n 3, 1) := by decide +kernel
theorem dX11_plane_34 : decode cX11_plane 34 = .ok (.aload_n 0, 1) := by decide +kernel
theorem dX11_plane_35 : decode cX11_plane 35 = .ok (.iload_n 2, 1) := by decide +kernel
theorem dX11_plane_36 : decode cX11_plane 36 = .ok (.iload_n 3, 1) := by decide +kernel
theorem dX11_plane_37 : decode cX11_plane 37 = .ok (.invokevirtual 152, 3) := by decide +kernel
theorem dX11_plane_40 : decode cX11_plane 40 = .ok (.ifCond .ne 9, 3) := by decide +kernel
theorem dX11_plane_43 : decode cX11_plane 43 = .ok (.aload_n 0, 1) := by decide +kernel
theorem dX11_plane_44 : decode cX11_plane 44 = .ok (.iconst 1, 1) := by decide +kernel
theorem dX11_plane_45 : decode cX11_plane 45 = .ok (.invokevirtual 115, 3) := by decide +kernel
theorem dX11_plane_48 : decode cX11_plane 48 = .ok (.ireturn, 1) := by decide +kernel
theorem dX11_plane_49 : decode cX11_plane 49 = .ok (.aload_n 0, 1) := by decide +kernel
theorem dX11_plane_50 : decode cX11_plane 50 = .ok (.invokevirtual 133, 3) := by decide +kernel
theorem dX11_plane_53 : decode cX11_plane 53 = .ok (.iconst 0, 1) := by decide +kernel
theorem dX11_plane_54 : decode cX11_plane 54 = .ok (.istore 4, 2) := by decide +kernel
theorem dX11_plane_56 : decode cX11_plane 56 = .ok (.iload 4, 2) := by decide +kernel
theorem dX11_plane_58 : decode cX11_plane 58 = .ok (.iload_n 3, 1) := by decide +kernel
theorem dX11_plane_59 : decode cX11_plane 59 = .ok (.if_icmp .ge 62, 3) := by decide +kernel
theorem dX11_plane_62 : decode cX11_plane 62 = .ok (.iconst 1, 1) := by decide +kernel
theorem dX11_plane_63 : decode cX11_plane 63 = .ok (.iload 4, 2) := by decide +kernel
theorem dX11_plane_65 : decode cX11_plane 65 = .ok (.ishl, 1) := by decide +kernel
theorem dX11_plane_66 : decode cX11_plane 66 = .ok (.iconst 1, 1) := by decide +kernel
theorem dX11_plane_67 : decode cX11_plane 67 = .ok (.iload 4, 2) := by decide +kernel
theorem dX11_plane_69 : decode cX11_plane 69 = .ok (.iconst 1, 1) := by decide +kernel
theorem dX11_plane_70 : decode cX11_plane 70 = .ok (.iadd, 1) := by decide +kernel
theorem dX11_plane_71 : decode cX11_plane 71 = .ok (.iload_n 3, 1) := by decide +kernel
theorem dX11_plane_72 : decode cX11_plane 72 = .ok (.irem, 1) := by decide +kernel
theorem dX11_plane_73 : decode cX11_plane 73 = .ok (.ishl, 1) := by decide +kernel
theorem dX11_plane_74 : decode cX11_plane 74 = .ok (.ior, 1) := by decide +kernel
theorem dX11_plane_75 : decode cX11_plane 75 = .ok (.iconst 1, 1) := by decide +kernel
theorem dX11_plane_76 : decode cX11_plane 76 = .ok (.iload 4, 2) := by decide +kernel
theorem dX11_plane_78 : decode cX11_plane 78 = .ok (.iconst 3, 1) := by decide +kernel
theorem dX11_plane_79 : decode cX11_plane 79 = .ok (.iadd, 1) := by decide +kernel
theorem dX11_plane_80 : decode cX11_plane 80 = .ok (.iload_n 3, 1) := by decide +kernel
theorem dX11_plane_81 : decode cX11_plane 81 = .ok (.irem, 1) := by decide +kernel
theorem dX11_plane_82 : decode cX11_plane 82 = .ok (.ishl, 1) := by decide +kernel
theorem dX11_plane_83 : decode cX11_plane 83 = .ok (.ior, 1) := by decide +kernel
theorem dX11_plane_84 : decode cX11_plane 84 = .ok (.istore 5, 2) := by decide +kernel
theorem dX11_plane_86 : decode cX11_plane 86 = .ok (.iload_n 1, 1) := by decide +kernel
theorem dX11_plane_87 : decode cX11_plane 87 = .ok (.iconst 3, 1) := by decide +kernel
theorem dX11_plane_88 : decode cX11_plane 88 = .ok (.if_icmp .ne 17, 3) := by decide +kernel
theorem dX11_plane_91 : decode cX11_plane 91 = .ok (.iload 5, 2) := by decide +kernel
theorem dX11_plane_93 : decode cX11_plane 93 = .ok (.iconst 1, 1) := by decide +kernel
theorem dX11_plane_94 : decode cX11_plane 94 = .ok (.iload 4, 2) := by decide +kernel
theorem dX11_plane_96 : decode cX11_plane 96 = .ok (.bipush 9, 2) := by decide +kernel
theorem dX11_plane_98 : decode cX11_plane 98 = .ok (.iadd, 1) := by decide +kernel
theorem dX11_plane_99 : decode cX11_plane 99 = .ok (.iload_n 3, 1) := by decide +kernel
theorem dX11_plane_100 : decode cX11_plane 100 = .ok (.irem, 1) := by decide +kernel
theorem dX11_plane_101 : decode cX11_plane 101 = .ok (.ishl, 1) := by decide +kernel
theorem dX11_plane_102 : decode cX11_plane 102 = .ok (.ior, 1) := by decide +kernel
theorem dX11_plane_103 : decode cX11_plane 103 = .ok (.istore 5, 2) := by decide +kernel
theorem dX11_plane_105 : decode cX11_plane 105 = .ok (.aload_n 0, 1) := by decide +kernel
theorem dX11_plane_106 : decode cX11_plane 106 = .ok (.getfield 50, 3) := by decide +kernel
theorem dX11_plane_109 : decode cX11_plane 109 = .ok (.iload 5, 2) := by decide +kernel
theorem dX11_plane_111 : decode cX11_plane 111 = .ok (.iload_n 2, 1) := by decide +kernel
theorem dX11_plane_112 : decode cX11_plane 112 = .ok (.ishl, 1) := by decide +kernel
theorem dX11_plane_113 : decode cX11_plane 113 = .ok (.iconst 1, 1) := by decide +kernel
theorem dX11_plane_114 : decode cX11_plane 114 = .ok (.bastore, 1) := by decide +kernel
theorem dX11_plane_115 : decode cX11_plane 115 = .ok (.iinc 4 1, 3) := by decide +kernel
theorem dX11_plane_118 : decode cX11_plane 118 = .ok (.goto (-62), 3) := by decide +kernel
theorem dX11_plane_121 : decode cX11_plane 121 = .ok (.aload_n 0, 1) := by decide +kernel
theorem dX11_plane_122 : decode cX11_plane 122 = .ok (.iconst 5, 1) := by decide +kernel
theorem dX11_plane_123 : decode cX11_plane 123 = .ok (.invokevirtual 143, 3) := by decide +kernel
theorem dX11_plane_126 : decode cX11_plane 126 = .ok (.ireturn, 1) := by decide +kernel
theorem dX11_join_0 : decode cX11_join 0 = .ok (.aload_n 0, 1) := by decide +kernel
theorem dX11_join_1 : decode cX11_join 1 = .ok (.iconst 0, 1) := by decide +kernel
theorem dX11_join_2 : decode cX11_join 2 = .ok (.putfield 84, 3) := by decide +kernel
theorem dX11_join_5 : decode cX11_join 5 = .ok (.aload_n 0, 1) := by decide +kernel
theorem dX11_join_6 : decode cX11_join 6 = .ok (.iload_n 1, 1) := by decide +kernel
theorem dX11_join_7 : decode cX11_join 7 = .ok (.invokevirtual 163, 3) := by decide +kernel
theorem dX11_join_10 : decode cX11_join 10 = .ok (.ifCond .eq 26, 3) := by decide +kernel
theorem dX11_join_13 : decode cX11_join 13 = .ok (.aload_n 0, 1) := by decide +kernel
theorem dX11_join_14 : decode cX11_join 14 = .ok (.iload_n 3, 1) := by decide +kernel
theorem dX11_join_15 : decode cX11_join 15 = .ok (.invokevirtual 163, 3) := by decide +kernel
theorem dX11_join_18 : decode cX11_join 18 = .ok (.ifCond .eq 18, 3) := by decide +kernel
theorem dX11_join_21 : decode cX11_join 21 = .ok (.aload_n 0, 1) := by decide +kernel
theorem dX11_join_22 : decode cX11_join 22 = .ok (.iload_n 2, 1) := by decide +kernel
theorem dX11_join_23 : decode cX11_join 23 = .ok (.iconst 0, 1) := by decide +kernel
theorem dX11_join_24 : decode cX11_join 24 = .ok (.aload_n 0, 1) := by decide +kernel
theorem dX11_join_25 : decode cX11_join 25 = .ok (.getfield 91, 3) := by decide +kernel
theorem dX11_join_28 : decode cX11_join 28 = .ok (.iconst 1, 1) := by decide +kernel
theorem dX11_join_29 : decode cX11_join 29 = .ok (.isub, 1) := by decide +kernel
theorem dX11_join_30 : decode cX11_join 30 = .ok (.invokevirtual 97, 3) := by decide +kernel
theorem dX11_join_33 : decode cX11_join 33 = .ok (.ifCond .ne 9, 3) := by decide +kernel
theorem dX11_join_36 : decode cX11_join 36 = .ok (.aload_n 0, 1) := by decide +kernel
theorem dX11_join_37 : decode cX11_join 37 = .ok (.iconst 1, 1) := by decide +kernel
theorem dX11_join_38 : decode cX11_join 38 = .ok (.invokevirtual 115, 3) := by decide +kernel
theorem dX11_join_41 : decode cX11_join 41 = .ok (.ireturn, 1) := by decide +kernel
theorem dX11_join_42 : decode cX11_join 42 = .ok (.aload_n 0, 1) := by decide +kernel
theorem dX11_join_43 : decode cX11_join 43 = .ok (.invokevirtual 133, 3) := by decide +kernel
theorem dX11_join_46 : decode cX11_join 46 = .ok (.iconst 1, 1) := by decide +kernel
theorem dX11_join_47 : decode cX11_join 47 = .ok (.iload_n 2, 1) := by decide +kernel
theorem dX11_join_48 : decode cX11_join 48 = .ok (.ishl, 1) := by decide +kernel
theorem dX11_join_49 : decode cX11_join 49 = .ok (.istore 4, 2) := by decide +kernel
theorem dX11_join_51 : decode cX11_join 51 = .ok (.iconst 0, 1) := by decide +kernel
theorem dX11_join_52 : decode cX11_join 52 = .ok (.istore 5, 2) := by decide +kernel
theorem dX11_join_54 : decode cX11_join 54 = .ok (.iload 5, 2) := by decide +kernel
theorem dX11_join_56 : decode cX11_join 56 = .ok (.aload_n 0, 1) := by decide +kernel
theorem dX11_join_57 : decode cX11_join 57 = .ok (.getfield 25, 3) := by decide +kernel
theorem dX11_join_60 : decode cX11_join 60 = .ok (.iload_n 1, 1) := by decide +kernel
theorem dX11_join_61 : decode cX11_join 61 = .ok (.iaload, 1) := by decide +kernel
theorem dX11_join_62 : decode cX11_join 62 = .ok (.if_icmp .ge 78, 3) := by decide +kernel
theorem dX11_join_65 : decode cX11_join 65 = .ok (.aload_n 0, 1) := by decide +kernel
theorem dX11_join_66 : decode cX11_join 66 = .ok (.iload_n 1, 1) := by decide +kernel
theorem dX11_join_67 : decode cX11_join 67 = .ok (.iload 5, 2) := by decide +kernel
theorem dX11_join_69 : decode cX11_join 69 = .ok (.invokevirtual 136, 3) := by decide +kernel
theorem dX11_join_72 : decode cX11_join 72 = .ok (.istore 6, 2) := by decide +kernel
theorem dX11_join_74 : decode cX11_join 74 = .ok (.iload 6, 2) := by decide +kernel
theorem dX11_join_76 : decode cX11_join 76 = .ok (.iload 4, 2) := by decide +kernel
theorem dX11_join_78 : decode cX11_join 78 = .ok (.iand, 1) := by decide +kernel
theorem dX11_join_79 : decode cX11_join 79 = .ok (.ifCond .ne 14, 3) := by decide +kernel
theorem dX11_join_82 : decode cX11_join 82 = .ok (.aload_n 0, 1) := by decide +kernel
theorem dX11_join_83 : decode cX11_join 83 = .ok (.getfield 50, 3) := by decide +kernel
theorem dX11_join_86 : decode cX11_join 86 = .ok (.iload 6, 2) := by decide +kernel
theorem dX11_join_88 : decode cX11_join 88 = .ok (.iconst 1, 1) := by decide +kernel
theorem dX11_join_89 : decode cX11_join 89 = .ok (.bastore, 1) := by decide +kernel
theorem dX11_join_90 : decode cX11_join 90 = .ok (.goto 44, 3) := by decide +kernel
theorem dX11_join_93 : decode cX11_join 93 = .ok (.iconst 0, 1) := by decide +kernel
theorem dX11_join_94 : decode cX11_join 94 = .ok (.istore 7, 2) := by decide +kernel
theorem dX11_join_96 : decode cX11_join 96 = .ok (.iload 7, 2) := by decide +kernel
theorem dX11_join_98 : decode cX11_join 98 = .ok (.aload_n 0, 1) := by decide +kernel
theorem dX11_join_99 : decode cX11_join 99 = .ok (.getfield 25, 3) := by decide +kernel
theorem dX11_join_102 : decode cX11_join 102 = .ok (.iload_n 3, 1) := by decide +kernel
theorem dX11_join_103 : decode cX11_join 103 = .ok (.iaload, 1) := by decide +kernel
theorem dX11_join_104 : decode cX11_join 104 = .ok (.if_icmp .ge 30, 3) := by decide +kernel
theorem dX11_join_107 : decode cX11_join 107 = .ok (.aload_n 0, 1) := by decide +kernel
theorem dX11_join_108 : decode cX11_join 108 = .ok (.getfield 50, 3) := by decide +kernel
theorem dX11_join_111 : decode cX11_join 111 = .ok (.iload 6, 2) := by decide +kernel
theorem dX11_join_113 : decode cX11_join 113 = .ok (.iload 4, 2) := by decide +kernel
theorem dX11_join_115 : decode cX11_join 115 = .ok (.iconst (-1), 1) := by decide +kernel
theorem dX11_join_116 : decode cX11_join 116 = .ok (.ixor, 1) := by decide +kernel
theorem dX11_join_117 : decode cX11_join 117 = .ok (.iand, 1) := by decide +kernel
theorem dX11_join_118 : decode cX11_join 118 = .ok (.aload_n 0, 1) := by decide +kernel
theorem dX11_join_119 : decode cX11_join 119 = .ok (.iload_n 3, 1) := by decide +kernel
theorem dX11_join_120 : decode cX11_join 120 = .ok (.iload 7, 2) := by decide +kernel
theorem dX11_join_122 : decode cX11_join 122 = .ok (.invokevirtual 136, 3) := by decide +kernel
theorem dX11_join_125 : decode cX11_join 125 = .ok (.ior, 1) := by decide +kernel
theorem dX11_join_126 : decode cX11_join 126 = .ok (.iconst 1, 1) := by decide +kernel
theorem dX11_join_127 : decode cX11_join 127 = .ok (.bastore, 1) := by decide +kernel
theorem dX11_join_128 : decode cX11_join 128 = .ok (.iinc 7 1, 3) := by decide +kernel
theorem dX11_join_131 : decode cX11_join 131 = .ok (.goto (-35), 3) := by decide +kernel
theorem dX11_join_134 : decode cX11_join 134 = .ok (.iinc 5 1, 3) := by decide +kernel
theorem dX11_join_137 : decode cX11_join 137 = .ok (.goto (-83), 3) := by decide +kernel
theorem dX11_join_140 : decode cX11_join 140 = .ok (.aload_n 0, 1) := by decide +kernel
theorem dX11_join_141 : decode cX11_join 141 = .ok (.bipush 6, 2) := by decide +kernel
theorem dX11_join_143 : decode cX11_join 143 = .ok (.invokevirtual 143, 3) := by decide +kernel
theorem dX11_join_146 : decode cX11_join 146 = .ok (.ireturn, 1) := by decide +kernel
theorem dX11_meetsAll_0 : decode cX11_meetsAll 0 = .ok (.iconst 0, 1) := by decide +kernel
theorem dX11_meetsAll_1 : decode cX11_meetsAll 1 = .ok (.istore_n 3, 1) := by decide +kernel
theorem dX11_meetsAll_2 : decode cX11_meetsAll 2 = .ok (.iload_n 3, 1) := by decide +kernel
theorem dX11_meetsAll_3 : decode cX11_meetsAll 3 = .ok (.aload_n 0, 1) := by decide +kernel
theorem dX11_meetsAll_4 : decode cX11_meetsAll 4 = .ok (.getfield 25, 3) := by decide +kernel
theorem dX11_meetsAll_7 : decode cX11_meetsAll 7 = .ok (.iload_n 2, 1) := by decide +kernel
theorem dX11_meetsAll_8 : decode cX11_meetsAll 8 = .ok (.iaload, 1) := by decide +kernel
theorem dX11_meetsAll_9 : decode cX11_meetsAll 9 = .ok (.if_icmp .ge 22, 3) := by decide +kernel
theorem dX11_meetsAll_12 : decode cX11_meetsAll 12 = .ok (.iload_n 1, 1) := by decide +kernel
theorem dX11_meetsAll_13 : decode cX11_meetsAll 13 = .ok (.aload_n 0, 1) := by decide +kernel
theorem dX11_meetsAll_14 : decode cX11_meetsAll 14 = .ok (.iload_n 2, 1) := by decide +kernel
theorem dX11_meetsAll_15 : decode cX11_meetsAll 15 = .ok (.iload_n 3, 1) := by decide +kernel
theorem dX11_meetsAll_16 : decode cX11_meetsAll 16 = .ok (.invokevirtual 136, 3) := by decide +kernel
theorem dX11_meetsAll_19 : decode cX11_meetsAll 19 = .ok (.iand, 1) := by decide +kernel
theorem dX11_meetsAll_20 : decode cX11_meetsAll 20 = .ok (.ifCond .ne 5, 3) := by decide +kernel
theorem dX11_meetsAll_23 : decode cX11_meetsAll 23 = .ok (.iconst 0, 1) := by decide +kernel
theorem dX11_meetsAll_24 : decode cX11_meetsAll 24 = .ok (.ireturn, 1) := by decide +kernel
theorem dX11_meetsAll_25 : decode cX11_meetsAll 25 = .ok (.iinc 3 1, 3) := by decide +kernel
theorem dX11_meetsAll_28 : decode cX11_meetsAll 28 = .ok (.goto (-26), 3) := by decide +kernel
theorem dX11_meetsAll_31 : decode cX11_meetsAll 31 = .ok (.iconst 1, 1) := by decide +kernel
theorem dX11_meetsAll_32 : decode cX11_meetsAll 32 = .ok (.ireturn, 1) := by decide +kernel
theorem dX11_allOf_0 : decode cX11_allOf 0 = .ok (.iconst 0, 1) := by decide +kernel
theorem dX11_allOf_1 : decode cX11_allOf 1 = .ok (.istore_n 2, 1) := by decide +kernel
theorem dX11_allOf_2 : decode cX11_allOf 2 = .ok (.iconst 0, 1) := by decide +kernel
theorem dX11_allOf_3 : decode cX11_allOf 3 = .ok (.istore_n 3, 1) := by decide +kernel
theorem dX11_allOf_4 : decode cX11_allOf 4 = .ok (.iload_n 3, 1) := by decide +kernel
theorem dX11_allOf_5 : decode cX11_allOf 5 = .ok (.aload_n 0, 1) := by decide +kernel
theorem dX11_allOf_6 : decode cX11_allOf 6 = .ok (.getfield 25, 3) := by decide +kernel
theorem dX11_allOf_9 : decode cX11_allOf 9 = .ok (.iload_n 1, 1) := by decide +kernel
theorem dX11_allOf_10 : decode cX11_allOf 10 = .ok (.iaload, 1) := by decide +kernel
theorem dX11_allOf_11 : decode cX11_allOf 11 = .ok (.if_icmp .ge 18, 3) := by decide +kernel
theorem dX11_allOf_14 : decode cX11_allOf 14 = .ok (.iload_n 2, 1) := by decide +kernel
theorem dX11_allOf_15 : decode cX11_allOf 15 = .ok (.aload_n 0, 1) := by decide +kernel
theorem dX11_allOf_16 : decode cX11_allOf 16 = .ok (.iload_n 1, 1) := by decide +kernel
theorem dX11_allOf_17 : decode cX11_allOf 17 = .ok (.iload_n 3, 1) := by decide +kernel
theorem dX11_allOf_18 : decode cX11_allOf 18 = .ok (.invokevirtual 136, 3) := by decide +kernel
theorem dX11_allOf_21 : decode cX11_allOf 21 = .ok (.ior, 1) := by decide +kernel
theorem dX11_allOf_22 : decode cX11_allOf 22 = .ok (.istore_n 2, 1) := by decide +kernel
theorem dX11_allOf_23 : decode cX11_allOf 23 = .ok (.iinc 3 1, 3) := by decide +kernel
theorem dX11_allOf_26 : decode cX11_allOf 26 = .ok (.goto (-22), 3) := by decide +kernel
theorem dX11_allOf_29 : decode cX11_allOf 29 = .ok (.iload_n 2, 1) := by decide +kernel
theorem dX11_allOf_30 : decode cX11_allOf 30 = .ok (.ireturn, 1) := by decide +kernel
theorem dX11_dual_0 : decode cX11_dual 0 = .ok (.aload_n 0, 1) := by decide +kernel
theorem dX11_dual_1 : decode cX11_dual 1 = .ok (.iconst 0, 1) := by decide +kernel
theorem dX11_dual_2 : decode cX11_dual 2 = .ok (.putfield 84, 3) := by decide +kernel
theorem dX11_dual_5 : decode cX11_dual 5 = .ok (.aload_n 0, 1) := by decide +kernel
theorem dX11_dual_6 : decode cX11_dual 6 = .ok (.iload_n 1, 1) := by decide +kernel
theorem dX11_dual_7 : decode cX11_dual 7 = .ok (.invokevirtual 163, 3) := by decide +kernel
theorem dX11_dual_10 : decode cX11_dual 10 = .ok (.ifCond .ne 9, 3) := by decide +kernel
theorem dX11_dual_13 : decode cX11_dual 13 = .ok (.aload_n 0, 1) := by decide +kernel
theorem dX11_dual_14 : decode cX11_dual 14 = .ok (.iconst 1, 1) := by decide +kernel
theorem dX11_dual_15 : decode cX11_dual 15 = .ok (.invokevirtual 115, 3) := by decide +kernel
theorem dX11_dual_18 : decode cX11_dual 18 = .ok (.ireturn, 1) := by decide +kernel
theorem dX11_dual_19 : decode cX11_dual 19 = .ok (.aload_n 0, 1) := by decide +kernel
theorem dX11_dual_20 : decode cX11_dual 20 = .ok (.invokevirtual 133, 3) := by decide +kernel
theorem dX11_dual_23 : decode cX11_dual 23 = .ok (.aload_n 0, 1) := by decide +kernel
theorem dX11_dual_24 : decode cX11_dual 24 = .ok (.iload_n 1, 1) := by decide +kernel
theorem dX11_dual_25 : decode cX11_dual 25 = .ok (.invokevirtual 166, 3) := by decide +kernel
theorem dX11_dual_28 : decode cX11_dual 28 = .ok (.istore_n 2, 1) := by decide +kernel
theorem dX11_dual_29 : decode cX11_dual 29 = .ok (.iload_n 2, 1) := by decide +kernel
theorem dX11_dual_30 : decode cX11_dual 30 = .ok (.istore_n 3, 1) := by decide +kernel
theorem dX11_dual_31 : decode cX11_dual 31 = .ok (.iload_n 3, 1) := by decide +kernel
theorem dX11_dual_32 : decode cX11_dual 32 = .ok (.ifCond .le 24, 3) := by decide +kernel
theorem dX11_dual_35 : decode cX11_dual 35 = .ok (.aload_n 0, 1) := by decide +kernel
theorem dX11_dual_36 : decode cX11_dual 36 = .ok (.getfield 50, 3) := by decide +kernel
theorem dX11_dual_39 : decode cX11_dual 39 = .ok (.iload_n 3, 1) := by decide +kernel
theorem dX11_dual_40 : decode cX11_dual 40 = .ok (.aload_n 0, 1) := by decide +kernel
theorem dX11_dual_41 : decode cX11_dual 41 = .ok (.iload_n 3, 1) := by decide +kernel
theorem dX11_dual_42 : decode cX11_dual 42 = .ok (.iload_n 1, 1) := by decide +kernel
theorem dX11_dual_43 : decode cX11_dual 43 = .ok (.invokevirtual 169, 3) := by decide +kernel
theorem dX11_dual_46 : decode cX11_dual 46 = .ok (.bastore, 1) := by decide +kernel
theorem dX11_dual_47 : decode cX11_dual 47 = .ok (.iload_n 3, 1) := by decide +kernel
theorem dX11_dual_48 : decode cX11_dual 48 = .ok (.iconst 1, 1) := by decide +kernel
theorem dX11_dual_49 : decode cX11_dual 49 = .ok (.isub, 1) := by decide +kernel
theorem dX11_dual_50 : decode cX11_dual 50 = .ok (.iload_n 2, 1) := by decide +kernel
theorem dX11_dual_51 : decode cX11_dual 51 = .ok (.iand, 1) := by decide +kernel
theorem dX11_dual_52 : decode cX11_dual 52 = .ok (.istore_n 3, 1) := by decide +kernel
theorem dX11_dual_53 : decode cX11_dual 53 = .ok (.goto (-22), 3) := by decide +kernel
theorem dX11_dual_56 : decode cX11_dual 56 = .ok (.aload_n 0, 1) := by decide +kernel
theorem dX11_dual_57 : decode cX11_dual 57 = .ok (.bipush 7, 2) := by decide +kernel
theorem dX11_dual_59 : decode cX11_dual 59 = .ok (.invokevirtual 143, 3) := by decide +kernel
theorem dX11_dual_62 : decode cX11_dual 62 = .ok (.ireturn, 1) := by decide +kernel
theorem dX11_thin_0 : decode cX11_thin 0 = .ok (.aload_n 0, 1) := by decide +kernel
theorem dX11_thin_1 : decode cX11_thin 1 = .ok (.iconst 0, 1) := by decide +kernel
theorem dX11_thin_2 : decode cX11_thin 2 = .ok (.putfield 84, 3) := by decide +kernel
theorem dX11_thin_5 : decode cX11_thin 5 = .ok (.aload_n 0, 1) := by decide +kernel
theorem dX11_thin_6 : decode cX11_thin 6 = .ok (.iload_n 1, 1) := by decide +kernel
theorem dX11_thin_7 : decode cX11_thin 7 = .ok (.invokevirtual 163, 3) := by decide +kernel
theorem dX11_thin_10 : decode cX11_thin 10 = .ok (.ifCond .ne 9, 3) := by decide +kernel
theorem dX11_thin_13 : decode cX11_thin 13 = .ok (.aload_n 0, 1) := by decide +kernel
theorem dX11_thin_14 : decode cX11_thin 14 = .ok (.iconst 1, 1) := by decide +kernel
theorem dX11_thin_15 : decode cX11_thin 15 = .ok (.invokevirtual 115, 3) := by decide +kernel
theorem dX11_thin_18 : decode cX11_thin 18 = .ok (.ireturn, 1) := by decide +kernel
theorem dX11_thin_19 : decode cX11_thin 19 = .ok (.aload_n 0, 1) := by decide +kernel
theorem dX11_thin_20 : decode cX11_thin 20 = .ok (.getfield 94, 3) := by decide +kernel
theorem dX11_thin_23 : decode cX11_thin 23 = .ok (.bipush 24, 2) := by decide +kernel
theorem dX11_thin_25 : decode cX11_thin 25 = .ok (.if_icmp .ne 9, 3) := by decide +kernel
theorem dX11_thin_28 : decode cX11_thin 28 = .ok (.aload_n 0, 1) := by decide +kernel
theorem dX11_thin_29 : decode cX11_thin 29 = .ok (.iconst 4, 1) := by decide +kernel
theorem dX11_thin_30 : decode cX11_thin 30 = .ok (.invokevirtual 115, 3) := by decide +kernel
theorem dX11_thin_33 : decode cX11_thin 33 = .ok (.ireturn, 1) := by decide +kernel
theorem dX11_thin_34 : decode cX11_thin 34 = .ok (.aload_n 0, 1) := by decide +kernel
theorem dX11_thin_35 : decode cX11_thin 35 = .ok (.invokevirtual 133, 3) := by decide +kernel
theorem dX11_thin_38 : decode cX11_thin 38 = .ok (.iconst 0, 1) := by decide +kernel
theorem dX11_thin_39 : decode cX11_thin 39 = .ok (.istore_n 3, 1) := by decide +kernel
theorem dX11_thin_40 : decode cX11_thin 40 = .ok (.iconst 0, 1) := by decide +kernel
theorem dX11_thin_41 : decode cX11_thin 41 = .ok (.istore 4, 2) := by decide +kernel
theorem dX11_thin_43 : decode cX11_thin 43 = .ok (.iload 4, 2) := by decide +kernel
theorem dX11_thin_45 : decode cX11_thin 45 = .ok (.aload_n 0, 1) := by decide +kernel
theorem dX11_thin_46 : decode cX11_thin 46 = .ok (.getfield 25, 3) := by decide +kernel
theorem dX11_thin_49 : decode cX11_thin 49 = .ok (.iload_n 1, 1) := by decide +kernel
theorem dX11_thin_50 : decode cX11_thin 50 = .ok (.iaload, 1) := by decide +kernel
theorem dX11_thin_51 : decode cX11_thin 51 = .ok (.if_icmp .ge 41, 3) := by decide +kernel
theorem dX11_thin_54 : decode cX11_thin 54 = .ok (.aload_n 0, 1) := by decide +kernel
theorem dX11_thin_55 : decode cX11_thin 55 = .ok (.iload_n 1, 1) := by decide +kernel
theorem dX11_thin_56 : decode cX11_thin 56 = .ok (.iload 4, 2) := by decide +kernel
theorem dX11_thin_58 : decode cX11_thin 58 = .ok (.invokevirtual 136, 3) := by decide +kernel
theorem dX11_thin_61 : decode cX11_thin 61 = .ok (.iload_n 2, 1) := by decide +kernel
theorem dX11_thin_62 : decode cX11_thin 62 = .ok (.iconst (-1), 1) := by decide +kernel
theorem dX11_thin_63 : decode cX11_thin 63 = .ok (.ixor, 1) := by decide +kernel
theorem dX11_thin_64 : decode cX11_thin 64 = .ok (.iand, 1) := by decide +kernel
theorem dX11_thin_65 : decode cX11_thin 65 = .ok (.ifCond .eq 6, 3) := by decide +kernel
theorem dX11_thin_68 : decode cX11_thin 68 = .ok (.goto 18, 3) := by decide +kernel
theorem dX11_thin_71 : decode cX11_thin 71 = .ok (.aload_n 0, 1) := by decide +kernel
theorem dX11_thin_72 : decode cX11_thin 72 = .ok (.getfield 50, 3) := by decide +kernel
theorem dX11_thin_75 : decode cX11_thin 75 = .ok (.aload_n 0, 1) := by decide +kernel
theorem dX11_thin_76 : decode cX11_thin 76 = .ok (.iload_n 1, 1) := by decide +kernel
theorem dX11_thin_77 : decode cX11_thin 77 = .ok (.iload 4, 2) := by decide +kernel
theorem dX11_thin_79 : decode cX11_thin 79 = .ok (.invokevirtual 136, 3) := by decide +kernel
theorem dX11_thin_82 : decode cX11_thin 82 = .ok (.iconst 1, 1) := by decide +kernel
theorem dX11_thin_83 : decode cX11_thin 83 = .ok (.bastore, 1) := by decide +kernel
theorem dX11_thin_84 : decode cX11_thin 84 = .ok (.iconst 1, 1) := by decide +kernel
theorem dX11_thin_85 : decode cX11_thin 85 = .ok (.istore_n 3, 1) := by decide +kernel
theorem dX11_thin_86 : decode cX11_thin 86 = .ok (.iinc 4 1, 3) := by decide +kernel
theorem dX11_thin_89 : decode cX11_thin 89 = .ok (.goto (-46), 3) := by decide +kernel
theorem dX11_thin_92 : decode cX11_thin 92 = .ok (.iload_n 3, 1) := by decide +kernel
theorem dX11_thin_93 : decode cX11_thin 93 = .ok (.ifCond .eq 12, 3) := by decide +kernel
theorem dX11_thin_96 : decode cX11_thin 96 = .ok (.aload_n 0, 1) := by decide +kernel
theorem dX11_thin_97 : decode cX11_thin 97 = .ok (.bipush 8, 2) := by decide +kernel
theorem dX11_thin_99 : decode cX11_thin 99 = .ok (.invokevirtual 143, 3) := by decide +kernel
theorem dX11_thin_102 : decode cX11_thin 102 = .ok (.goto 8, 3) := by decide +kernel
theorem dX11_thin_105 : decode cX11_thin 105 = .ok (.aload_n 0, 1) := by decide +kernel
theorem dX11_thin_106 : decode cX11_thin 106 = .ok (.iconst 5, 1) := by decide +kernel
theorem dX11_thin_107 : decode cX11_thin 107 = .ok (.invokevirtual 115, 3) := by decide +kernel
theorem dX11_thin_110 : decode cX11_thin 110 = .ok (.ireturn, 1) := by decide +kernel
theorem dX11_both_0 : decode cX11_both 0 = .ok (.aload_n 0, 1) := by decide +kernel
theorem dX11_both_1 : decode cX11_both 1 = .ok (.iconst 0, 1) := by decide +kernel
theorem dX11_both_2 : decode cX11_both 2 = .ok (.putfield 84, 3) := by decide +kernel
theorem dX11_both_5 : decode cX11_both 5 = .ok (.aload_n 0, 1) := by decide +kernel
theorem dX11_both_6 : decode cX11_both 6 = .ok (.iload_n 1, 1) := by decide +kernel
theorem dX11_both_7 : decode cX11_both 7 = .ok (.invokevirtual 163, 3) := by decide +kernel
theorem dX11_both_10 : decode cX11_both 10 = .ok (.ifCond .eq 11, 3) := by decide +kernel
theorem dX11_both_13 : decode cX11_both 13 = .ok (.aload_n 0, 1) := by decide +kernel
theorem dX11_both_14 : decode cX11_both 14 = .ok (.iload_n 2, 1) := by decide +kernel
theorem dX11_both_15 : decode cX11_both 15 = .ok (.invokevirtual 163, 3) := by decide +kernel
theorem dX11_both_18 : decode cX11_both 18 = .ok (.ifCond .ne 9, 3) := by decide +kernel
theorem dX11_both_21 : decode cX11_both 21 = .ok (.aload_n 0, 1) := by decide +kernel
theorem dX11_both_22 : decode cX11_both 22 = .ok (.iconst 1, 1) := by decide +kernel
theorem dX11_both_23 : decode cX11_both 23 = .ok (.invokevirtual 115, 3) := by decide +kernel
theorem dX11_both_26 : decode cX11_both 26 = .ok (.ireturn, 1) := by decide +kernel
theorem dX11_both_27 : decode cX11_both 27 = .ok (.aload_n 0, 1) := by decide +kernel
theorem dX11_both_28 : decode cX11_both 28 = .ok (.invokevirtual 133, 3) := by decide +kernel
theorem dX11_both_31 : decode cX11_both 31 = .ok (.iconst 0, 1) := by decide +kernel
theorem dX11_both_32 : decode cX11_both 32 = .ok (.istore_n 3, 1) := by decide +kernel
theorem dX11_both_33 : decode cX11_both 33 = .ok (.iload_n 3, 1) := by decide +kernel
theorem dX11_both_34 : decode cX11_both 34 = .ok (.aload_n 0, 1) := by decide +kernel
theorem dX11_both_35 : decode cX11_both 35 = .ok (.getfield 25, 3) := by decide +kernel
theorem dX11_both_38 : decode cX11_both 38 = .ok (.iload_n 1, 1) := by decide +kernel
theorem dX11_both_39 : decode cX11_both 39 = .ok (.iaload, 1) := by decide +kernel
theorem dX11_both_40 : decode cX11_both 40 = .ok (.if_icmp .ge 49, 3) := by decide +kernel
theorem dX11_both_43 : decode cX11_both 43 = .ok (.iconst 0, 1) := by decide +kernel
theorem dX11_both_44 : decode cX11_both 44 = .ok (.istore 4, 2) := by decide +kernel
theorem dX11_both_46 : decode cX11_both 46 = .ok (.iload 4, 2) := by decide +kernel
theorem dX11_both_48 : decode cX11_both 48 = .ok (.aload_n 0, 1) := by decide +kernel
theorem dX11_both_49 : decode cX11_both 49 = .ok (.getfield 25, 3) := by decide +kernel
theorem dX11_both_52 : decode cX11_both 52 = .ok (.iload_n 2, 1) := by decide +kernel
theorem dX11_both_53 : decode cX11_both 53 = .ok (.iaload, 1) := by decide +kernel
theorem dX11_both_54 : decode cX11_both 54 = .ok (.if_icmp .ge 29, 3) := by decide +kernel
theorem dX11_both_57 : decode cX11_both 57 = .ok (.aload_n 0, 1) := by decide +kernel
theorem dX11_both_58 : decode cX11_both 58 = .ok (.getfield 50, 3) := by decide +kernel
theorem dX11_both_61 : decode cX11_both 61 = .ok (.aload_n 0, 1) := by decide +kernel
theorem dX11_both_62 : decode cX11_both 62 = .ok (.iload_n 1, 1) := by decide +kernel
theorem dX11_both_63 : decode cX11_both 63 = .ok (.iload_n 3, 1) := by decide +kernel
theorem dX11_both_64 : decode cX11_both 64 = .ok (.invokevirtual 136, 3) := by decide +kernel
theorem dX11_both_67 : decode cX11_both 67 = .ok (.aload_n 0, 1) := by decide +kernel
theorem dX11_both_68 : decode cX11_both 68 = .ok (.iload_n 2, 1) := by decide +kernel
theorem dX11_both_69 : decode cX11_both 69 = .ok (.iload 4, 2) := by decide +kernel
theorem dX11_both_71 : decode cX11_both 71 = .ok (.invokevirtual 136, 3) := by decide +kernel
theorem dX11_both_74 : decode cX11_both 74 = .ok (.ior, 1) := by decide +kernel
theorem dX11_both_75 : decode cX11_both 75 = .ok (.iconst 1, 1) := by decide +kernel
theorem dX11_both_76 : decode cX11_both 76 = .ok (.bastore, 1) := by decide +kernel
theorem dX11_both_77 : decode cX11_both 77 = .ok (.iinc 4 1, 3) := by decide +kernel
theorem dX11_both_80 : decode cX11_both 80 = .ok (.goto (-34), 3) := by decide +kernel
theorem dX11_both_83 : decode cX11_both 83 = .ok (.iinc 3 1, 3) := by decide +kernel
theorem dX11_both_86 : decode cX11_both 86 = .ok (.goto (-53), 3) := by decide +kernel
theorem dX11_both_89 : decode cX11_both 89 = .ok (.aload_n 0, 1) := by decide +kernel
theorem dX11_both_90 : decode cX11_both 90 = .ok (.bipush 9, 2) := by decide +kernel
theorem dX11_both_92 : decode cX11_both 92 = .ok (.invokevirtual 143, 3) := by decide +kernel
theorem dX11_both_95 : decode cX11_both 95 = .ok (.ireturn, 1) := by decide +kernel
theorem dX11_apartOf_0 : decode cX11_apartOf 0 = .ok (.iconst 0, 1) := by decide +kernel
theorem dX11_apartOf_1 : decode cX11_apartOf 1 = .ok (.istore_n 3, 1) := by decide +kernel
theorem dX11_apartOf_2 : decode cX11_apartOf 2 = .ok (.iload_n 3, 1) := by decide +kernel
theorem dX11_apartOf_3 : decode cX11_apartOf 3 = .ok (.aload_n 0, 1) := by decide +kernel
theorem dX11_apartOf_4 : decode cX11_apartOf 4 = .ok (.getfield 25, 3) := by decide +kernel
theorem dX11_apartOf_7 : decode cX11_apartOf 7 = .ok (.iload_n 1, 1) := by decide +kernel
theorem dX11_apartOf_8 : decode cX11_apartOf 8 = .ok (.iaload, 1) := by decide +kernel
theorem dX11_apartOf_9 : decode cX11_apartOf 9 = .ok (.if_icmp .ge 66, 3) := by decide +kernel
theorem dX11_apartOf_12 : decode cX11_apartOf 12 = .ok (.iload_n 1, 1) := by decide +kernel
theorem dX11_apartOf_13 : decode cX11_apartOf 13 = .ok (.iload_n 2, 1) := by decide +kernel
theorem dX11_apartOf_14 : decode cX11_apartOf 14 = .ok (.if_icmp .ne 9, 3) := by decide +kernel
theorem dX11_apartOf_17 : decode cX11_apartOf 17 = .ok (.iload_n 3, 1) := by decide +kernel
theorem dX11_apartOf_18 : decode cX11_apartOf 18 = .ok (.iconst 1, 1) := by decide +kernel
theorem dX11_apartOf_19 : decode cX11_apartOf 19 = .ok (.iadd, 1) := by decide +kernel
theorem dX11_apartOf_20 : decode cX11_apartOf 20 = .ok (.goto 4, 3) := by decide +kernel
theorem dX11_apartOf_23 : decode cX11_apartOf 23 = .ok (.iconst 0, 1) := by decide +kernel
theorem dX11_apartOf_24 : decode cX11_apartOf 24 = .ok (.istore 4, 2) := by decide +kernel
theorem dX11_apartOf_26 : decode cX11_apartOf 26 = .ok (.iload 4, 2) := by decide +kernel
theorem dX11_apartOf_28 : decode cX11_apartOf 28 = .ok (.aload_n 0, 1) := by decide +kernel
theorem dX11_apartOf_29 : decode cX11_apartOf 29 = .ok (.getfield 25, 3) := by decide +kernel
theorem dX11_apartOf_32 : decode cX11_apartOf 32 = .ok (.iload_n 2, 1) := by decide +kernel
theorem dX11_apartOf_33 : decode cX11_apartOf 33 = .ok (.iaload, 1) := by decide +kernel
theorem dX11_apartOf_34 : decode cX11_apartOf 34 = .ok (.if_icmp .ge 35, 3) := by decide +kernel
theorem dX11_apartOf_37 : decode cX11_apartOf 37 = .ok (.aload_n 0, 1) := by decide +kernel
theorem dX11_apartOf_38 : decode cX11_apartOf 38 = .ok (.iload_n 1, 1) := by decide +kernel
theorem dX11_apartOf_39 : decode cX11_apartOf 39 = .ok (.iload_n 3, 1) := by decide +kernel
theorem dX11_apartOf_40 : decode cX11_apartOf 40 = .ok (.invokevirtual 136, 3) := by decide +kernel
theorem dX11_apartOf_43 : decode cX11_apartOf 43 = .ok (.aload_n 0, 1) := by decide +kernel
theorem dX11_apartOf_44 : decode cX11_apartOf 44 = .ok (.iload_n 2, 1) := by decide +kernel
theorem dX11_apartOf_45 : decode cX11_apartOf 45 = .ok (.iload 4, 2) := by decide +kernel
theorem dX11_apartOf_47 : decode cX11_apartOf 47 = .ok (.invokevirtual 136, 3) := by decide +kernel
theorem dX11_apartOf_50 : decode cX11_apartOf 50 = .ok (.iand, 1) := by decide +kernel
theorem dX11_apartOf_51 : decode cX11_apartOf 51 = .ok (.ifCond .ne 12, 3) := by decide +kernel
theorem dX11_apartOf_54 : decode cX11_apartOf 54 = .ok (.sipush 1000, 3) := by decide +kernel
theorem dX11_apartOf_57 : decode cX11_apartOf 57 = .ok (.iload_n 3, 1) := by decide +kernel
theorem dX11_apartOf_58 : decode cX11_apartOf 58 = .ok (.imul, 1) := by decide +kernel
theorem dX11_apartOf_59 : decode cX11_apartOf 59 = .ok (.iload 4, 2) := by decide +kernel
theorem dX11_apartOf_61 : decode cX11_apartOf 61 = .ok (.iadd, 1) := by decide +kernel
theorem dX11_apartOf_62 : decode cX11_apartOf 62 = .ok (.ireturn, 1) := by decide +kernel
theorem dX11_apartOf_63 : decode cX11_apartOf 63 = .ok (.iinc 4 1, 3) := by decide +kernel
theorem dX11_apartOf_66 : decode cX11_apartOf 66 = .ok (.goto (-40), 3) := by decide +kernel
theorem dX11_apartOf_69 : decode cX11_apartOf 69 = .ok (.iinc 3 1, 3) := by decide +kernel
theorem dX11_apartOf_72 : decode cX11_apartOf 72 = .ok (.goto (-70), 3) := by decide +kernel
theorem dX11_apartOf_75 : decode cX11_apartOf 75 = .ok (.bipush (-2), 2) := by decide +kernel
theorem dX11_apartOf_77 : decode cX11_apartOf 77 = .ok (.ireturn, 1) := by decide +kernel
theorem dX11_better_0 : decode cX11_better 0 = .ok (.aload_n 0, 1) := by decide +kernel
theorem dX11_better_1 : decode cX11_better 1 = .ok (.iconst 0, 1) := by decide +kernel
theorem dX11_better_2 : decode cX11_better 2 = .ok (.putfield 84, 3) := by decide +kernel
theorem dX11_better_5 : decode cX11_better 5 = .ok (.aload_n 0, 1) := by decide +kernel
theorem dX11_better_6 : decode cX11_better 6 = .ok (.iload_n 1, 1) := by decide +kernel
theorem dX11_better_7 : decode cX11_better 7 = .ok (.invokevirtual 163, 3) := by decide +kernel
theorem dX11_better_10 : decode cX11_better 10 = .ok (.ifCond .ne 9, 3) := by decide +kernel
theorem dX11_better_13 : decode cX11_better 13 = .ok (.aload_n 0, 1) := by decide +kernel
theorem dX11_better_14 : decode cX11_better 14 = .ok (.iconst 1, 1) := by decide +kernel
theorem dX11_better_15 : decode cX11_better 15 = .ok (.invokevirtual 115, 3) := by decide +kernel
theorem dX11_better_18 : decode cX11_better 18 = .ok (.ireturn, 1) := by decide +kernel
theorem dX11_better_19 : decode cX11_better 19 = .ok (.aload_n 0, 1) := by decide +kernel
theorem dX11_better_20 : decode cX11_better 20 = .ok (.iload_n 1, 1) := by decide +kernel
theorem dX11_better_21 : decode cX11_better 21 = .ok (.iload_n 1, 1) := by decide +kernel
theorem dX11_better_22 : decode cX11_better 22 = .ok (.invokevirtual 172, 3) := by decide +kernel
theorem dX11_better_25 : decode cX11_better 25 = .ok (.bipush (-2), 2) := by decide +kernel
theorem dX11_better_27 : decode cX11_better 27 = .ok (.if_icmp .eq 10, 3) := by decide +kernel
theorem dX11_better_30 : decode cX11_better 30 = .ok (.aload_n 0, 1) := by decide +kernel
theorem dX11_better_31 : decode cX11_better 31 = .ok (.bipush 7, 2) := by decide +kernel
theorem dX11_better_33 : decode cX11_better 33 = .ok (.invokevirtual 115, 3) := by decide +kernel
theorem dX11_better_36 : decode cX11_better 36 = .ok (.ireturn, 1) := by decide +kernel
theorem dX11_better_37 : decode cX11_better 37 = .ok (.aload_n 0, 1) := by decide +kernel
theorem dX11_better_38 : decode cX11_better 38 = .ok (.getfield 94, 3) := by decide +kernel
theorem dX11_better_41 : decode cX11_better 41 = .ok (.bipush 24, 2) := by decide +kernel
theorem dX11_better_43 : decode cX11_better 43 = .ok (.if_icmp .ne 9, 3) := by decide +kernel
theorem dX11_better_46 : decode cX11_better 46 = .ok (.aload_n 0, 1) := by decide +kernel
theorem dX11_better_47 : decode cX11_better 47 = .ok (.iconst 4, 1) := by decide +kernel
theorem dX11_better_48 : decode cX11_better 48 = .ok (.invokevirtual 115, 3) := by decide +kernel
theorem dX11_better_51 : decode cX11_better 51 = .ok (.ireturn, 1) := by decide +kernel
theorem dX11_better_52 : decode cX11_better 52 = .ok (.aload_n 0, 1) := by decide +kernel
theorem dX11_better_53 : decode cX11_better 53 = .ok (.iload_n 1, 1) := by decide +kernel
theorem dX11_better_54 : decode cX11_better 54 = .ok (.invokevirtual 175, 3) := by decide +kernel
theorem dX11_better_57 : decode cX11_better 57 = .ok (.aload_n 0, 1) := by decide +kernel
theorem dX11_better_58 : decode cX11_better 58 = .ok (.invokevirtual 129, 3) := by decide +kernel
theorem dX11_better_61 : decode cX11_better 61 = .ok (.istore_n 2, 1) := by decide +kernel
theorem dX11_better_62 : decode cX11_better 62 = .ok (.iconst 0, 1) := by decide +kernel
theorem dX11_better_63 : decode cX11_better 63 = .ok (.istore_n 3, 1) := by decide +kernel
theorem dX11_better_64 : decode cX11_better 64 = .ok (.iload_n 3, 1) := by decide +kernel
theorem dX11_better_65 : decode cX11_better 65 = .ok (.ldc 49, 2) := by decide +kernel
theorem dX11_better_67 : decode cX11_better 67 = .ok (.if_icmp .ge 28, 3) := by decide +kernel
theorem dX11_better_70 : decode cX11_better 70 = .ok (.aload_n 0, 1) := by decide +kernel
theorem dX11_better_71 : decode cX11_better 71 = .ok (.getfield 75, 3) := by decide +kernel
theorem dX11_better_74 : decode cX11_better 74 = .ok (.iload_n 3, 1) := by decide +kernel
theorem dX11_better_75 : decode cX11_better 75 = .ok (.aload_n 0, 1) := by decide +kernel
theorem dX11_better_76 : decode cX11_better 76 = .ok (.getfield 54, 3) := by decide +kernel
theorem dX11_better_79 : decode cX11_better 79 = .ok (.iload_n 3, 1) := by decide +kernel
theorem dX11_better_80 : decode cX11_better 80 = .ok (.baload, 1) := by decide +kernel
theorem dX11_better_81 : decode cX11_better 81 = .ok (.bastore, 1) := by decide +kernel
theorem dX11_better_82 : decode cX11_better 82 = .ok (.aload_n 0, 1) := by decide +kernel
theorem dX11_better_83 : decode cX11_better 83 = .ok (.getfield 78, 3) := by decide +kernel
theorem dX11_better_86 : decode cX11_better 86 = .ok (.iload_n 3, 1) := by decide +kernel
theorem dX11_better_87 : decode cX11_better 87 = .ok (.iconst 0, 1) := by decide +kernel
theorem dX11_better_88 : decode cX11_better 88 = .ok (.bastore, 1) := by decide +kernel
theorem dX11_better_89 : decode cX11_better 89 = .ok (.iinc 3 1, 3) := by decide +kernel
theorem dX11_better_92 : decode cX11_better 92 = .ok (.goto (-28), 3) := by decide +kernel
theorem dX11_better_95 : decode cX11_better 95 = .ok (.aload_n 0, 1) := by decide +kernel
theorem dX11_better_96 : decode cX11_better 96 = .ok (.iload_n 1, 1) := by decide +kernel
theorem dX11_better_97 : decode cX11_better 97 = .ok (.invokevirtual 166, 3) := by decide +kernel
theorem dX11_better_100 : decode cX11_better 100 = .ok (.istore_n 3, 1) := by decide +kernel
theorem dX11_better_101 : decode cX11_better 101 = .ok (.iconst 0, 1) := by decide +kernel
theorem dX11_better_102 : decode cX11_better 102 = .ok (.iload_n 3, 1) := by decide +kernel
theorem dX11_better_103 : decode cX11_better 103 = .ok (.isub, 1) := by decide +kernel
theorem dX11_better_104 : decode cX11_better 104 = .ok (.iload_n 3, 1) := by decide +kernel
theorem dX11_better_105 : decode cX11_better 105 = .ok (.iand, 1) := by decide +kernel
theorem dX11_better_106 : decode cX11_better 106 = .ok (.istore 4, 2) := by decide +kernel
theorem dX11_better_108 : decode cX11_better 108 = .ok (.iload 4, 2) := by decide +kernel
theorem dX11_better_110 : decode cX11_better 110 = .ok (.ifCond .eq 97, 3) := by decide +kernel
theorem dX11_better_113 : decode cX11_better 113 = .ok (.aload_n 0, 1) := by decide +kernel
theorem dX11_better_114 : decode cX11_better 114 = .ok (.getfield 75, 3) := by decide +kernel
theorem dX11_better_117 : decode cX11_better 117 = .ok (.iload 4, 2) := by decide +kernel
theorem dX11_better_119 : decode cX11_better 119 = .ok (.baload, 1) := by decide +kernel
theorem dX11_better_120 : decode cX11_better 120 = .ok (.ifCond .ne 76, 3) := by decide +kernel
theorem dX11_better_123 : decode cX11_better 123 = .ok (.aload_n 0, 1) := by decide +kernel
theorem dX11_better_124 : decode cX11_better 124 = .ok (.getfield 75, 3) := by decide +kernel
theorem dX11_better_127 : decode cX11_better 127 = .ok (.iload_n 3, 1) := by decide +kernel
theorem dX11_better_128 : decode cX11_better 128 = .ok (.iload 4, 2) := by decide +kernel
theorem dX11_better_130 : decode cX11_better 130 = .ok (.iconst (-1), 1) := by decide +kernel
theorem dX11_better_131 : decode cX11_better 131 = .ok (.ixor, 1) := by decide +kernel
theorem dX11_better_132 : decode cX11_better 132 = .ok (.iand, 1) := by decide +kernel
theorem dX11_better_133 : decode cX11_better 133 = .ok (.baload, 1) := by decide +kernel
theorem dX11_better_134 : decode cX11_better 134 = .ok (.ifCond .eq 6, 3) := by decide +kernel
theorem dX11_better_137 : decode cX11_better 137 = .ok (.goto 59, 3) := by decide +kernel
theorem dX11_better_140 : decode cX11_better 140 = .ok (.aload_n 0, 1) := by decide +kernel
theorem dX11_better_141 : decode cX11_better 141 = .ok (.getfield 78, 3) := by decide +kernel
theorem dX11_better_144 : decode cX11_better 144 = .ok (.iload 4, 2) := by decide +kernel
theorem dX11_better_146 : decode cX11_better 146 = .ok (.iconst 1, 1) := by decide +kernel
theorem dX11_better_147 : decode cX11_better 147 = .ok (.bastore, 1) := by decide +kernel
theorem dX11_better_148 : decode cX11_better 148 = .ok (.iload_n 3, 1) := by decide +kernel
theorem dX11_better_149 : decode cX11_better 149 = .ok (.iload 4, 2) := by decide +kernel
theorem dX11_better_151 : decode cX11_better 151 = .ok (.iconst (-1), 1) := by decide +kernel
theorem dX11_better_152 : decode cX11_better 152 = .ok (.ixor, 1) := by decide +kernel
theorem dX11_better_153 : decode cX11_better 153 = .ok (.iand, 1) := by decide +kernel
theorem dX11_better_154 : decode cX11_better 154 = .ok (.istore 5, 2) := by decide +kernel
theorem dX11_better_156 : decode cX11_better 156 = .ok (.iload 5, 2) := by decide +kernel
theorem dX11_better_158 : decode cX11_better 158 = .ok (.istore 6, 2) := by decide +kernel
theorem dX11_better_160 : decode cX11_better 160 = .ok (.iload 6, 2) := by decide +kernel
theorem dX11_better_162 : decode cX11_better 162 = .ok (.ifCond .le 26, 3) := by decide +kernel
theorem dX11_better_165 : decode cX11_better 165 = .ok (.aload_n 0, 1) := by decide +kernel
theorem dX11_better_166 : decode cX11_better 166 = .ok (.getfield 75, 3) := by decide +kernel
theorem dX11_better_169 : decode cX11_better 169 = .ok (.iload 4, 2) := by decide +kernel
theorem dX11_better_171 : decode cX11_better 171 = .ok (.iload 6, 2) := by decide +kernel
theorem dX11_better_173 : decode cX11_better 173 = .ok (.ior, 1) := by decide +kernel
theorem dX11_better_174 : decode cX11_better 174 = .ok (.iconst 1, 1) := by decide +kernel
theorem dX11_better_175 : decode cX11_better 175 = .ok (.bastore, 1) := by decide +kernel
theorem dX11_better_176 : decode cX11_better 176 = .ok (.iload 6, 2) := by decide +kernel
theorem dX11_better_178 : decode cX11_better 178 = .ok (.iconst 1, 1) := by decide +kernel
theorem dX11_better_179 : decode cX11_better 179 = .ok (.isub, 1) := by decide +kernel
theorem dX11_better_180 : decode cX11_better 180 = .ok (.iload 5, 2) := by decide +kernel
theorem dX11_better_182 : decode cX11_better 182 = .ok (.iand, 1) := by decide +kernel
theorem dX11_better_183 : decode cX11_better 183 = .ok (.istore 6, 2) := by decide +kernel
theorem dX11_better_185 : decode cX11_better 185 = .ok (.goto (-25), 3) := by decide +kernel
theorem dX11_better_188 : decode cX11_better 188 = .ok (.aload_n 0, 1) := by decide +kernel
theorem dX11_better_189 : decode cX11_better 189 = .ok (.getfield 75, 3) := by decide +kernel
theorem dX11_better_192 : decode cX11_better 192 = .ok (.iload 4, 2) := by decide +kernel
theorem dX11_better_194 : decode cX11_better 194 = .ok (.iconst 1, 1) := by decide +kernel
theorem dX11_better_195 : decode cX11_better 195 = .ok (.bastore, 1) := by decide +kernel
theorem dX11_better_196 : decode cX11_better 196 = .ok (.iload 4, 2) := by decide +kernel
theorem dX11_better_198 : decode cX11_better 198 = .ok (.iload_n 3, 1) := by decide +kernel
theorem dX11_better_199 : decode cX11_better 199 = .ok (.isub, 1) := by decide +kernel
theorem dX11_better_200 : decode cX11_better 200 = .ok (.iload_n 3, 1) := by decide +kernel
theorem dX11_better_201 : decode cX11_better 201 = .ok (.iand, 1) := by decide +kernel
theorem dX11_better_202 : decode cX11_better 202 = .ok (.istore 4, 2) := by decide +kernel
theorem dX11_better_204 : decode cX11_better 204 = .ok (.goto (-96), 3) := by decide +kernel
theorem dX11_better_207 : decode cX11_better 207 = .ok (.aload_n 0, 1) := by decide +kernel
theorem dX11_better_208 : decode cX11_better 208 = .ok (.iload_n 1, 1) := by decide +kernel
theorem dX11_better_209 : decode cX11_better 209 = .ok (.invokevirtual 175, 3) := by decide +kernel
theorem dX11_better_212 : decode cX11_better 212 = .ok (.iconst 0, 1) := by decide +kernel
theorem dX11_better_213 : decode cX11_better 213 = .ok (.istore 4, 2) := by decide +kernel
theorem dX11_better_215 : decode cX11_better 215 = .ok (.iload 4, 2) := by decide +kernel
theorem dX11_better_217 : decode cX11_better 217 = .ok (.ldc 49, 2) := by decide +kernel
theorem dX11_better_219 : decode cX11_better 219 = .ok (.if_icmp .ge 41, 3) := by decide +kernel
theorem dX11_better_222 : decode cX11_better 222 = .ok (.aload_n 0, 1) := by decide +kernel
theorem dX11_better_223 : decode cX11_better 223 = .ok (.getfield 50, 3) := by decide +kernel
theorem dX11_better_226 : decode cX11_better 226 = .ok (.iload 4, 2) := by decide +kernel
theorem dX11_better_228 : decode cX11_better 228 = .ok (.aload_n 0, 1) := by decide +kernel
theorem dX11_better_229 : decode cX11_better 229 = .ok (.getfield 50, 3) := by decide +kernel
theorem dX11_better_232 : decode cX11_better 232 = .ok (.iload 4, 2) := by decide +kernel
theorem dX11_better_234 : decode cX11_better 234 = .ok (.baload, 1) := by decide +kernel
theorem dX11_better_235 : decode cX11_better 235 = .ok (.ifCond .ne 13, 3) := by decide +kernel
theorem dX11_better_238 : decode cX11_better 238 = .ok (.aload_n 0, 1) := by decide +kernel
theorem dX11_better_239 : decode cX11_better 239 = .ok (.getfield 78, 3) := by decide +kernel
theorem dX11_better_242 : decode cX11_better 242 = .ok (.iload 4, 2) := by decide +kernel
theorem dX11_better_244 : decode cX11_better 244 = .ok (.baload, 1) := by decide +kernel
theorem dX11_better_245 : decode cX11_better 245 = .ok (.ifCond .eq 7, 3) := by decide +kernel
theorem dX11_better_248 : decode cX11_better 248 = .ok (.iconst 1, 1) := by decide +kernel
theorem dX11_better_249 : decode cX11_better 249 = .ok (.goto 4, 3) := by decide +kernel
theorem dX11_better_252 : decode cX11_better 252 = .ok (.iconst 0, 1) := by decide +kernel
theorem dX11_better_253 : decode cX11_better 253 = .ok (.bastore, 1) := by decide +kernel
theorem dX11_better_254 : decode cX11_better 254 = .ok (.iinc 4 1, 3) := by decide +kernel
theorem dX11_better_257 : decode cX11_better 257 = .ok (.goto (-42), 3) := by decide +kernel
theorem dX11_better_260 : decode cX11_better 260 = .ok (.aload_n 0, 1) := by decide +kernel
theorem dX11_better_261 : decode cX11_better 261 = .ok (.bipush 10, 2) := by decide +kernel
theorem dX11_better_263 : decode cX11_better 263 = .ok (.invokevirtual 143, 3) := by decide +kernel
theorem dX11_better_266 : decode cX11_better 266 = .ok (.ireturn, 1) := by decide +kernel
theorem dX11_family_0 : decode cX11_family 0 = .ok (.aload_n 0, 1) := by decide +kernel
theorem dX11_family_1 : decode cX11_family 1 = .ok (.iconst 0, 1) := by decide +kernel
theorem dX11_family_2 : decode cX11_family 2 = .ok (.putfield 84, 3) := by decide +kernel
theorem dX11_family_5 : decode cX11_family 5 = .ok (.aload_n 0, 1) := by decide +kernel
theorem dX11_family_6 : decode cX11_family 6 = .ok (.iload_n 1, 1) := by decide +kernel
theorem dX11_family_7 : decode cX11_family 7 = .ok (.invokevirtual 163, 3) := by decide +kernel
theorem dX11_family_10 : decode cX11_family 10 = .ok (.ifCond .ne 5, 3) := by decide +kernel
theorem dX11_family_13 : decode cX11_family 13 = .ok (.iconst (-1), 1) := by decide +kernel
theorem dX11_family_14 : decode cX11_family 14 = .ok (.ireturn, 1) := by decide +kernel
theorem dX11_family_15 : decode cX11_family 15 = .ok (.bipush 16, 2) := by decide +kernel
theorem dX11_family_17 : decode cX11_family 17 = .ok (.istore_n 3, 1) := by decide +kernel
theorem dX11_family_18 : decode cX11_family 18 = .ok (.iconst 0, 1) := by decide +kernel
theorem dX11_family_19 : decode cX11_family 19 = .ok (.istore 4, 2) := by decide +kernel
theorem dX11_family_21 : decode cX11_family 21 = .ok (.iconst 0, 1) := by decide +kernel
theorem dX11_family_22 : decode cX11_family 22 = .ok (.istore 5, 2) := by decide +kernel
theorem dX11_family_24 : decode cX11_family 24 = .ok (.iload 5, 2) := by decide +kernel
theorem dX11_family_26 : decode cX11_family 26 = .ok (.aload_n 0, 1) := by decide +kernel
theorem dX11_family_27 : decode cX11_family 27 = .ok (.getfield 25, 3) := by decide +kernel
theorem dX11_family_30 : decode cX11_family 30 = .ok (.iload_n 1, 1) := by decide +kernel
theorem dX11_family_31 : decode cX11_family 31 = .ok (.iaload, 1) := by decide +kernel
theorem dX11_family_32 : decode cX11_family 32 = .ok (.if_icmp .ge 51, 3) := by decide +kernel
theorem dX11_family_35 : decode cX11_family 35 = .ok (.aload_n 0, 1) := by decide +kernel
theorem dX11_family_36 : decode cX11_family 36 = .ok (.aload_n 0, 1) := by decide +kernel
theorem dX11_family_37 : decode cX11_family 37 = .ok (.iload_n 1, 1) := by decide +kernel
theorem dX11_family_38 : decode cX11_family 38 = .ok (.iload 5, 2) := by decide +kernel
theorem dX11_family_40 : decode cX11_family 40 = .ok (.invokevirtual 136, 3) := by decide +kernel
theorem dX11_family_43 : decode cX11_family 43 = .ok (.invokevirtual 179, 3) := by decide +kernel
theorem dX11_family_46 : decode cX11_family 46 = .ok (.istore 6, 2) := by decide +kernel
theorem dX11_family_48 : decode cX11_family 48 = .ok (.iload 6, 2) := by decide +kernel
theorem dX11_family_50 : decode cX11_family 50 = .ok (.iload_n 3, 1) := by decide +kernel
theorem dX11_family_51 : decode cX11_family 51 = .ok (.if_icmp .ge 8, 3) := by decide +kernel
theorem dX11_family_54 : decode cX11_family 54 = .ok (.iload 6, 2) := by decide +kernel
theorem dX11_family_56 : decode cX11_family 56 = .ok (.goto 4, 3) := by decide +kernel
theorem dX11_family_59 : decode cX11_family 59 = .ok (.iload_n 3, 1) := by decide +kernel
theorem dX11_family_60 : decode cX11_family 60 = .ok (.istore_n 3, 1) := by decide +kernel
theorem dX11_family_61 : decode cX11_family 61 = .ok (.iload 6, 2) := by decide +kernel
theorem dX11_family_63 : decode cX11_family 63 = .ok (.iload 4, 2) := by decide +kernel
theorem dX11_family_65 : decode cX11_family 65 = .ok (.if_icmp .le 8, 3) := by decide +kernel
theorem dX11_family_68 : decode cX11_family 68 = .ok (.iload 6, 2) := by decide +kernel
theorem dX11_family_70 : decode cX11_family 70 = .ok (.goto 5, 3) := by decide +kernel
theorem dX11_family_73 : decode cX11_family 73 = .ok (.iload 4, 2) := by decide +kernel
theorem dX11_family_75 : decode cX11_family 75 = .ok (.istore 4, 2) := by decide +kernel
theorem dX11_family_77 : decode cX11_family 77 = .ok (.iinc 5 1, 3) := by decide +kernel
theorem dX11_family_80 : decode cX11_family 80 = .ok (.goto (-56), 3) := by decide +kernel
theorem dX11_family_83 : decode cX11_family 83 = .ok (.iload_n 2, 1) := by decide +kernel
theorem dX11_family_84 : decode cX11_family 84 = .ok (.tableswitch 61 0 4 #[36, 43, 50, 56, 58], 36) := by decide +kernel
theorem dX11_family_120 : decode cX11_family 120 = .ok (.aload_n 0, 1) := by decide +kernel
theorem dX11_family_121 : decode cX11_family 121 = .ok (.getfield 22, 3) := by decide +kernel
theorem dX11_family_124 : decode cX11_family 124 = .ok (.iload_n 1, 1) := by decide +kernel
theorem dX11_family_125 : decode cX11_family 125 = .ok (.iaload, 1) := by decide +kernel
theorem dX11_family_126 : decode cX11_family 126 = .ok (.ireturn, 1) := by decide +kernel
theorem dX11_family_127 : decode cX11_family 127 = .ok (.aload_n 0, 1) := by decide +kernel
theorem dX11_family_128 : decode cX11_family 128 = .ok (.getfield 25, 3) := by decide +kernel
theorem dX11_family_131 : decode cX11_family 131 = .ok (.iload_n 1, 1) := by decide +kernel
theorem dX11_family_132 : decode cX11_family 132 = .ok (.iaload, 1) := by decide +kernel
theorem dX11_family_133 : decode cX11_family 133 = .ok (.ireturn, 1) := by decide +kernel
theorem dX11_family_134 : decode cX11_family 134 = .ok (.aload_n 0, 1) := by decide +kernel
theorem dX11_family_135 : decode cX11_family 135 = .ok (.iload_n 1, 1) := by decide +kernel
theorem dX11_family_136 : decode cX11_family 136 = .ok (.invokevirtual 166, 3) := by decide +kernel
theorem dX11_family_139 : decode cX11_family 139 = .ok (.ireturn, 1) := by decide +kernel
theorem dX11_family_140 : decode cX11_family 140 = .ok (.iload_n 3, 1) := by decide +kernel
theorem dX11_family_141 : decode cX11_family 141 = .ok (.ireturn, 1) := by decide +kernel
theorem dX11_family_142 : decode cX11_family 142 = .ok (.iload 4, 2) := by decide +kernel
theorem dX11_family_144 : decode cX11_family 144 = .ok (.ireturn, 1) := by decide +kernel
theorem dX11_family_145 : decode cX11_family 145 = .ok (.iconst (-1), 1) := by decide +kernel
theorem dX11_family_146 : decode cX11_family 146 = .ok (.ireturn, 1) := by decide +kernel
theorem dX11_quorum_0 : decode cX11_quorum 0 = .ok (.aload_n 0, 1) := by decide +kernel
theorem dX11_quorum_1 : decode cX11_quorum 1 = .ok (.iconst 0, 1) := by decide +kernel
theorem dX11_quorum_2 : decode cX11_quorum 2 = .ok (.putfield 84, 3) := by decide +kernel
theorem dX11_quorum_5 : decode cX11_quorum 5 = .ok (.aload_n 0, 1) := by decide +kernel
theorem dX11_quorum_6 : decode cX11_quorum 6 = .ok (.iload_n 1, 1) := by decide +kernel
theorem dX11_quorum_7 : decode cX11_quorum 7 = .ok (.invokevirtual 163, 3) := by decide +kernel
theorem dX11_quorum_10 : decode cX11_quorum 10 = .ok (.ifCond .eq 29, 3) := by decide +kernel
theorem dX11_quorum_13 : decode cX11_quorum 13 = .ok (.aload_n 0, 1) := by decide +kernel
theorem dX11_quorum_14 : decode cX11_quorum 14 = .ok (.iload_n 2, 1) := by decide +kernel
theorem dX11_quorum_15 : decode cX11_quorum 15 = .ok (.iconst 0, 1) := by decide +kernel
theorem dX11_quorum_16 : decode cX11_quorum 16 = .ok (.aload_n 0, 1) := by decide +kernel
theorem dX11_quorum_17 : decode cX11_quorum 17 = .ok (.getfield 25, 3) := by decide +kernel
theorem dX11_quorum_20 : decode cX11_quorum 20 = .ok (.iload_n 1, 1) := by decide +kernel
theorem dX11_quorum_21 : decode cX11_quorum 21 = .ok (.iaload, 1) := by decide +kernel
theorem dX11_quorum_22 : decode cX11_quorum 22 = .ok (.iconst 1, 1) := by decide +kernel
theorem dX11_quorum_23 : decode cX11_quorum 23 = .ok (.isub, 1) := by decide +kernel
theorem dX11_quorum_24 : decode cX11_quorum 24 = .ok (.invokevirtual 97, 3) := by decide +kernel
theorem dX11_quorum_27 : decode cX11_quorum 27 = .ok (.ifCond .eq 12, 3) := by decide +kernel
theorem dX11_quorum_30 : decode cX11_quorum 30 = .ok (.aload_n 0, 1) := by decide +kernel
theorem dX11_quorum_31 : decode cX11_quorum 31 = .ok (.iload_n 1, 1) := by decide +kernel
theorem dX11_quorum_32 : decode cX11_quorum 32 = .ok (.iload_n 2, 1) := by decide +kernel
theorem dX11_quorum_33 : decode cX11_quorum 33 = .ok (.invokevirtual 136, 3) := by decide +kernel
theorem dX11_quorum_36 : decode cX11_quorum 36 = .ok (.goto 4, 3) := by decide +kernel
theorem dX11_quorum_39 : decode cX11_quorum 39 = .ok (.iconst (-1), 1) := by decide +kernel
theorem dX11_quorum_40 : decode cX11_quorum 40 = .ok (.ireturn, 1) := by decide +kernel
theorem dX11_hasOne_0 : decode cX11_hasOne 0 = .ok (.iconst 0, 1) := by decide +kernel
theorem dX11_hasOne_1 : decode cX11_hasOne 1 = .ok (.istore_n 3, 1) := by decide +kernel
theorem dX11_hasOne_2 : decode cX11_hasOne 2 = .ok (.iload_n 3, 1) := by decide +kernel
theorem dX11_hasOne_3 : decode cX11_hasOne 3 = .ok (.aload_n 0, 1) := by decide +kernel
theorem dX11_hasOne_4 : decode cX11_hasOne 4 = .ok (.getfield 25, 3) := by decide +kernel
theorem dX11_hasOne_7 : decode cX11_hasOne 7 = .ok (.iload_n 1, 1) := by decide +kernel
theorem dX11_hasOne_8 : decode cX11_hasOne 8 = .ok (.iaload, 1) := by decide +kernel
theorem dX11_hasOne_9 : decode cX11_hasOne 9 = .ok (.if_icmp .ge 24, 3) := by decide +kernel
theorem dX11_hasOne_12 : decode cX11_hasOne 12 = .ok (.aload_n 0, 1) := by decide +kernel
theorem dX11_hasOne_13 : decode cX11_hasOne 13 = .ok (.iload_n 1, 1) := by decide +kernel
theorem dX11_hasOne_14 : decode cX11_hasOne 14 = .ok (.iload_n 3, 1) := by decide +kernel
theorem dX11_hasOne_15 : decode cX11_hasOne 15 = .ok (.invokevirtual 136, 3) := by decide +kernel
theorem dX11_hasOne_18 : decode cX11_hasOne 18 = .ok (.iload_n 2, 1) := by decide +kernel
theorem dX11_hasOne_19 : decode cX11_hasOne 19 = .ok (.iconst (-1), 1) := by decide +kernel
theorem dX11_hasOne_20 : decode cX11_hasOne 20 = .ok (.ixor, 1) := by decide +kernel
theorem dX11_hasOne_21 : decode cX11_hasOne 21 = .ok (.iand, 1) := by decide +kernel
theorem dX11_hasOne_22 : decode cX11_hasOne 22 = .ok (.ifCond .ne 5, 3) := by decide +kernel
theorem dX11_hasOne_25 : decode cX11_hasOne 25 = .ok (.iconst 1, 1) := by decide +kernel
theorem dX11_hasOne_26 : decode cX11_hasOne 26 = .ok (.ireturn, 1) := by decide +kernel
theorem dX11_hasOne_27 : decode cX11_hasOne 27 = .ok (.iinc 3 1, 3) := by decide +kernel
theorem dX11_hasOne_30 : decode cX11_hasOne 30 = .ok (.goto (-28), 3) := by decide +kernel
theorem dX11_hasOne_33 : decode cX11_hasOne 33 = .ok (.iconst 0, 1) := by decide +kernel
theorem dX11_hasOne_34 : decode cX11_hasOne 34 = .ok (.ireturn, 1) := by decide +kernel
theorem dX11_has_0 : decode cX11_has 0 = .ok (.aload_n 0, 1) := by decide +kernel
theorem dX11_has_1 : decode cX11_has 1 = .ok (.iconst 0, 1) := by decide +kernel
theorem dX11_has_2 : decode cX11_has 2 = .ok (.putfield 84, 3) := by decide +kernel
theorem dX11_has_5 : decode cX11_has 5 = .ok (.aload_n 0, 1) := by decide +kernel
theorem dX11_has_6 : decode cX11_has 6 = .ok (.iload_n 1, 1) := by decide +kernel
theorem dX11_has_7 : decode cX11_has 7 = .ok (.invokevirtual 163, 3) := by decide +kernel
theorem dX11_has_10 : decode cX11_has 10 = .ok (.ifCond .ne 9, 3) := by decide +kernel
theorem dX11_has_13 : decode cX11_has 13 = .ok (.aload_n 0, 1) := by decide +kernel
theorem dX11_has_14 : decode cX11_has 14 = .ok (.iconst 1, 1) := by decide +kernel
theorem dX11_has_15 : decode cX11_has 15 = .ok (.invokevirtual 115, 3) := by decide +kernel
theorem dX11_has_18 : decode cX11_has 18 = .ok (.ireturn, 1) := by decide +kernel
theorem dX11_has_19 : decode cX11_has 19 = .ok (.aload_n 0, 1) := by decide +kernel
theorem dX11_has_20 : decode cX11_has 20 = .ok (.iconst 0, 1) := by decide +kernel
theorem dX11_has_21 : decode cX11_has 21 = .ok (.putfield 88, 3) := by decide +kernel
theorem dX11_has_24 : decode cX11_has 24 = .ok (.aload_n 0, 1) := by decide +kernel
theorem dX11_has_25 : decode cX11_has 25 = .ok (.iload_n 1, 1) := by decide +kernel
theorem dX11_has_26 : decode cX11_has 26 = .ok (.iload_n 2, 1) := by decide +kernel
theorem dX11_has_27 : decode cX11_has 27 = .ok (.invokevirtual 182, 3) := by decide +kernel
theorem dX11_has_30 : decode cX11_has 30 = .ok (.ifCond .eq 7, 3) := by decide +kernel
theorem dX11_has_33 : decode cX11_has 33 = .ok (.iconst 1, 1) := by decide +kernel
theorem dX11_has_34 : decode cX11_has 34 = .ok (.goto 4, 3) := by decide +kernel
theorem dX11_has_37 : decode cX11_has 37 = .ok (.iconst 0, 1) := by decide +kernel
theorem dX11_has_38 : decode cX11_has 38 = .ok (.ireturn, 1) := by decide +kernel
theorem dX11_apart_0 : decode cX11_apart 0 = .ok (.aload_n 0, 1) := by decide +kernel
theorem dX11_apart_1 : decode cX11_apart 1 = .ok (.iconst 0, 1) := by decide +kernel
theorem dX11_apart_2 : decode cX11_apart 2 = .ok (.putfield 84, 3) := by decide +kernel
theorem dX11_apart_5 : decode cX11_apart 5 = .ok (.aload_n 0, 1) := by decide +kernel
theorem dX11_apart_6 : decode cX11_apart 6 = .ok (.iload_n 1, 1) := by decide +kernel
theorem dX11_apart_7 : decode cX11_apart 7 = .ok (.invokevirtual 163, 3) := by decide +kernel
theorem dX11_apart_10 : decode cX11_apart 10 = .ok (.ifCond .eq 11, 3) := by decide +kernel
theorem dX11_apart_13 : decode cX11_apart 13 = .ok (.aload_n 0, 1) := by decide +kernel
theorem dX11_apart_14 : decode cX11_apart 14 = .ok (.iload_n 2, 1) := by decide +kernel
theorem dX11_apart_15 : decode cX11_apart 15 = .ok (.invokevirtual 163, 3) := by decide +kernel
theorem dX11_apart_18 : decode cX11_apart 18 = .ok (.ifCond .ne 9, 3) := by decide +kernel
theorem dX11_apart_21 : decode cX11_apart 21 = .ok (.aload_n 0, 1) := by decide +kernel
theorem dX11_apart_22 : decode cX11_apart 22 = .ok (.iconst 1, 1) := by decide +kernel
theorem dX11_apart_23 : decode cX11_apart 23 = .ok (.invokevirtual 115, 3) := by decide +kernel
theorem dX11_apart_26 : decode cX11_apart 26 = .ok (.ireturn, 1) := by decide +kernel
theorem dX11_apart_27 : decode cX11_apart 27 = .ok (.aload_n 0, 1) := by decide +kernel
theorem dX11_apart_28 : decode cX11_apart 28 = .ok (.iconst 0, 1) := by decide +kernel
theorem dX11_apart_29 : decode cX11_apart 29 = .ok (.putfield 88, 3) := by decide +kernel
theorem dX11_apart_32 : decode cX11_apart 32 = .ok (.aload_n 0, 1) := by decide +kernel
theorem dX11_apart_33 : decode cX11_apart 33 = .ok (.iload_n 1, 1) := by decide +kernel
theorem dX11_apart_34 : decode cX11_apart 34 = .ok (.iload_n 2, 1) := by decide +kernel
theorem dX11_apart_35 : decode cX11_apart 35 = .ok (.invokevirtual 172, 3) := by decide +kernel
theorem dX11_apart_38 : decode cX11_apart 38 = .ok (.ireturn, 1) := by decide +kernel
theorem dX11_hitOf_0 : decode cX11_hitOf 0 = .ok (.aload_n 0, 1) := by decide +kernel
theorem dX11_hitOf_1 : decode cX11_hitOf 1 = .ok (.iload_n 1, 1) := by decide +kernel
theorem dX11_hitOf_2 : decode cX11_hitOf 2 = .ok (.invokevirtual 166, 3) := by decide +kernel
theorem dX11_hitOf_5 : decode cX11_hitOf 5 = .ok (.istore_n 2, 1) := by decide +kernel
theorem dX11_hitOf_6 : decode cX11_hitOf 6 = .ok (.iload_n 2, 1) := by decide +kernel
theorem dX11_hitOf_7 : decode cX11_hitOf 7 = .ok (.istore_n 3, 1) := by decide +kernel
theorem dX11_hitOf_8 : decode cX11_hitOf 8 = .ok (.iconst 0, 1) := by decide +kernel
theorem dX11_hitOf_9 : decode cX11_hitOf 9 = .ok (.iload_n 2, 1) := by decide +kernel
theorem dX11_hitOf_10 : decode cX11_hitOf 10 = .ok (.isub, 1) := by decide +kernel
theorem dX11_hitOf_11 : decode cX11_hitOf 11 = .ok (.iload_n 2, 1) := by decide +kernel
theorem dX11_hitOf_12 : decode cX11_hitOf 12 = .ok (.iand, 1) := by decide +kernel
theorem dX11_hitOf_13 : decode cX11_hitOf 13 = .ok (.istore 4, 2) := by decide +kernel
theorem dX11_hitOf_15 : decode cX11_hitOf 15 = .ok (.iload 4, 2) := by decide +kernel
theorem dX11_hitOf_17 : decode cX11_hitOf 17 = .ok (.ifCond .eq 41, 3) := by decide +kernel
theorem dX11_hitOf_20 : decode cX11_hitOf 20 = .ok (.aload_n 0, 1) := by decide +kernel
theorem dX11_hitOf_21 : decode cX11_hitOf 21 = .ok (.iload 4, 2) := by decide +kernel
theorem dX11_hitOf_23 : decode cX11_hitOf 23 = .ok (.invokevirtual 179, 3) := by decide +kernel
theorem dX11_hitOf_26 : decode cX11_hitOf 26 = .ok (.aload_n 0, 1) := by decide +kernel
theorem dX11_hitOf_27 : decode cX11_hitOf 27 = .ok (.iload_n 3, 1) := by decide +kernel
theorem dX11_hitOf_28 : decode cX11_hitOf 28 = .ok (.invokevirtual 179, 3) := by decide +kernel
theorem dX11_hitOf_31 : decode cX11_hitOf 31 = .ok (.if_icmp .ge 16, 3) := by decide +kernel
theorem dX11_hitOf_34 : decode cX11_hitOf 34 = .ok (.aload_n 0, 1) := by decide +kernel
theorem dX11_hitOf_35 : decode cX11_hitOf 35 = .ok (.iload 4, 2) := by decide +kernel
theorem dX11_hitOf_37 : decode cX11_hitOf 37 = .ok (.iload_n 1, 1) := by decide +kernel
theorem dX11_hitOf_38 : decode cX11_hitOf 38 = .ok (.invokevirtual 169, 3) := by decide +kernel
theorem dX11_hitOf_41 : decode cX11_hitOf 41 = .ok (.ifCond .eq 6, 3) := by decide +kernel
theorem dX11_hitOf_44 : decode cX11_hitOf 44 = .ok (.iload 4, 2) := by decide +kernel
theorem dX11_hitOf_46 : decode cX11_hitOf 46 = .ok (.istore_n 3, 1) := by decide +kernel
theorem dX11_hitOf_47 : decode cX11_hitOf 47 = .ok (.iload 4, 2) := by decide +kernel
theorem dX11_hitOf_49 : decode cX11_hitOf 49 = .ok (.iload_n 2, 1) := by decide +kernel
theorem dX11_hitOf_50 : decode cX11_hitOf 50 = .ok (.isub, 1) := by decide +kernel
theorem dX11_hitOf_51 : decode cX11_hitOf 51 = .ok (.iload_n 2, 1) := by decide +kernel
theorem dX11_hitOf_52 : decode cX11_hitOf 52 = .ok (.iand, 1) := by decide +kernel
theorem dX11_hitOf_53 : decode cX11_hitOf 53 = .ok (.istore 4, 2) := by decide +kernel
theorem dX11_hitOf_55 : decode cX11_hitOf 55 = .ok (.goto (-40), 3) := by decide +kernel
theorem dX11_hitOf_58 : decode cX11_hitOf 58 = .ok (.iload_n 3, 1) := by decide +kernel
theorem dX11_hitOf_59 : decode cX11_hitOf 59 = .ok (.ireturn, 1) := by decide +kernel
theorem dX11_hit_0 : decode cX11_hit 0 = .ok (.aload_n 0, 1) := by decide +kernel
theorem dX11_hit_1 : decode cX11_hit 1 = .ok (.iconst 0, 1) := by decide +kernel
theorem dX11_hit_2 : decode cX11_hit 2 = .ok (.putfield 84, 3) := by decide +kernel
theorem dX11_hit_5 : decode cX11_hit 5 = .ok (.aload_n 0, 1) := by decide +kernel
theorem dX11_hit_6 : decode cX11_hit 6 = .ok (.iload_n 1, 1) := by decide +kernel
theorem dX11_hit_7 : decode cX11_hit 7 = .ok (.invokevirtual 163, 3) := by decide +kernel
theorem dX11_hit_10 : decode cX11_hit 10 = .ok (.ifCond .ne 9, 3) := by decide +kernel
theorem dX11_hit_13 : decode cX11_hit 13 = .ok (.aload_n 0, 1) := by decide +kernel
theorem dX11_hit_14 : decode cX11_hit 14 = .ok (.iconst 1, 1) := by decide +kernel
theorem dX11_hit_15 : decode cX11_hit 15 = .ok (.invokevirtual 115, 3) := by decide +kernel
theorem dX11_hit_18 : decode cX11_hit 18 = .ok (.ireturn, 1) := by decide +kernel
theorem dX11_hit_19 : decode cX11_hit 19 = .ok (.aload_n 0, 1) := by decide +kernel
theorem dX11_hit_20 : decode cX11_hit 20 = .ok (.iconst 0, 1) := by decide +kernel
theorem dX11_hit_21 : decode cX11_hit 21 = .ok (.putfield 88, 3) := by decide +kernel
theorem dX11_hit_24 : decode cX11_hit 24 = .ok (.aload_n 0, 1) := by decide +kernel
theorem dX11_hit_25 : decode cX11_hit 25 = .ok (.iload_n 1, 1) := by decide +kernel
theorem dX11_hit_26 : decode cX11_hit 26 = .ok (.invokevirtual 185, 3) := by decide +kernel
theorem dX11_hit_29 : decode cX11_hit 29 = .ok (.ireturn, 1) := by decide +kernel
theorem dX11_falls_0 : decode cX11_falls 0 = .ok (.aload_n 0, 1) := by decide +kernel
theorem dX11_falls_1 : decode cX11_falls 1 = .ok (.iconst 0, 1) := by decide +kernel
theorem dX11_falls_2 : decode cX11_falls 2 = .ok (.putfield 84, 3) := by decide +kernel
theorem dX11_falls_5 : decode cX11_falls 5 = .ok (.aload_n 0, 1) := by decide +kernel
theorem dX11_falls_6 : decode cX11_falls 6 = .ok (.iload_n 1, 1) := by decide +kernel
theorem dX11_falls_7 : decode cX11_falls 7 = .ok (.invokevirtual 163, 3) := by decide +kernel
theorem dX11_falls_10 : decode cX11_falls 10 = .ok (.ifCond .ne 9, 3) := by decide +kernel
theorem dX11_falls_13 : decode cX11_falls 13 = .ok (.aload_n 0, 1) := by decide +kernel
theorem dX11_falls_14 : decode cX11_falls 14 = .ok (.iconst 1, 1) := by decide +kernel
theorem dX11_falls_15 : decode cX11_falls 15 = .ok (.invokevirtual 115, 3) := by decide +kernel
theorem dX11_falls_18 : decode cX11_falls 18 = .ok (.ireturn, 1) := by decide +kernel
theorem dX11_falls_19 : decode cX11_falls 19 = .ok (.aload_n 0, 1) := by decide +kernel
theorem dX11_falls_20 : decode cX11_falls 20 = .ok (.iconst 0, 1) := by decide +kernel
theorem dX11_falls_21 : decode cX11_falls 21 = .ok (.putfield 88, 3) := by decide +kernel
theorem dX11_falls_24 : decode cX11_falls 24 = .ok (.aload_n 0, 1) := by decide +kernel
theorem dX11_falls_25 : decode cX11_falls 25 = .ok (.aload_n 0, 1) := by decide +kernel
theorem dX11_falls_26 : decode cX11_falls 26 = .ok (.iload_n 1, 1) := by decide +kernel
theorem dX11_falls_27 : decode cX11_falls 27 = .ok (.invokevirtual 185, 3) := by decide +kernel
theorem dX11_falls_30 : decode cX11_falls 30 = .ok (.invokevirtual 179, 3) := by decide +kernel
theorem dX11_falls_33 : decode cX11_falls 33 = .ok (.iconst 1, 1) := by decide +kernel
theorem dX11_falls_34 : decode cX11_falls 34 = .ok (.isub, 1) := by decide +kernel
theorem dX11_falls_35 : decode cX11_falls 35 = .ok (.ireturn, 1) := by decide +kernel
theorem dX11_liars_0 : decode cX11_liars 0 = .ok (.aload_n 0, 1) := by decide +kernel
theorem dX11_liars_1 : decode cX11_liars 1 = .ok (.iconst 0, 1) := by decide +kernel
theorem dX11_liars_2 : decode cX11_liars 2 = .ok (.putfield 84, 3) := by decide +kernel
theorem dX11_liars_5 : decode cX11_liars 5 = .ok (.aload_n 0, 1) := by decide +kernel
theorem dX11_liars_6 : decode cX11_liars 6 = .ok (.iload_n 1, 1) := by decide +kernel
theorem dX11_liars_7 : decode cX11_liars 7 = .ok (.invokevirtual 163, 3) := by decide +kernel
theorem dX11_liars_10 : decode cX11_liars 10 = .ok (.ifCond .ne 9, 3) := by decide +kernel
theorem dX11_liars_13 : decode cX11_liars 13 = .ok (.aload_n 0, 1) := by decide +kernel
theorem dX11_liars_14 : decode cX11_liars 14 = .ok (.iconst 1, 1) := by decide +kernel
theorem dX11_liars_15 : decode cX11_liars 15 = .ok (.invokevirtual 115, 3) := by decide +kernel
theorem dX11_liars_18 : decode cX11_liars 18 = .ok (.ireturn, 1) := by decide +kernel
theorem dX11_liars_19 : decode cX11_liars 19 = .ok (.aload_n 0, 1) := by decide +kernel
theorem dX11_liars_20 : decode cX11_liars 20 = .ok (.iconst 0, 1) := by decide +kernel
theorem dX11_liars_21 : decode cX11_liars 21 = .ok (.putfield 88, 3) := by decide +kernel
theorem dX11_liars_24 : decode cX11_liars 24 = .ok (.aload_n 0, 1) := by decide +kernel
theorem dX11_liars_25 : decode cX11_liars 25 = .ok (.aload_n 0, 1) := by decide +kernel
theorem dX11_liars_26 : decode cX11_liars 26 = .ok (.iload_n 1, 1) := by decide +kernel
theorem dX11_liars_27 : decode cX11_liars 27 = .ok (.iconst 0, 1) := by decide +kernel
theorem dX11_liars_28 : decode cX11_liars 28 = .ok (.invokevirtual 136, 3) := by decide +kernel
theorem dX11_liars_31 : decode cX11_liars 31 = .ok (.invokevirtual 179, 3) := by decide +kernel
theorem dX11_liars_34 : decode cX11_liars 34 = .ok (.istore_n 3, 1) := by decide +kernel
theorem dX11_liars_35 : decode cX11_liars 35 = .ok (.iconst 0, 1) := by decide +kernel
theorem dX11_liars_36 : decode cX11_liars 36 = .ok (.istore 4, 2) := by decide +kernel
theorem dX11_liars_38 : decode cX11_liars 38 = .ok (.iload 4, 2) := by decide +kernel
theorem dX11_liars_40 : decode cX11_liars 40 = .ok (.aload_n 0, 1) := by decide +kernel
theorem dX11_liars_41 : decode cX11_liars 41 = .ok (.getfield 25, 3) := by decide +kernel
theorem dX11_liars_44 : decode cX11_liars 44 = .ok (.iload_n 1, 1) := by decide +kernel
theorem dX11_liars_45 : decode cX11_liars 45 = .ok (.iaload, 1) := by decide +kernel
theorem dX11_liars_46 : decode cX11_liars 46 = .ok (.if_icmp .ge 66, 3) := by decide +kernel
theorem dX11_liars_49 : decode cX11_liars 49 = .ok (.iload 4, 2) := by decide +kernel
theorem dX11_liars_51 : decode cX11_liars 51 = .ok (.iconst 1, 1) := by decide +kernel
theorem dX11_liars_52 : decode cX11_liars 52 = .ok (.iadd, 1) := by decide +kernel
theorem dX11_liars_53 : decode cX11_liars 53 = .ok (.istore 5, 2) := by decide +kernel
theorem dX11_liars_55 : decode cX11_liars 55 = .ok (.iload 5, 2) := by decide +kernel
theorem dX11_liars_57 : decode cX11_liars 57 = .ok (.aload_n 0, 1) := by decide +kernel
theorem dX11_liars_58 : decode cX11_liars 58 = .ok (.getfield 25, 3) := by decide +kernel
theorem dX11_liars_61 : decode cX11_liars 61 = .ok (.iload_n 1, 1) := by decide +kernel
theorem dX11_liars_62 : decode cX11_liars 62 = .ok (.iaload, 1) := by decide +kernel
theorem dX11_liars_63 : decode cX11_liars 63 = .ok (.if_icmp .ge 43, 3) := by decide +kernel
theorem dX11_liars_66 : decode cX11_liars 66 = .ok (.aload_n 0, 1) := by decide +kernel
theorem dX11_liars_67 : decode cX11_liars 67 = .ok (.aload_n 0, 1) := by decide +kernel
theorem dX11_liars_68 : decode cX11_liars 68 = .ok (.iload_n 1, 1) := by decide +kernel
theorem dX11_liars_69 : decode cX11_liars 69 = .ok (.iload 4, 2) := by decide +kernel
theorem dX11_liars_71 : decode cX11_liars 71 = .ok (.invokevirtual 136, 3) := by decide +kernel
theorem dX11_liars_74 : decode cX11_liars 74 = .ok (.aload_n 0, 1) := by decide +kernel
theorem dX11_liars_75 : decode cX11_liars 75 = .ok (.iload_n 1, 1) := by decide +kernel
theorem dX11_liars_76 : decode cX11_liars 76 = .ok (.iload 5, 2) := by decide +kernel
theorem dX11_liars_78 : decode cX11_liars 78 = .ok (.invokevirtual 136, 3) := by decide +kernel
theorem dX11_liars_81 : decode cX11_liars 81 = .ok (.iand, 1) := by decide +kernel
theorem dX11_liars_82 : decode cX11_liars 82 = .ok (.invokevirtual 179, 3) := by decide +kernel
theorem dX11_liars_85 : decode cX11_liars 85 = .ok (.istore 6, 2) := by decide +kernel
theorem dX11_liars_87 : decode cX11_liars 87 = .ok (.iload 6, 2) := by decide +kernel
theorem dX11_liars_89 : decode cX11_liars 89 = .ok (.iload_n 3, 1) := by decide +kernel
theorem dX11_liars_90 : decode cX11_liars 90 = .ok (.if_icmp .ge 8, 3) := by decide +kernel
theorem dX11_liars_93 : decode cX11_liars 93 = .ok (.iload 6, 2) := by decide +kernel
theorem dX11_liars_95 : decode cX11_liars 95 = .ok (.goto 4, 3) := by decide +kernel
theorem dX11_liars_98 : decode cX11_liars 98 = .ok (.iload_n 3, 1) := by decide +kernel
theorem dX11_liars_99 : decode cX11_liars 99 = .ok (.istore_n 3, 1) := by decide +kernel
theorem dX11_liars_100 : decode cX11_liars 100 = .ok (.iinc 5 1, 3) := by decide +kernel
theorem dX11_liars_103 : decode cX11_liars 103 = .ok (.goto (-48), 3) := by decide +kernel
theorem dX11_liars_106 : decode cX11_liars 106 = .ok (.iinc 4 1, 3) := by decide +kernel
theorem dX11_liars_109 : decode cX11_liars 109 = .ok (.goto (-71), 3) := by decide +kernel
theorem dX11_liars_112 : decode cX11_liars 112 = .ok (.iload_n 3, 1) := by decide +kernel
theorem dX11_liars_113 : decode cX11_liars 113 = .ok (.ifCond .ne 7, 3) := by decide +kernel
theorem dX11_liars_116 : decode cX11_liars 116 = .ok (.iconst (-1), 1) := by decide +kernel
theorem dX11_liars_117 : decode cX11_liars 117 = .ok (.goto 18, 3) := by decide +kernel
theorem dX11_liars_120 : decode cX11_liars 120 = .ok (.iload_n 2, 1) := by decide +kernel
theorem dX11_liars_121 : decode cX11_liars 121 = .ok (.ifCond .eq 11, 3) := by decide +kernel
theorem dX11_liars_124 : decode cX11_liars 124 = .ok (.iload_n 3, 1) := by decide +kernel
theorem dX11_liars_125 : decode cX11_liars 125 = .ok (.iconst 1, 1) := by decide +kernel
theorem dX11_liars_126 : decode cX11_liars 126 = .ok (.isub, 1) := by decide +kernel
theorem dX11_liars_127 : decode cX11_liars 127 = .ok (.iconst 2, 1) := by decide +kernel
theorem dX11_liars_128 : decode cX11_liars 128 = .ok (.idiv, 1) := by decide +kernel
theorem dX11_liars_129 : decode cX11_liars 129 = .ok (.goto 6, 3) := by decide +kernel
theorem dX11_liars_132 : decode cX11_liars 132 = .ok (.iload_n 3, 1) := by decide +kernel
theorem dX11_liars_133 : decode cX11_liars 133 = .ok (.iconst 1, 1) := by decide +kernel
theorem dX11_liars_134 : decode cX11_liars 134 = .ok (.isub, 1) := by decide +kernel
theorem dX11_liars_135 : decode cX11_liars 135 = .ok (.ireturn, 1) := by decide +kernel
theorem dX11_chance_0 : decode cX11_chance 0 = .ok (.aload_n 0, 1) := by decide +kernel
theorem dX11_chance_1 : decode cX11_chance 1 = .ok (.iconst 0, 1) := by decide +kernel
theorem dX11_chance_2 : decode cX11_chance 2 = .ok (.putfield 84, 3) := by decide +kernel
theorem dX11_chance_5 : decode cX11_chance 5 = .ok (.aload_n 0, 1) := by decide +kernel
theorem dX11_chance_6 : decode cX11_chance 6 = .ok (.iload_n 1, 1) := by decide +kernel
theorem dX11_chance_7 : decode cX11_chance 7 = .ok (.invokevirtual 163, 3) := by decide +kernel
theorem dX11_chance_10 : decode cX11_chance 10 = .ok (.ifCond .ne 10, 3) := by decide +kernel
theorem dX11_chance_13 : decode cX11_chance 13 = .ok (.aload_n 0, 1) := by decide +kernel
theorem dX11_chance_14 : decode cX11_chance 14 = .ok (.iconst 1, 1) := by decide +kernel
theorem dX11_chance_15 : decode cX11_chance 15 = .ok (.invokevirtual 115, 3) := by decide +kernel
theorem dX11_chance_18 : decode cX11_chance 18 = .ok (.i2l, 1) := by decide +kernel
theorem dX11_chance_19 : decode cX11_chance 19 = .ok (.lreturn, 1) := by decide +kernel
theorem dX11_chance_20 : decode cX11_chance 20 = .ok (.aload_n 0, 1) := by decide +kernel
theorem dX11_chance_21 : decode cX11_chance 21 = .ok (.iconst 0, 1) := by decide +kernel
theorem dX11_chance_22 : decode cX11_chance 22 = .ok (.putfield 88, 3) := by decide +kernel
theorem dX11_chance_25 : decode cX11_chance 25 = .ok (.aload_n 0, 1) := by decide +kernel
theorem dX11_chance_26 : decode cX11_chance 26 = .ok (.iload_n 1, 1) := by decide +kernel
theorem dX11_chance_27 : decode cX11_chance 27 = .ok (.invokevirtual 166, 3) := by decide +kernel
theorem dX11_chance_30 : decode cX11_chance 30 = .ok (.istore_n 2, 1) := by decide +kernel
theorem dX11_chance_31 : decode cX11_chance 31 = .ok (.lconst 0, 1) := by decide +kernel
theorem dX11_chance_32 : decode cX11_chance 32 = .ok (.lstore_n 3, 1) := by decide +kernel
theorem dX11_chance_33 : decode cX11_chance 33 = .ok (.iload_n 2, 1) := by decide +kernel
theorem dX11_chance_34 : decode cX11_chance 34 = .ok (.istore 5, 2) := by decide +kernel
theorem dX11_chance_36 : decode cX11_chance 36 = .ok (.iload 5, 2) := by decide +kernel
theorem dX11_chance_38 : decode cX11_chance 38 = .ok (.ifCond .le 104, 3) := by decide +kernel
theorem dX11_chance_41 : decode cX11_chance 41 = .ok (.aload_n 0, 1) := by decide +kernel
theorem dX11_chance_42 : decode cX11_chance 42 = .ok (.iload_n 1, 1) := by decide +kernel
theorem dX11_chance_43 : decode cX11_chance 43 = .ok (.iload 5, 2) := by decide +kernel
theorem dX11_chance_45 : decode cX11_chance 45 = .ok (.invokevirtual 182, 3) := by decide +kernel
theorem dX11_chance_48 : decode cX11_chance 48 = .ok (.ifCond .ne 6, 3) := by decide +kernel
theorem dX11_chance_51 : decode cX11_chance 51 = .ok (.goto 80, 3) := by decide +kernel
theorem dX11_chance_54 : decode cX11_chance 54 = .ok (.lconst 1, 1) := by decide +kernel
theorem dX11_chance_55 : decode cX11_chance 55 = .ok (.lstore 6, 2) := by decide +kernel
theorem dX11_chance_57 : decode cX11_chance 57 = .ok (.iconst 0, 1) := by decide +kernel
theorem dX11_chance_58 : decode cX11_chance 58 = .ok (.istore 8, 2) := by decide +kernel
theorem dX11_chance_60 : decode cX11_chance 60 = .ok (.iload 8, 2) := by decide +kernel
theorem dX11_chance_62 : decode cX11_chance 62 = .ok (.bipush 16, 2) := by decide +kernel
theorem dX11_chance_64 : decode cX11_chance 64 = .ok (.if_icmp .ge 62, 3) := by decide +kernel
theorem dX11_chance_67 : decode cX11_chance 67 = .ok (.lload 6, 2) := by decide +kernel
theorem dX11_chance_69 : decode cX11_chance 69 = .ok (.iload_n 2, 1) := by decide +kernel
theorem dX11_chance_70 : decode cX11_chance 70 = .ok (.iload 8, 2) := by decide +kernel
theorem dX11_chance_72 : decode cX11_chance 72 = .ok (.ishr, 1) := by decide +kernel
theorem dX11_chance_73 : decode cX11_chance 73 = .ok (.iconst 1, 1) := by decide +kernel
theorem dX11_chance_74 : decode cX11_chance 74 = .ok (.iand, 1) := by decide +kernel
theorem dX11_chance_75 : decode cX11_chance 75 = .ok (.ifCond .ne 9, 3) := by decide +kernel
theorem dX11_chance_78 : decode cX11_chance 78 = .ok (.ldc2_w 188, 3) := by decide +kernel
theorem dX11_chance_81 : decode cX11_chance 81 = .ok (.goto 36, 3) := by decide +kernel
theorem dX11_chance_84 : decode cX11_chance 84 = .ok (.iload 5, 2) := by decide +kernel
theorem dX11_chance_86 : decode cX11_chance 86 = .ok (.iload 8, 2) := by decide +kernel
theorem dX11_chance_88 : decode cX11_chance 88 = .ok (.ishr, 1) := by decide +kernel
theorem dX11_chance_89 : decode cX11_chance 89 = .ok (.iconst 1, 1) := by decide +kernel
theorem dX11_chance_90 : decode cX11_chance 90 = .ok (.iand, 1) := by decide +kernel
theorem dX11_chance_91 : decode cX11_chance 91 = .ok (.iconst 1, 1) := by decide +kernel
theorem dX11_chance_92 : decode cX11_chance 92 = .ok (.if_icmp .ne 14, 3) := by decide +kernel
theorem dX11_chance_95 : decode cX11_chance 95 = .ok (.aload_n 0, 1) := by decide +kernel
theorem dX11_chance_96 : decode cX11_chance 96 = .ok (.getfield 13, 3) := by decide +kernel
theorem dX11_chance_99 : decode cX11_chance 99 = .ok (.iload 8, 2) := by decide +kernel
theorem dX11_chance_101 : decode cX11_chance 101 = .ok (.iaload, 1) := by decide +kernel
theorem dX11_chance_102 : decode cX11_chance 102 = .ok (.i2l, 1) := by decide +kernel
theorem dX11_chance_103 : decode cX11_chance 103 = .ok (.goto 14, 3) := by decide +kernel
theorem dX11_chance_106 : decode cX11_chance 106 = .ok (.bipush 10, 2) := by decide +kernel
theorem dX11_chance_108 : decode cX11_chance 108 = .ok (.aload_n 0, 1) := by decide +kernel
theorem dX11_chance_109 : decode cX11_chance 109 = .ok (.getfield 13, 3) := by decide +kernel
theorem dX11_chance_112 : decode cX11_chance 112 = .ok (.iload 8, 2) := by decide +kernel
theorem dX11_chance_114 : decode cX11_chance 114 = .ok (.iaload, 1) := by decide +kernel
theorem dX11_chance_115 : decode cX11_chance 115 = .ok (.isub, 1) := by decide +kernel
theorem dX11_chance_116 : decode cX11_chance 116 = .ok (.i2l, 1) := by decide +kernel
theorem dX11_chance_117 : decode cX11_chance 117 = .ok (.lmul, 1) := by decide +kernel
theorem dX11_chance_118 : decode cX11_chance 118 = .ok (.lstore 6, 2) := by decide +kernel
theorem dX11_chance_120 : decode cX11_chance 120 = .ok (.iinc 8 1, 3) := by decide +kernel
theorem dX11_chance_123 : decode cX11_chance 123 = .ok (.goto (-63), 3) := by decide +kernel
theorem dX11_chance_126 : decode cX11_chance 126 = .ok (.lload_n 3, 1) := by decide +kernel
theorem dX11_chance_127 : decode cX11_chance 127 = .ok (.lload 6, 2) := by decide +kernel
theorem dX11_chance_129 : decode cX11_chance 129 = .ok (.ladd, 1) := by decide +kernel
theorem dX11_chance_130 : decode cX11_chance 130 = .ok (.lstore_n 3, 1) := by decide +kernel
theorem dX11_chance_131 : decode cX11_chance 131 = .ok (.iload 5, 2) := by decide +kernel
theorem dX11_chance_133 : decode cX11_chance 133 = .ok (.iconst 1, 1) := by decide +kernel
theorem dX11_chance_134 : decode cX11_chance 134 = .ok (.isub, 1) := by decide +kernel
theorem dX11_chance_135 : decode cX11_chance 135 = .ok (.iload_n 2, 1) := by decide +kernel
theorem dX11_chance_136 : decode cX11_chance 136 = .ok (.iand, 1) := by decide +kernel
theorem dX11_chance_137 : decode cX11_chance 137 = .ok (.istore 5, 2) := by decide +kernel
theorem dX11_chance_139 : decode cX11_chance 139 = .ok (.goto (-103), 3) := by decide +kernel
theorem dX11_chance_142 : decode cX11_chance 142 = .ok (.lload_n 3, 1) := by decide +kernel
theorem dX11_chance_143 : decode cX11_chance 143 = .ok (.lreturn, 1) := by decide +kernel
theorem dX11_even_0 : decode cX11_even 0 = .ok (.aload_n 0, 1) := by decide +kernel
theorem dX11_even_1 : decode cX11_even 1 = .ok (.iconst 0, 1) := by decide +kernel
theorem dX11_even_2 : decode cX11_even 2 = .ok (.putfield 84, 3) := by decide +kernel
theorem dX11_even_5 : decode cX11_even 5 = .ok (.aload_n 0, 1) := by decide +kernel
theorem dX11_even_6 : decode cX11_even 6 = .ok (.iload_n 1, 1) := by decide +kernel
theorem dX11_even_7 : decode cX11_even 7 = .ok (.invokevirtual 163, 3) := by decide +kernel
theorem dX11_even_10 : decode cX11_even 10 = .ok (.ifCond .ne 9, 3) := by decide +kernel
theorem dX11_even_13 : decode cX11_even 13 = .ok (.aload_n 0, 1) := by decide +kernel
theorem dX11_even_14 : decode cX11_even 14 = .ok (.iconst 1, 1) := by decide +kernel
theorem dX11_even_15 : decode cX11_even 15 = .ok (.invokevirtual 119, 3) := by decide +kernel
theorem dX11_even_18 : decode cX11_even 18 = .ok (.ireturn, 1) := by decide +kernel
theorem dX11_even_19 : decode cX11_even 19 = .ok (.aload_n 0, 1) := by decide +kernel
theorem dX11_even_20 : decode cX11_even 20 = .ok (.invokevirtual 190, 3) := by decide +kernel
theorem dX11_even_23 : decode cX11_even 23 = .ok (.aload_n 0, 1) := by decide +kernel
theorem dX11_even_24 : decode cX11_even 24 = .ok (.iconst 1, 1) := by decide +kernel
theorem dX11_even_25 : decode cX11_even 25 = .ok (.putfield 104, 3) := by decide +kernel
theorem dX11_even_28 : decode cX11_even 28 = .ok (.aload_n 0, 1) := by decide +kernel
theorem dX11_even_29 : decode cX11_even 29 = .ok (.getfield 31, 3) := by decide +kernel
theorem dX11_even_32 : decode cX11_even 32 = .ok (.iconst 0, 1) := by decide +kernel
theorem dX11_even_33 : decode cX11_even 33 = .ok (.iload_n 1, 1) := by decide +kernel
theorem dX11_even_34 : decode cX11_even 34 = .ok (.iastore, 1) := by decide +kernel
theorem dX11_even_35 : decode cX11_even 35 = .ok (.iconst 0, 1) := by decide +kernel
theorem dX11_even_36 : decode cX11_even 36 = .ok (.istore_n 2, 1) := by decide +kernel
theorem dX11_even_37 : decode cX11_even 37 = .ok (.iload_n 2, 1) := by decide +kernel
theorem dX11_even_38 : decode cX11_even 38 = .ok (.bipush 120, 2) := by decide +kernel
theorem dX11_even_40 : decode cX11_even 40 = .ok (.if_icmp .ge 32, 3) := by decide +kernel
theorem dX11_even_43 : decode cX11_even 43 = .ok (.aload_n 0, 1) := by decide +kernel
theorem dX11_even_44 : decode cX11_even 44 = .ok (.getfield 31, 3) := by decide +kernel
theorem dX11_even_47 : decode cX11_even 47 = .ok (.iconst 1, 1) := by decide +kernel
theorem dX11_even_48 : decode cX11_even 48 = .ok (.iload_n 2, 1) := by decide +kernel
theorem dX11_even_49 : decode cX11_even 49 = .ok (.iadd, 1) := by decide +kernel
theorem dX11_even_50 : decode cX11_even 50 = .ok (.iload_n 2, 1) := by decide +kernel
theorem dX11_even_51 : decode cX11_even 51 = .ok (.aload_n 0, 1) := by decide +kernel
theorem dX11_even_52 : decode cX11_even 52 = .ok (.getfield 25, 3) := by decide +kernel
theorem dX11_even_55 : decode cX11_even 55 = .ok (.iload_n 1, 1) := by decide +kernel
theorem dX11_even_56 : decode cX11_even 56 = .ok (.iaload, 1) := by decide +kernel
theorem dX11_even_57 : decode cX11_even 57 = .ok (.if_icmp .ge 7, 3) := by decide +kernel
theorem dX11_even_60 : decode cX11_even 60 = .ok (.iconst 1, 1) := by decide +kernel
theorem dX11_even_61 : decode cX11_even 61 = .ok (.goto 4, 3) := by decide +kernel
theorem dX11_even_64 : decode cX11_even 64 = .ok (.iconst 0, 1) := by decide +kernel
theorem dX11_even_65 : decode cX11_even 65 = .ok (.iastore, 1) := by decide +kernel
theorem dX11_even_66 : decode cX11_even 66 = .ok (.iinc 2 1, 3) := by decide +kernel
theorem dX11_even_69 : decode cX11_even 69 = .ok (.goto (-32), 3) := by decide +kernel
theorem dX11_even_72 : decode cX11_even 72 = .ok (.iconst 1, 1) := by decide +kernel
theorem dX11_even_73 : decode cX11_even 73 = .ok (.ireturn, 1) := by decide +kernel
theorem dX11_isPart_0 : decode cX11_isPart 0 = .ok (.aload_n 0, 1) := by decide +kernel
theorem dX11_isPart_1 : decode cX11_isPart 1 = .ok (.getfield 104, 3) := by decide +kernel
theorem dX11_isPart_4 : decode cX11_isPart 4 = .ok (.ifCond .eq 29, 3) := by decide +kernel
theorem dX11_isPart_7 : decode cX11_isPart 7 = .ok (.aload_n 0, 1) := by decide +kernel
theorem dX11_isPart_8 : decode cX11_isPart 8 = .ok (.iload_n 1, 1) := by decide +kernel
theorem dX11_isPart_9 : decode cX11_isPart 9 = .ok (.iconst 0, 1) := by decide +kernel
theorem dX11_isPart_10 : decode cX11_isPart 10 = .ok (.aload_n 0, 1) := by decide +kernel
theorem dX11_isPart_11 : decode cX11_isPart 11 = .ok (.getfield 25, 3) := by decide +kernel
theorem dX11_isPart_14 : decode cX11_isPart 14 = .ok (.aload_n 0, 1) := by decide +kernel
theorem dX11_isPart_15 : decode cX11_isPart 15 = .ok (.getfield 31, 3) := by decide +kernel
theorem dX11_isPart_18 : decode cX11_isPart 18 = .ok (.iconst 0, 1) := by decide +kernel
theorem dX11_isPart_19 : decode cX11_isPart 19 = .ok (.iaload, 1) := by decide +kernel
theorem dX11_isPart_20 : decode cX11_isPart 20 = .ok (.iaload, 1) := by decide +kernel
theorem dX11_isPart_21 : decode cX11_isPart 21 = .ok (.iconst 1, 1) := by decide +kernel
theorem dX11_isPart_22 : decode cX11_isPart 22 = .ok (.isub, 1) := by decide +kernel
theorem dX11_isPart_23 : decode cX11_isPart 23 = .ok (.invokevirtual 97, 3) := by decide +kernel
theorem dX11_isPart_26 : decode cX11_isPart 26 = .ok (.ifCond .eq 7, 3) := by decide +kernel
theorem dX11_isPart_29 : decode cX11_isPart 29 = .ok (.iconst 1, 1) := by decide +kernel
theorem dX11_isPart_30 : decode cX11_isPart 30 = .ok (.goto 4, 3) := by decide +kernel
theorem dX11_isPart_33 : decode cX11_isPart 33 = .ok (.iconst 0, 1) := by decide +kernel
theorem dX11_isPart_34 : decode cX11_isPart 34 = .ok (.ireturn, 1) := by decide +kernel
theorem dX11_allParts_0 : decode cX11_allParts 0 = .ok (.iconst 0, 1) := by decide +kernel
theorem dX11_allParts_1 : decode cX11_allParts 1 = .ok (.istore_n 1, 1) := by decide +kernel
theorem dX11_allParts_2 : decode cX11_allParts 2 = .ok (.iconst 0, 1) := by decide +kernel
theorem dX11_allParts_3 : decode cX11_allParts 3 = .ok (.istore_n 2, 1) := by decide +kernel
theorem dX11_allParts_4 : decode cX11_allParts 4 = .ok (.iload_n 2, 1) := by decide +kernel
theorem dX11_allParts_5 : decode cX11_allParts 5 = .ok (.aload_n 0, 1) := by decide +kernel
theorem dX11_allParts_6 : decode cX11_allParts 6 = .ok (.getfield 25, 3) := by decide +kernel
theorem dX11_allParts_9 : decode cX11_allParts 9 = .ok (.aload_n 0, 1) := by decide +kernel
theorem dX11_allParts_10 : decode cX11_allParts 10 = .ok (.getfield 31, 3) := by decide +kernel
theorem dX11_allParts_13 : decode cX11_allParts 13 = .ok (.iconst 0, 1) := by decide +kernel
theorem dX11_allParts_14 : decode cX11_allParts 14 = .ok (.iaload, 1) := by decide +kernel
theorem dX11_allParts_15 : decode cX11_allParts 15 = .ok (.iaload, 1) := by decide +kernel
theorem dX11_allParts_16 : decode cX11_allParts 16 = .ok (.if_icmp .ge 20, 3) := by decide +kernel
theorem dX11_allParts_19 : decode cX11_allParts 19 = .ok (.iload_n 1, 1) := by decide +kernel
theorem dX11_allParts_20 : decode cX11_allParts 20 = .ok (.aload_n 0, 1) := by decide +kernel
theorem dX11_allParts_21 : decode cX11_allParts 21 = .ok (.getfield 31, 3) := by decide +kernel
theorem dX11_allParts_24 : decode cX11_allParts 24 = .ok (.iconst 1, 1) := by decide +kernel
theorem dX11_allParts_25 : decode cX11_allParts 25 = .ok (.iload_n 2, 1) := by decide +kernel
theorem dX11_allParts_26 : decode cX11_allParts 26 = .ok (.iadd, 1) := by decide +kernel
theorem dX11_allParts_27 : decode cX11_allParts 27 = .ok (.iaload, 1) := by decide +kernel
theorem dX11_allParts_28 : decode cX11_allParts 28 = .ok (.iadd, 1) := by decide +kernel
theorem dX11_allParts_29 : decode cX11_allParts 29 = .ok (.istore_n 1, 1) := by decide +kernel
theorem dX11_allParts_30 : decode cX11_allParts 30 = .ok (.iinc 2 1, 3) := by decide +kernel
theorem dX11_allParts_33 : decode cX11_allParts 33 = .ok (.goto (-29), 3) := by decide +kernel
theorem dX11_allParts_36 : decode cX11_allParts 36 = .ok (.iload_n 1, 1) := by decide +kernel
theorem dX11_allParts_37 : decode cX11_allParts 37 = .ok (.ireturn, 1) := by decide +kernel
theorem dX11_part_0 : decode cX11_part 0 = .ok (.aload_n 0, 1) := by decide +kernel
theorem dX11_part_1 : decode cX11_part 1 = .ok (.iconst 0, 1) := by decide +kernel
theorem dX11_part_2 : decode cX11_part 2 = .ok (.putfield 84, 3) := by decide +kernel
theorem dX11_part_5 : decode cX11_part 5 = .ok (.aload_n 0, 1) := by decide +kernel
theorem dX11_part_6 : decode cX11_part 6 = .ok (.iload_n 1, 1) := by decide +kernel
theorem dX11_part_7 : decode cX11_part 7 = .ok (.invokevirtual 193, 3) := by decide +kernel
theorem dX11_part_10 : decode cX11_part 10 = .ok (.ifCond .ne 9, 3) := by decide +kernel
theorem dX11_part_13 : decode cX11_part 13 = .ok (.aload_n 0, 1) := by decide +kernel
theorem dX11_part_14 : decode cX11_part 14 = .ok (.iconst 1, 1) := by decide +kernel
theorem dX11_part_15 : decode cX11_part 15 = .ok (.invokevirtual 119, 3) := by decide +kernel
theorem dX11_part_18 : decode cX11_part 18 = .ok (.ireturn, 1) := by decide +kernel
theorem dX11_part_19 : decode cX11_part 19 = .ok (.aload_n 0, 1) := by decide +kernel
theorem dX11_part_20 : decode cX11_part 20 = .ok (.iload_n 2, 1) := by decide +kernel
theorem dX11_part_21 : decode cX11_part 21 = .ok (.iconst 0, 1) := by decide +kernel
theorem dX11_part_22 : decode cX11_part 22 = .ok (.sipush 1000, 3) := by decide +kernel
theorem dX11_part_25 : decode cX11_part 25 = .ok (.invokevirtual 97, 3) := by decide +kernel
theorem dX11_part_28 : decode cX11_part 28 = .ok (.ifCond .eq 21, 3) := by decide +kernel
theorem dX11_part_31 : decode cX11_part 31 = .ok (.aload_n 0, 1) := by decide +kernel
theorem dX11_part_32 : decode cX11_part 32 = .ok (.invokevirtual 196, 3) := by decide +kernel
theorem dX11_part_35 : decode cX11_part 35 = .ok (.aload_n 0, 1) := by decide +kernel
theorem dX11_part_36 : decode cX11_part 36 = .ok (.getfield 31, 3) := by decide +kernel
theorem dX11_part_39 : decode cX11_part 39 = .ok (.iconst 1, 1) := by decide +kernel
theorem dX11_part_40 : decode cX11_part 40 = .ok (.iload_n 1, 1) := by decide +kernel
theorem dX11_part_41 : decode cX11_part 41 = .ok (.iadd, 1) := by decide +kernel
theorem dX11_part_42 : decode cX11_part 42 = .ok (.iaload, 1) := by decide +kernel
theorem dX11_part_43 : decode cX11_part 43 = .ok (.isub, 1) := by decide +kernel
theorem dX11_part_44 : decode cX11_part 44 = .ok (.iload_n 2, 1) := by decide +kernel
theorem dX11_part_45 : decode cX11_part 45 = .ok (.iadd, 1) := by decide +kernel
theorem dX11_part_46 : decode cX11_part 46 = .ok (.ifCond .ne 9, 3) := by decide +kernel
theorem dX11_part_49 : decode cX11_part 49 = .ok (.aload_n 0, 1) := by decide +kernel
theorem dX11_part_50 : decode cX11_part 50 = .ok (.iconst 2, 1) := by decide +kernel
theorem dX11_part_51 : decode cX11_part 51 = .ok (.invokevirtual 119, 3) := by decide +kernel
theorem dX11_part_54 : decode cX11_part 54 = .ok (.ireturn, 1) := by decide +kernel
theorem dX11_part_55 : decode cX11_part 55 = .ok (.aload_n 0, 1) := by decide +kernel
theorem dX11_part_56 : decode cX11_part 56 = .ok (.invokevirtual 190, 3) := by decide +kernel
theorem dX11_part_59 : decode cX11_part 59 = .ok (.aload_n 0, 1) := by decide +kernel
theorem dX11_part_60 : decode cX11_part 60 = .ok (.getfield 31, 3) := by decide +kernel
theorem dX11_part_63 : decode cX11_part 63 = .ok (.iconst 1, 1) := by decide +kernel
theorem dX11_part_64 : decode cX11_part 64 = .ok (.iload_n 1, 1) := by decide +kernel
theorem dX11_part_65 : decode cX11_part 65 = .ok (.iadd, 1) := by decide +kernel
theorem dX11_part_66 : decode cX11_part 66 = .ok (.iload_n 2, 1) := by decide +kernel
theorem dX11_part_67 : decode cX11_part 67 = .ok (.iastore, 1) := by decide +kernel
theorem dX11_part_68 : decode cX11_part 68 = .ok (.iconst 1, 1) := by decide +kernel
theorem dX11_part_69 : decode cX11_part 69 = .ok (.ireturn, 1) := by decide +kernel
theorem dX11_partOf_0 : decode cX11_partOf 0 = .ok (.aload_n 0, 1) := by decide +kernel
theorem dX11_partOf_1 : decode cX11_partOf 1 = .ok (.iconst 0, 1) := by decide +kernel
theorem dX11_partOf_2 : decode cX11_partOf 2 = .ok (.putfield 84, 3) := by decide +kernel
theorem dX11_partOf_5 : decode cX11_partOf 5 = .ok (.aload_n 0, 1) := by decide +kernel
theorem dX11_partOf_6 : decode cX11_partOf 6 = .ok (.iload_n 1, 1) := by decide +kernel
theorem dX11_partOf_7 : decode cX11_partOf 7 = .ok (.invokevirtual 193, 3) := by decide +kernel
theorem dX11_partOf_10 : decode cX11_partOf 10 = .ok (.ifCond .eq 14, 3) := by decide +kernel
theorem dX11_partOf_13 : decode cX11_partOf 13 = .ok (.aload_n 0, 1) := by decide +kernel
theorem dX11_partOf_14 : decode cX11_partOf 14 = .ok (.getfield 31, 3) := by decide +kernel
theorem dX11_partOf_17 : decode cX11_partOf 17 = .ok (.iconst 1, 1) := by decide +kernel
theorem dX11_partOf_18 : decode cX11_partOf 18 = .ok (.iload_n 1, 1) := by decide +kernel
theorem dX11_partOf_19 : decode cX11_partOf 19 = .ok (.iadd, 1) := by decide +kernel
theorem dX11_partOf_20 : decode cX11_partOf 20 = .ok (.iaload, 1) := by decide +kernel
theorem dX11_partOf_21 : decode cX11_partOf 21 = .ok (.goto 4, 3) := by decide +kernel
theorem dX11_partOf_24 : decode cX11_partOf 24 = .ok (.iconst (-1), 1) := by decide +kernel
theorem dX11_partOf_25 : decode cX11_partOf 25 = .ok (.ireturn, 1) := by decide +kernel
theorem dX11_divisor_0 : decode cX11_divisor 0 = .ok (.iload_n 1, 1) := by decide +kernel
theorem dX11_divisor_1 : decode cX11_divisor 1 = .ok (.istore_n 3, 1) := by decide +kernel
theorem dX11_divisor_2 : decode cX11_divisor 2 = .ok (.iload_n 2, 1) := by decide +kernel
theorem dX11_divisor_3 : decode cX11_divisor 3 = .ok (.istore 4, 2) := by decide +kernel
theorem dX11_divisor_5 : decode cX11_divisor 5 = .ok (.iload 4, 2) := by decide +kernel
theorem dX11_divisor_7 : decode cX11_divisor 7 = .ok (.ifCond .eq 19, 3) := by decide +kernel
theorem dX11_divisor_10 : decode cX11_divisor 10 = .ok (.iload_n 3, 1) := by decide +kernel
theorem dX11_divisor_11 : decode cX11_divisor 11 = .ok (.iload 4, 2) := by decide +kernel
theorem dX11_divisor_13 : decode cX11_divisor 13 = .ok (.irem, 1) := by decide +kernel
theorem dX11_divisor_14 : decode cX11_divisor 14 = .ok (.istore 5, 2) := by decide +kernel
theorem dX11_divisor_16 : decode cX11_divisor 16 = .ok (.iload 4, 2) := by decide +kernel
theorem dX11_divisor_18 : decode cX11_divisor 18 = .ok (.istore_n 3, 1) := by decide +kernel
theorem dX11_divisor_19 : decode cX11_divisor 19 = .ok (.iload 5, 2) := by decide +kernel
theorem dX11_divisor_21 : decode cX11_divisor 21 = .ok (.istore 4, 2) := by decide +kernel
theorem dX11_divisor_23 : decode cX11_divisor 23 = .ok (.goto (-18), 3) := by decide +kernel
theorem dX11_divisor_26 : decode cX11_divisor 26 = .ok (.iload_n 3, 1) := by decide +kernel
theorem dX11_divisor_27 : decode cX11_divisor 27 = .ok (.ireturn, 1) := by decide +kernel
theorem dX11_fraction_0 : decode cX11_fraction 0 = .ok (.aload_n 0, 1) := by decide +kernel
theorem dX11_fraction_1 : decode cX11_fraction 1 = .ok (.iload_n 1, 1) := by decide +kernel
theorem dX11_fraction_2 : decode cX11_fraction 2 = .ok (.iload_n 2, 1) := by decide +kernel
theorem dX11_fraction_3 : decode cX11_fraction 3 = .ok (.invokevirtual 200, 3) := by decide +kernel
theorem dX11_fraction_6 : decode cX11_fraction 6 = .ok (.istore_n 3, 1) := by decide +kernel
theorem dX11_fraction_7 : decode cX11_fraction 7 = .ok (.aload_n 0, 1) := by decide +kernel
theorem dX11_fraction_8 : decode cX11_fraction 8 = .ok (.iload_n 1, 1) := by decide +kernel
theorem dX11_fraction_9 : decode cX11_fraction 9 = .ok (.iload_n 3, 1) := by decide +kernel
theorem dX11_fraction_10 : decode cX11_fraction 10 = .ok (.idiv, 1) := by decide +kernel
theorem dX11_fraction_11 : decode cX11_fraction 11 = .ok (.putfield 203, 3) := by decide +kernel
theorem dX11_fraction_14 : decode cX11_fraction 14 = .ok (.aload_n 0, 1) := by decide +kernel
theorem dX11_fraction_15 : decode cX11_fraction 15 = .ok (.iload_n 2, 1) := by decide +kernel
theorem dX11_fraction_16 : decode cX11_fraction 16 = .ok (.iload_n 3, 1) := by decide +kernel
theorem dX11_fraction_17 : decode cX11_fraction 17 = .ok (.idiv, 1) := by decide +kernel
theorem dX11_fraction_18 : decode cX11_fraction 18 = .ok (.putfield 206, 3) := by decide +kernel
theorem dX11_fraction_21 : decode cX11_fraction 21 = .ok (.return_, 1) := by decide +kernel
theorem dX11_loadsOf_0 : decode cX11_loadsOf 0 = .ok (.iconst 0, 1) := by decide +kernel
theorem dX11_loadsOf_1 : decode cX11_loadsOf 1 = .ok (.istore_n 2, 1) := by decide +kernel
theorem dX11_loadsOf_2 : decode cX11_loadsOf 2 = .ok (.iconst 0, 1) := by decide +kernel
theorem dX11_loadsOf_3 : decode cX11_loadsOf 3 = .ok (.istore_n 3, 1) := by decide +kernel
theorem dX11_loadsOf_4 : decode cX11_loadsOf 4 = .ok (.iload_n 3, 1) := by decide +kernel
theorem dX11_loadsOf_5 : decode cX11_loadsOf 5 = .ok (.aload_n 0, 1) := by decide +kernel
theorem dX11_loadsOf_6 : decode cX11_loadsOf 6 = .ok (.getfield 25, 3) := by decide +kernel
theorem dX11_loadsOf_9 : decode cX11_loadsOf 9 = .ok (.aload_n 0, 1) := by decide +kernel
theorem dX11_loadsOf_10 : decode cX11_loadsOf 10 = .ok (.getfield 31, 3) := by decide +kernel
theorem dX11_loadsOf_13 : decode cX11_loadsOf 13 = .ok (.iconst 0, 1) := by decide +kernel
theorem dX11_loadsOf_14 : decode cX11_loadsOf 14 = .ok (.iaload, 1) := by decide +kernel
theorem dX11_loadsOf_15 : decode cX11_loadsOf 15 = .ok (.iaload, 1) := by decide +kernel
theorem dX11_loadsOf_16 : decode cX11_loadsOf 16 = .ok (.if_icmp .ge 43, 3) := by decide +kernel
theorem dX11_loadsOf_19 : decode cX11_loadsOf 19 = .ok (.iload_n 2, 1) := by decide +kernel
theorem dX11_loadsOf_20 : decode cX11_loadsOf 20 = .ok (.aload_n 0, 1) := by decide +kernel
theorem dX11_loadsOf_21 : decode cX11_loadsOf 21 = .ok (.aload_n 0, 1) := by decide +kernel
theorem dX11_loadsOf_22 : decode cX11_loadsOf 22 = .ok (.getfield 31, 3) := by decide +kernel
theorem dX11_loadsOf_25 : decode cX11_loadsOf 25 = .ok (.iconst 0, 1) := by decide +kernel
theorem dX11_loadsOf_26 : decode cX11_loadsOf 26 = .ok (.iaload, 1) := by decide +kernel
theorem dX11_loadsOf_27 : decode cX11_loadsOf 27 = .ok (.iload_n 3, 1) := by decide +kernel
theorem dX11_loadsOf_28 : decode cX11_loadsOf 28 = .ok (.invokevirtual 136, 3) := by decide +kernel
