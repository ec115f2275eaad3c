theorem dX11_adds_374 : decode cX11_adds 374 = .ok (.sipush 200, 3) := by decide +kernel
theorem dX11_adds_377 : decode cX11_adds 377 = .ok (.iload_n 1, 1) := by decide +kernel
theorem dX11_adds_378 : decode cX11_adds 378 = .ok (.imul, 1) := by decide +kernel
theorem dX11_adds_379 : decode cX11_adds 379 = .ok (.iload 13, 2) := by decide +kernel
theorem dX11_adds_381 : decode cX11_adds 381 = .ok (.iadd, 1) := by decide +kernel
theorem dX11_adds_382 : decode cX11_adds 382 = .ok (.iload 14, 2) := by decide +kernel
theorem dX11_adds_384 : decode cX11_adds 384 = .ok (.iload 11, 2) := by decide +kernel
theorem dX11_adds_386 : decode cX11_adds 386 = .ok (.ldc 67, 2) := by decide +kernel
theorem dX11_adds_388 : decode cX11_adds 388 = .ok (.imul, 1) := by decide +kernel
theorem dX11_adds_389 : decode cX11_adds 389 = .ok (.iadd, 1) := by decide +kernel
theorem dX11_adds_390 : decode cX11_adds 390 = .ok (.iastore, 1) := by decide +kernel
theorem dX11_adds_391 : decode cX11_adds 391 = .ok (.iinc 13 1, 3) := by decide +kernel
theorem dX11_adds_394 : decode cX11_adds 394 = .ok (.goto (-76), 3) := by decide +kernel
theorem dX11_adds_397 : decode cX11_adds 397 = .ok (.aload_n 0, 1) := by decide +kernel
theorem dX11_adds_398 : decode cX11_adds 398 = .ok (.getfield 17, 3) := by decide +kernel
theorem dX11_adds_401 : decode cX11_adds 401 = .ok (.iload_n 1, 1) := by decide +kernel
theorem dX11_adds_402 : decode cX11_adds 402 = .ok (.iload 9, 2) := by decide +kernel
theorem dX11_adds_404 : decode cX11_adds 404 = .ok (.iastore, 1) := by decide +kernel
theorem dX11_adds_405 : decode cX11_adds 405 = .ok (.aload_n 0, 1) := by decide +kernel
theorem dX11_adds_406 : decode cX11_adds 406 = .ok (.iload_n 1, 1) := by decide +kernel
theorem dX11_adds_407 : decode cX11_adds 407 = .ok (.iload 10, 2) := by decide +kernel
theorem dX11_adds_409 : decode cX11_adds 409 = .ok (.invokevirtual 68, 3) := by decide +kernel
theorem dX11_adds_412 : decode cX11_adds 412 = .ok (.return_, 1) := by decide +kernel
theorem dX11_multiplies_0 : decode cX11_multiplies 0 = .ok (.aload_n 0, 1) := by decide +kernel
theorem dX11_multiplies_1 : decode cX11_multiplies 1 = .ok (.getfield 14, 3) := by decide +kernel
theorem dX11_multiplies_4 : decode cX11_multiplies 4 = .ok (.iload_n 2, 1) := by decide +kernel
theorem dX11_multiplies_5 : decode cX11_multiplies 5 = .ok (.iaload, 1) := by decide +kernel
theorem dX11_multiplies_6 : decode cX11_multiplies 6 = .ok (.aload_n 0, 1) := by decide +kernel
theorem dX11_multiplies_7 : decode cX11_multiplies 7 = .ok (.getfield 14, 3) := by decide +kernel
theorem dX11_multiplies_10 : decode cX11_multiplies 10 = .ok (.iload_n 3, 1) := by decide +kernel
theorem dX11_multiplies_11 : decode cX11_multiplies 11 = .ok (.iaload, 1) := by decide +kernel
theorem dX11_multiplies_12 : decode cX11_multiplies 12 = .ok (.iadd, 1) := by decide +kernel
theorem dX11_multiplies_13 : decode cX11_multiplies 13 = .ok (.istore 4, 2) := by decide +kernel
theorem dX11_multiplies_15 : decode cX11_multiplies 15 = .ok (.iconst 0, 1) := by decide +kernel
theorem dX11_multiplies_16 : decode cX11_multiplies 16 = .ok (.istore 5, 2) := by decide +kernel
theorem dX11_multiplies_18 : decode cX11_multiplies 18 = .ok (.iload 5, 2) := by decide +kernel
theorem dX11_multiplies_20 : decode cX11_multiplies 20 = .ok (.iload 4, 2) := by decide +kernel
theorem dX11_multiplies_22 : decode cX11_multiplies 22 = .ok (.if_icmp .ge 23, 3) := by decide +kernel
theorem dX11_multiplies_25 : decode cX11_multiplies 25 = .ok (.aload_n 0, 1) := by decide +kernel
theorem dX11_multiplies_26 : decode cX11_multiplies 26 = .ok (.getfield 8, 3) := by decide +kernel
theorem dX11_multiplies_29 : decode cX11_multiplies 29 = .ok (.sipush 200, 3) := by decide +kernel
theorem dX11_multiplies_32 : decode cX11_multiplies 32 = .ok (.iload_n 1, 1) := by decide +kernel
theorem dX11_multiplies_33 : decode cX11_multiplies 33 = .ok (.imul, 1) := by decide +kernel
theorem dX11_multiplies_34 : decode cX11_multiplies 34 = .ok (.iload 5, 2) := by decide +kernel
theorem dX11_multiplies_36 : decode cX11_multiplies 36 = .ok (.iadd, 1) := by decide +kernel
theorem dX11_multiplies_37 : decode cX11_multiplies 37 = .ok (.iconst 0, 1) := by decide +kernel
theorem dX11_multiplies_38 : decode cX11_multiplies 38 = .ok (.iastore, 1) := by decide +kernel
theorem dX11_multiplies_39 : decode cX11_multiplies 39 = .ok (.iinc 5 1, 3) := by decide +kernel
theorem dX11_multiplies_42 : decode cX11_multiplies 42 = .ok (.goto (-24), 3) := by decide +kernel
theorem dX11_multiplies_45 : decode cX11_multiplies 45 = .ok (.iconst 0, 1) := by decide +kernel
theorem dX11_multiplies_46 : decode cX11_multiplies 46 = .ok (.istore 5, 2) := by decide +kernel
theorem dX11_multiplies_48 : decode cX11_multiplies 48 = .ok (.iload 5, 2) := by decide +kernel
theorem dX11_multiplies_50 : decode cX11_multiplies 50 = .ok (.aload_n 0, 1) := by decide +kernel
theorem dX11_multiplies_51 : decode cX11_multiplies 51 = .ok (.getfield 14, 3) := by decide +kernel
theorem dX11_multiplies_54 : decode cX11_multiplies 54 = .ok (.iload_n 2, 1) := by decide +kernel
theorem dX11_multiplies_55 : decode cX11_multiplies 55 = .ok (.iaload, 1) := by decide +kernel
theorem dX11_multiplies_56 : decode cX11_multiplies 56 = .ok (.if_icmp .ge 124, 3) := by decide +kernel
theorem dX11_multiplies_59 : decode cX11_multiplies 59 = .ok (.lconst 0, 1) := by decide +kernel
theorem dX11_multiplies_60 : decode cX11_multiplies 60 = .ok (.lstore 6, 2) := by decide +kernel
theorem dX11_multiplies_62 : decode cX11_multiplies 62 = .ok (.aload_n 0, 1) := by decide +kernel
theorem dX11_multiplies_63 : decode cX11_multiplies 63 = .ok (.iload_n 2, 1) := by decide +kernel
theorem dX11_multiplies_64 : decode cX11_multiplies 64 = .ok (.iload 5, 2) := by decide +kernel
theorem dX11_multiplies_66 : decode cX11_multiplies 66 = .ok (.invokevirtual 59, 3) := by decide +kernel
theorem dX11_multiplies_69 : decode cX11_multiplies 69 = .ok (.i2l, 1) := by decide +kernel
theorem dX11_multiplies_70 : decode cX11_multiplies 70 = .ok (.lstore 8, 2) := by decide +kernel
theorem dX11_multiplies_72 : decode cX11_multiplies 72 = .ok (.iconst 0, 1) := by decide +kernel
theorem dX11_multiplies_73 : decode cX11_multiplies 73 = .ok (.istore 10, 2) := by decide +kernel
theorem dX11_multiplies_75 : decode cX11_multiplies 75 = .ok (.iload 10, 2) := by decide +kernel
theorem dX11_multiplies_77 : decode cX11_multiplies 77 = .ok (.aload_n 0, 1) := by decide +kernel
theorem dX11_multiplies_78 : decode cX11_multiplies 78 = .ok (.getfield 14, 3) := by decide +kernel
theorem dX11_multiplies_81 : decode cX11_multiplies 81 = .ok (.iload_n 3, 1) := by decide +kernel
theorem dX11_multiplies_82 : decode cX11_multiplies 82 = .ok (.iaload, 1) := by decide +kernel
theorem dX11_multiplies_83 : decode cX11_multiplies 83 = .ok (.if_icmp .ge 68, 3) := by decide +kernel
theorem dX11_multiplies_86 : decode cX11_multiplies 86 = .ok (.lload 8, 2) := by decide +kernel
theorem dX11_multiplies_88 : decode cX11_multiplies 88 = .ok (.aload_n 0, 1) := by decide +kernel
theorem dX11_multiplies_89 : decode cX11_multiplies 89 = .ok (.iload_n 3, 1) := by decide +kernel
theorem dX11_multiplies_90 : decode cX11_multiplies 90 = .ok (.iload 10, 2) := by decide +kernel
theorem dX11_multiplies_92 : decode cX11_multiplies 92 = .ok (.invokevirtual 59, 3) := by decide +kernel
theorem dX11_multiplies_95 : decode cX11_multiplies 95 = .ok (.i2l, 1) := by decide +kernel
theorem dX11_multiplies_96 : decode cX11_multiplies 96 = .ok (.lmul, 1) := by decide +kernel
theorem dX11_multiplies_97 : decode cX11_multiplies 97 = .ok (.aload_n 0, 1) := by decide +kernel
theorem dX11_multiplies_98 : decode cX11_multiplies 98 = .ok (.iload_n 1, 1) := by decide +kernel
theorem dX11_multiplies_99 : decode cX11_multiplies 99 = .ok (.iload 5, 2) := by decide +kernel
theorem dX11_multiplies_101 : decode cX11_multiplies 101 = .ok (.iload 10, 2) := by decide +kernel
theorem dX11_multiplies_103 : decode cX11_multiplies 103 = .ok (.iadd, 1) := by decide +kernel
theorem dX11_multiplies_104 : decode cX11_multiplies 104 = .ok (.invokevirtual 59, 3) := by decide +kernel
theorem dX11_multiplies_107 : decode cX11_multiplies 107 = .ok (.i2l, 1) := by decide +kernel
theorem dX11_multiplies_108 : decode cX11_multiplies 108 = .ok (.ladd, 1) := by decide +kernel
theorem dX11_multiplies_109 : decode cX11_multiplies 109 = .ok (.lload 6, 2) := by decide +kernel
theorem dX11_multiplies_111 : decode cX11_multiplies 111 = .ok (.ladd, 1) := by decide +kernel
theorem dX11_multiplies_112 : decode cX11_multiplies 112 = .ok (.lstore 11, 2) := by decide +kernel
theorem dX11_multiplies_114 : decode cX11_multiplies 114 = .ok (.aload_n 0, 1) := by decide +kernel
theorem dX11_multiplies_115 : decode cX11_multiplies 115 = .ok (.getfield 8, 3) := by decide +kernel
theorem dX11_multiplies_118 : decode cX11_multiplies 118 = .ok (.sipush 200, 3) := by decide +kernel
theorem dX11_multiplies_121 : decode cX11_multiplies 121 = .ok (.iload_n 1, 1) := by decide +kernel
theorem dX11_multiplies_122 : decode cX11_multiplies 122 = .ok (.imul, 1) := by decide +kernel
theorem dX11_multiplies_123 : decode cX11_multiplies 123 = .ok (.iload 5, 2) := by decide +kernel
theorem dX11_multiplies_125 : decode cX11_multiplies 125 = .ok (.iadd, 1) := by decide +kernel
theorem dX11_multiplies_126 : decode cX11_multiplies 126 = .ok (.iload 10, 2) := by decide +kernel
theorem dX11_multiplies_128 : decode cX11_multiplies 128 = .ok (.iadd, 1) := by decide +kernel
theorem dX11_multiplies_129 : decode cX11_multiplies 129 = .ok (.lload 11, 2) := by decide +kernel
theorem dX11_multiplies_131 : decode cX11_multiplies 131 = .ok (.ldc2_w 57, 3) := by decide +kernel
theorem dX11_multiplies_134 : decode cX11_multiplies 134 = .ok (.lrem, 1) := by decide +kernel
theorem dX11_multiplies_135 : decode cX11_multiplies 135 = .ok (.l2i, 1) := by decide +kernel
theorem dX11_multiplies_136 : decode cX11_multiplies 136 = .ok (.iastore, 1) := by decide +kernel
theorem dX11_multiplies_137 : decode cX11_multiplies 137 = .ok (.lload 11, 2) := by decide +kernel
theorem dX11_multiplies_139 : decode cX11_multiplies 139 = .ok (.ldc2_w 57, 3) := by decide +kernel
theorem dX11_multiplies_142 : decode cX11_multiplies 142 = .ok (.ldiv, 1) := by decide +kernel
theorem dX11_multiplies_143 : decode cX11_multiplies 143 = .ok (.lstore 6, 2) := by decide +kernel
theorem dX11_multiplies_145 : decode cX11_multiplies 145 = .ok (.iinc 10 1, 3) := by decide +kernel
theorem dX11_multiplies_148 : decode cX11_multiplies 148 = .ok (.goto (-73), 3) := by decide +kernel
theorem dX11_multiplies_151 : decode cX11_multiplies 151 = .ok (.aload_n 0, 1) := by decide +kernel
theorem dX11_multiplies_152 : decode cX11_multiplies 152 = .ok (.getfield 8, 3) := by decide +kernel
theorem dX11_multiplies_155 : decode cX11_multiplies 155 = .ok (.sipush 200, 3) := by decide +kernel
theorem dX11_multiplies_158 : decode cX11_multiplies 158 = .ok (.iload_n 1, 1) := by decide +kernel
theorem dX11_multiplies_159 : decode cX11_multiplies 159 = .ok (.imul, 1) := by decide +kernel
theorem dX11_multiplies_160 : decode cX11_multiplies 160 = .ok (.iload 5, 2) := by decide +kernel
theorem dX11_multiplies_162 : decode cX11_multiplies 162 = .ok (.iadd, 1) := by decide +kernel
theorem dX11_multiplies_163 : decode cX11_multiplies 163 = .ok (.aload_n 0, 1) := by decide +kernel
theorem dX11_multiplies_164 : decode cX11_multiplies 164 = .ok (.getfield 14, 3) := by decide +kernel
theorem dX11_multiplies_167 : decode cX11_multiplies 167 = .ok (.iload_n 3, 1) := by decide +kernel
theorem dX11_multiplies_168 : decode cX11_multiplies 168 = .ok (.iaload, 1) := by decide +kernel
theorem dX11_multiplies_169 : decode cX11_multiplies 169 = .ok (.iadd, 1) := by decide +kernel
theorem dX11_multiplies_170 : decode cX11_multiplies 170 = .ok (.lload 6, 2) := by decide +kernel
theorem dX11_multiplies_172 : decode cX11_multiplies 172 = .ok (.l2i, 1) := by decide +kernel
theorem dX11_multiplies_173 : decode cX11_multiplies 173 = .ok (.iastore, 1) := by decide +kernel
theorem dX11_multiplies_174 : decode cX11_multiplies 174 = .ok (.iinc 5 1, 3) := by decide +kernel
theorem dX11_multiplies_177 : decode cX11_multiplies 177 = .ok (.goto (-129), 3) := by decide +kernel
theorem dX11_multiplies_180 : decode cX11_multiplies 180 = .ok (.aload_n 0, 1) := by decide +kernel
theorem dX11_multiplies_181 : decode cX11_multiplies 181 = .ok (.getfield 17, 3) := by decide +kernel
theorem dX11_multiplies_184 : decode cX11_multiplies 184 = .ok (.iload_n 1, 1) := by decide +kernel
theorem dX11_multiplies_185 : decode cX11_multiplies 185 = .ok (.aload_n 0, 1) := by decide +kernel
theorem dX11_multiplies_186 : decode cX11_multiplies 186 = .ok (.getfield 17, 3) := by decide +kernel
theorem dX11_multiplies_189 : decode cX11_multiplies 189 = .ok (.iload_n 2, 1) := by decide +kernel
theorem dX11_multiplies_190 : decode cX11_multiplies 190 = .ok (.iaload, 1) := by decide +kernel
theorem dX11_multiplies_191 : decode cX11_multiplies 191 = .ok (.aload_n 0, 1) := by decide +kernel
theorem dX11_multiplies_192 : decode cX11_multiplies 192 = .ok (.getfield 17, 3) := by decide +kernel
theorem dX11_multiplies_195 : decode cX11_multiplies 195 = .ok (.iload_n 3, 1) := by decide +kernel
theorem dX11_multiplies_196 : decode cX11_multiplies 196 = .ok (.iaload, 1) := by decide +kernel
theorem dX11_multiplies_197 : decode cX11_multiplies 197 = .ok (.imul, 1) := by decide +kernel
theorem dX11_multiplies_198 : decode cX11_multiplies 198 = .ok (.iastore, 1) := by decide +kernel
theorem dX11_multiplies_199 : decode cX11_multiplies 199 = .ok (.aload_n 0, 1) := by decide +kernel
theorem dX11_multiplies_200 : decode cX11_multiplies 200 = .ok (.iload_n 1, 1) := by decide +kernel
theorem dX11_multiplies_201 : decode cX11_multiplies 201 = .ok (.iload 4, 2) := by decide +kernel
theorem dX11_multiplies_203 : decode cX11_multiplies 203 = .ok (.invokevirtual 68, 3) := by decide +kernel
theorem dX11_multiplies_206 : decode cX11_multiplies 206 = .ok (.return_, 1) := by decide +kernel
theorem dX11_parts_0 : decode cX11_parts 0 = .ok (.aload_n 0, 1) := by decide +kernel
theorem dX11_parts_1 : decode cX11_parts 1 = .ok (.iload_n 3, 1) := by decide +kernel
theorem dX11_parts_2 : decode cX11_parts 2 = .ok (.iload 4, 2) := by decide +kernel
theorem dX11_parts_4 : decode cX11_parts 4 = .ok (.invokevirtual 71, 3) := by decide +kernel
theorem dX11_parts_7 : decode cX11_parts 7 = .ok (.ifCond .ge 16, 3) := by decide +kernel
theorem dX11_parts_10 : decode cX11_parts 10 = .ok (.aload_n 0, 1) := by decide +kernel
theorem dX11_parts_11 : decode cX11_parts 11 = .ok (.iload_n 2, 1) := by decide +kernel
theorem dX11_parts_12 : decode cX11_parts 12 = .ok (.iload_n 3, 1) := by decide +kernel
theorem dX11_parts_13 : decode cX11_parts 13 = .ok (.invokevirtual 63, 3) := by decide +kernel
theorem dX11_parts_16 : decode cX11_parts 16 = .ok (.aload_n 0, 1) := by decide +kernel
theorem dX11_parts_17 : decode cX11_parts 17 = .ok (.iload_n 1, 1) := by decide +kernel
theorem dX11_parts_18 : decode cX11_parts 18 = .ok (.lconst 0, 1) := by decide +kernel
theorem dX11_parts_19 : decode cX11_parts 19 = .ok (.invokevirtual 74, 3) := by decide +kernel
theorem dX11_parts_22 : decode cX11_parts 22 = .ok (.return_, 1) := by decide +kernel
theorem dX11_parts_23 : decode cX11_parts 23 = .ok (.aload_n 0, 1) := by decide +kernel
theorem dX11_parts_24 : decode cX11_parts 24 = .ok (.getfield 14, 3) := by decide +kernel
theorem dX11_parts_27 : decode cX11_parts 27 = .ok (.iload 4, 2) := by decide +kernel
theorem dX11_parts_29 : decode cX11_parts 29 = .ok (.iaload, 1) := by decide +kernel
theorem dX11_parts_30 : decode cX11_parts 30 = .ok (.istore 5, 2) := by decide +kernel
theorem dX11_parts_32 : decode cX11_parts 32 = .ok (.aload_n 0, 1) := by decide +kernel
theorem dX11_parts_33 : decode cX11_parts 33 = .ok (.getfield 14, 3) := by decide +kernel
theorem dX11_parts_36 : decode cX11_parts 36 = .ok (.iload_n 3, 1) := by decide +kernel
theorem dX11_parts_37 : decode cX11_parts 37 = .ok (.iaload, 1) := by decide +kernel
theorem dX11_parts_38 : decode cX11_parts 38 = .ok (.iload 5, 2) := by decide +kernel
theorem dX11_parts_40 : decode cX11_parts 40 = .ok (.isub, 1) := by decide +kernel
theorem dX11_parts_41 : decode cX11_parts 41 = .ok (.istore 6, 2) := by decide +kernel
theorem dX11_parts_43 : decode cX11_parts 43 = .ok (.ldc2_w 57, 3) := by decide +kernel
theorem dX11_parts_46 : decode cX11_parts 46 = .ok (.aload_n 0, 1) := by decide +kernel
theorem dX11_parts_47 : decode cX11_parts 47 = .ok (.iload 4, 2) := by decide +kernel
theorem dX11_parts_49 : decode cX11_parts 49 = .ok (.iload 5, 2) := by decide +kernel
theorem dX11_parts_51 : decode cX11_parts 51 = .ok (.iconst 1, 1) := by decide +kernel
theorem dX11_parts_52 : decode cX11_parts 52 = .ok (.isub, 1) := by decide +kernel
theorem dX11_parts_53 : decode cX11_parts 53 = .ok (.invokevirtual 59, 3) := by decide +kernel
theorem dX11_parts_56 : decode cX11_parts 56 = .ok (.i2l, 1) := by decide +kernel
theorem dX11_parts_57 : decode cX11_parts 57 = .ok (.lconst 1, 1) := by decide +kernel
theorem dX11_parts_58 : decode cX11_parts 58 = .ok (.ladd, 1) := by decide +kernel
theorem dX11_parts_59 : decode cX11_parts 59 = .ok (.ldiv, 1) := by decide +kernel
theorem dX11_parts_60 : decode cX11_parts 60 = .ok (.lstore 7, 2) := by decide +kernel
theorem dX11_parts_62 : decode cX11_parts 62 = .ok (.lconst 0, 1) := by decide +kernel
theorem dX11_parts_63 : decode cX11_parts 63 = .ok (.lstore 9, 2) := by decide +kernel
theorem dX11_parts_65 : decode cX11_parts 65 = .ok (.iconst 0, 1) := by decide +kernel
theorem dX11_parts_66 : decode cX11_parts 66 = .ok (.istore 11, 2) := by decide +kernel
theorem dX11_parts_68 : decode cX11_parts 68 = .ok (.iload 11, 2) := by decide +kernel
theorem dX11_parts_70 : decode cX11_parts 70 = .ok (.aload_n 0, 1) := by decide +kernel
theorem dX11_parts_71 : decode cX11_parts 71 = .ok (.getfield 14, 3) := by decide +kernel
theorem dX11_parts_74 : decode cX11_parts 74 = .ok (.iload_n 3, 1) := by decide +kernel
theorem dX11_parts_75 : decode cX11_parts 75 = .ok (.iaload, 1) := by decide +kernel
theorem dX11_parts_76 : decode cX11_parts 76 = .ok (.if_icmp .ge 46, 3) := by decide +kernel
theorem dX11_parts_79 : decode cX11_parts 79 = .ok (.aload_n 0, 1) := by decide +kernel
theorem dX11_parts_80 : decode cX11_parts 80 = .ok (.iload_n 3, 1) := by decide +kernel
theorem dX11_parts_81 : decode cX11_parts 81 = .ok (.iload 11, 2) := by decide +kernel
theorem dX11_parts_83 : decode cX11_parts 83 = .ok (.invokevirtual 59, 3) := by decide +kernel
theorem dX11_parts_86 : decode cX11_parts 86 = .ok (.i2l, 1) := by decide +kernel
theorem dX11_parts_87 : decode cX11_parts 87 = .ok (.lload 7, 2) := by decide +kernel
theorem dX11_parts_89 : decode cX11_parts 89 = .ok (.lmul, 1) := by decide +kernel
theorem dX11_parts_90 : decode cX11_parts 90 = .ok (.lload 9, 2) := by decide +kernel
theorem dX11_parts_92 : decode cX11_parts 92 = .ok (.ladd, 1) := by decide +kernel
theorem dX11_parts_93 : decode cX11_parts 93 = .ok (.lstore 12, 2) := by decide +kernel
theorem dX11_parts_95 : decode cX11_parts 95 = .ok (.aload_n 0, 1) := by decide +kernel
theorem dX11_parts_96 : decode cX11_parts 96 = .ok (.getfield 20, 3) := by decide +kernel
theorem dX11_parts_99 : decode cX11_parts 99 = .ok (.iload 11, 2) := by decide +kernel
theorem dX11_parts_101 : decode cX11_parts 101 = .ok (.lload 12, 2) := by decide +kernel
theorem dX11_parts_103 : decode cX11_parts 103 = .ok (.ldc2_w 57, 3) := by decide +kernel
theorem dX11_parts_106 : decode cX11_parts 106 = .ok (.lrem, 1) := by decide +kernel
theorem dX11_parts_107 : decode cX11_parts 107 = .ok (.lastore, 1) := by decide +kernel
theorem dX11_parts_108 : decode cX11_parts 108 = .ok (.lload 12, 2) := by decide +kernel
theorem dX11_parts_110 : decode cX11_parts 110 = .ok (.ldc2_w 57, 3) := by decide +kernel
theorem dX11_parts_113 : decode cX11_parts 113 = .ok (.ldiv, 1) := by decide +kernel
theorem dX11_parts_114 : decode cX11_parts 114 = .ok (.lstore 9, 2) := by decide +kernel
theorem dX11_parts_116 : decode cX11_parts 116 = .ok (.iinc 11 1, 3) := by decide +kernel
theorem dX11_parts_119 : decode cX11_parts 119 = .ok (.goto (-51), 3) := by decide +kernel
theorem dX11_parts_122 : decode cX11_parts 122 = .ok (.aload_n 0, 1) := by decide +kernel
theorem dX11_parts_123 : decode cX11_parts 123 = .ok (.getfield 20, 3) := by decide +kernel
theorem dX11_parts_126 : decode cX11_parts 126 = .ok (.aload_n 0, 1) := by decide +kernel
theorem dX11_parts_127 : decode cX11_parts 127 = .ok (.getfield 14, 3) := by decide +kernel
theorem dX11_parts_130 : decode cX11_parts 130 = .ok (.iload_n 3, 1) := by decide +kernel
theorem dX11_parts_131 : decode cX11_parts 131 = .ok (.iaload, 1) := by decide +kernel
theorem dX11_parts_132 : decode cX11_parts 132 = .ok (.lload 9, 2) := by decide +kernel
theorem dX11_parts_134 : decode cX11_parts 134 = .ok (.lastore, 1) := by decide +kernel
theorem dX11_parts_135 : decode cX11_parts 135 = .ok (.lconst 0, 1) := by decide +kernel
theorem dX11_parts_136 : decode cX11_parts 136 = .ok (.lstore 9, 2) := by decide +kernel
theorem dX11_parts_138 : decode cX11_parts 138 = .ok (.iconst 0, 1) := by decide +kernel
theorem dX11_parts_139 : decode cX11_parts 139 = .ok (.istore 11, 2) := by decide +kernel
theorem dX11_parts_141 : decode cX11_parts 141 = .ok (.iload 11, 2) := by decide +kernel
theorem dX11_parts_143 : decode cX11_parts 143 = .ok (.iload 5, 2) := by decide +kernel
theorem dX11_parts_145 : decode cX11_parts 145 = .ok (.if_icmp .ge 47, 3) := by decide +kernel
theorem dX11_parts_148 : decode cX11_parts 148 = .ok (.aload_n 0, 1) := by decide +kernel
theorem dX11_parts_149 : decode cX11_parts 149 = .ok (.iload 4, 2) := by decide +kernel
theorem dX11_parts_151 : decode cX11_parts 151 = .ok (.iload 11, 2) := by decide +kernel
theorem dX11_parts_153 : decode cX11_parts 153 = .ok (.invokevirtual 59, 3) := by decide +kernel
theorem dX11_parts_156 : decode cX11_parts 156 = .ok (.i2l, 1) := by decide +kernel
theorem dX11_parts_157 : decode cX11_parts 157 = .ok (.lload 7, 2) := by decide +kernel
theorem dX11_parts_159 : decode cX11_parts 159 = .ok (.lmul, 1) := by decide +kernel
theorem dX11_parts_160 : decode cX11_parts 160 = .ok (.lload 9, 2) := by decide +kernel
theorem dX11_parts_162 : decode cX11_parts 162 = .ok (.ladd, 1) := by decide +kernel
theorem dX11_parts_163 : decode cX11_parts 163 = .ok (.lstore 12, 2) := by decide +kernel
theorem dX11_parts_165 : decode cX11_parts 165 = .ok (.aload_n 0, 1) := by decide +kernel
theorem dX11_parts_166 : decode cX11_parts 166 = .ok (.getfield 24, 3) := by decide +kernel
theorem dX11_parts_169 : decode cX11_parts 169 = .ok (.iload 11, 2) := by decide +kernel
theorem dX11_parts_171 : decode cX11_parts 171 = .ok (.lload 12, 2) := by decide +kernel
theorem dX11_parts_173 : decode cX11_parts 173 = .ok (.ldc2_w 57, 3) := by decide +kernel
theorem dX11_parts_176 : decode cX11_parts 176 = .ok (.lrem, 1) := by decide +kernel
theorem dX11_parts_177 : decode cX11_parts 177 = .ok (.lastore, 1) := by decide +kernel
theorem dX11_parts_178 : decode cX11_parts 178 = .ok (.lload 12, 2) := by decide +kernel
theorem dX11_parts_180 : decode cX11_parts 180 = .ok (.ldc2_w 57, 3) := by decide +kernel
theorem dX11_parts_183 : decode cX11_parts 183 = .ok (.ldiv, 1) := by decide +kernel
theorem dX11_parts_184 : decode cX11_parts 184 = .ok (.lstore 9, 2) := by decide +kernel
theorem dX11_parts_186 : decode cX11_parts 186 = .ok (.iinc 11 1, 3) := by decide +kernel
theorem dX11_parts_189 : decode cX11_parts 189 = .ok (.goto (-48), 3) := by decide +kernel
theorem dX11_parts_192 : decode cX11_parts 192 = .ok (.iload 6, 2) := by decide +kernel
theorem dX11_parts_194 : decode cX11_parts 194 = .ok (.istore 11, 2) := by decide +kernel
theorem dX11_parts_196 : decode cX11_parts 196 = .ok (.iload 11, 2) := by decide +kernel
theorem dX11_parts_198 : decode cX11_parts 198 = .ok (.ifCond .lt 30, 3) := by decide +kernel
theorem dX11_parts_201 : decode cX11_parts 201 = .ok (.aload_n 0, 1) := by decide +kernel
theorem dX11_parts_202 : decode cX11_parts 202 = .ok (.getfield 8, 3) := by decide +kernel
theorem dX11_parts_205 : decode cX11_parts 205 = .ok (.sipush 200, 3) := by decide +kernel
theorem dX11_parts_208 : decode cX11_parts 208 = .ok (.iload_n 1, 1) := by decide +kernel
theorem dX11_parts_209 : decode cX11_parts 209 = .ok (.imul, 1) := by decide +kernel
theorem dX11_parts_210 : decode cX11_parts 210 = .ok (.iload 11, 2) := by decide +kernel
theorem dX11_parts_212 : decode cX11_parts 212 = .ok (.iadd, 1) := by decide +kernel
theorem dX11_parts_213 : decode cX11_parts 213 = .ok (.aload_n 0, 1) := by decide +kernel
theorem dX11_parts_214 : decode cX11_parts 214 = .ok (.iload 11, 2) := by decide +kernel
theorem dX11_parts_216 : decode cX11_parts 216 = .ok (.iload 5, 2) := by decide +kernel
theorem dX11_parts_218 : decode cX11_parts 218 = .ok (.invokevirtual 78, 3) := by decide +kernel
theorem dX11_parts_221 : decode cX11_parts 221 = .ok (.iastore, 1) := by decide +kernel
theorem dX11_parts_222 : decode cX11_parts 222 = .ok (.iinc 11 (-1), 3) := by decide +kernel
theorem dX11_parts_225 : decode cX11_parts 225 = .ok (.goto (-29), 3) := by decide +kernel
theorem dX11_parts_228 : decode cX11_parts 228 = .ok (.aload_n 0, 1) := by decide +kernel
theorem dX11_parts_229 : decode cX11_parts 229 = .ok (.getfield 17, 3) := by decide +kernel
theorem dX11_parts_232 : decode cX11_parts 232 = .ok (.iload_n 1, 1) := by decide +kernel
theorem dX11_parts_233 : decode cX11_parts 233 = .ok (.aload_n 0, 1) := by decide +kernel
theorem dX11_parts_234 : decode cX11_parts 234 = .ok (.getfield 17, 3) := by decide +kernel
theorem dX11_parts_237 : decode cX11_parts 237 = .ok (.iload_n 3, 1) := by decide +kernel
theorem dX11_parts_238 : decode cX11_parts 238 = .ok (.iaload, 1) := by decide +kernel
theorem dX11_parts_239 : decode cX11_parts 239 = .ok (.aload_n 0, 1) := by decide +kernel
theorem dX11_parts_240 : decode cX11_parts 240 = .ok (.getfield 17, 3) := by decide +kernel
theorem dX11_parts_243 : decode cX11_parts 243 = .ok (.iload 4, 2) := by decide +kernel
theorem dX11_parts_245 : decode cX11_parts 245 = .ok (.iaload, 1) := by decide +kernel
theorem dX11_parts_246 : decode cX11_parts 246 = .ok (.imul, 1) := by decide +kernel
theorem dX11_parts_247 : decode cX11_parts 247 = .ok (.iastore, 1) := by decide +kernel
theorem dX11_parts_248 : decode cX11_parts 248 = .ok (.aload_n 0, 1) := by decide +kernel
theorem dX11_parts_249 : decode cX11_parts 249 = .ok (.iload_n 1, 1) := by decide +kernel
theorem dX11_parts_250 : decode cX11_parts 250 = .ok (.iload 6, 2) := by decide +kernel
theorem dX11_parts_252 : decode cX11_parts 252 = .ok (.iconst 1, 1) := by decide +kernel
theorem dX11_parts_253 : decode cX11_parts 253 = .ok (.iadd, 1) := by decide +kernel
theorem dX11_parts_254 : decode cX11_parts 254 = .ok (.invokevirtual 68, 3) := by decide +kernel
theorem dX11_parts_257 : decode cX11_parts 257 = .ok (.lconst 0, 1) := by decide +kernel
theorem dX11_parts_258 : decode cX11_parts 258 = .ok (.lstore 9, 2) := by decide +kernel
theorem dX11_parts_260 : decode cX11_parts 260 = .ok (.iload 5, 2) := by decide +kernel
theorem dX11_parts_262 : decode cX11_parts 262 = .ok (.iconst 1, 1) := by decide +kernel
theorem dX11_parts_263 : decode cX11_parts 263 = .ok (.isub, 1) := by decide +kernel
theorem dX11_parts_264 : decode cX11_parts 264 = .ok (.istore 11, 2) := by decide +kernel
theorem dX11_parts_266 : decode cX11_parts 266 = .ok (.iload 11, 2) := by decide +kernel
theorem dX11_parts_268 : decode cX11_parts 268 = .ok (.ifCond .lt 51, 3) := by decide +kernel
theorem dX11_parts_271 : decode cX11_parts 271 = .ok (.aload_n 0, 1) := by decide +kernel
theorem dX11_parts_272 : decode cX11_parts 272 = .ok (.getfield 20, 3) := by decide +kernel
theorem dX11_parts_275 : decode cX11_parts 275 = .ok (.iload 11, 2) := by decide +kernel
theorem dX11_parts_277 : decode cX11_parts 277 = .ok (.laload, 1) := by decide +kernel
theorem dX11_parts_278 : decode cX11_parts 278 = .ok (.lload 9, 2) := by decide +kernel
theorem dX11_parts_280 : decode cX11_parts 280 = .ok (.ldc2_w 57, 3) := by decide +kernel
theorem dX11_parts_283 : decode cX11_parts 283 = .ok (.lmul, 1) := by decide +kernel
theorem dX11_parts_284 : decode cX11_parts 284 = .ok (.ladd, 1) := by decide +kernel
theorem dX11_parts_285 : decode cX11_parts 285 = .ok (.lstore 12, 2) := by decide +kernel
theorem dX11_parts_287 : decode cX11_parts 287 = .ok (.aload_n 0, 1) := by decide +kernel
theorem dX11_parts_288 : decode cX11_parts 288 = .ok (.getfield 8, 3) := by decide +kernel
theorem dX11_parts_291 : decode cX11_parts 291 = .ok (.sipush 200, 3) := by decide +kernel
theorem dX11_parts_294 : decode cX11_parts 294 = .ok (.iload_n 2, 1) := by decide +kernel
theorem dX11_parts_295 : decode cX11_parts 295 = .ok (.imul, 1) := by decide +kernel
theorem dX11_parts_296 : decode cX11_parts 296 = .ok (.iload 11, 2) := by decide +kernel
theorem dX11_parts_298 : decode cX11_parts 298 = .ok (.iadd, 1) := by decide +kernel
theorem dX11_parts_299 : decode cX11_parts 299 = .ok (.lload 12, 2) := by decide +kernel
theorem dX11_parts_301 : decode cX11_parts 301 = .ok (.lload 7, 2) := by decide +kernel
theorem dX11_parts_303 : decode cX11_parts 303 = .ok (.ldiv, 1) := by decide +kernel
theorem dX11_parts_304 : decode cX11_parts 304 = .ok (.l2i, 1) := by decide +kernel
theorem dX11_parts_305 : decode cX11_parts 305 = .ok (.iastore, 1) := by decide +kernel
theorem dX11_parts_306 : decode cX11_parts 306 = .ok (.lload 12, 2) := by decide +kernel
theorem dX11_parts_308 : decode cX11_parts 308 = .ok (.lload 7, 2) := by decide +kernel
theorem dX11_parts_310 : decode cX11_parts 310 = .ok (.lrem, 1) := by decide +kernel
theorem dX11_parts_311 : decode cX11_parts 311 = .ok (.lstore 9, 2) := by decide +kernel
theorem dX11_parts_313 : decode cX11_parts 313 = .ok (.iinc 11 (-1), 3) := by decide +kernel
theorem dX11_parts_316 : decode cX11_parts 316 = .ok (.goto (-50), 3) := by decide +kernel
theorem dX11_parts_319 : decode cX11_parts 319 = .ok (.aload_n 0, 1) := by decide +kernel
theorem dX11_parts_320 : decode cX11_parts 320 = .ok (.getfield 17, 3) := by decide +kernel
theorem dX11_parts_323 : decode cX11_parts 323 = .ok (.iload_n 2, 1) := by decide +kernel
theorem dX11_parts_324 : decode cX11_parts 324 = .ok (.aload_n 0, 1) := by decide +kernel
theorem dX11_parts_325 : decode cX11_parts 325 = .ok (.getfield 17, 3) := by decide +kernel
theorem dX11_parts_328 : decode cX11_parts 328 = .ok (.iload_n 3, 1) := by decide +kernel
theorem dX11_parts_329 : decode cX11_parts 329 = .ok (.iaload, 1) := by decide +kernel
theorem dX11_parts_330 : decode cX11_parts 330 = .ok (.iastore, 1) := by decide +kernel
theorem dX11_parts_331 : decode cX11_parts 331 = .ok (.aload_n 0, 1) := by decide +kernel
theorem dX11_parts_332 : decode cX11_parts 332 = .ok (.iload_n 2, 1) := by decide +kernel
theorem dX11_parts_333 : decode cX11_parts 333 = .ok (.iload 5, 2) := by decide +kernel
theorem dX11_parts_335 : decode cX11_parts 335 = .ok (.invokevirtual 68, 3) := by decide +kernel
theorem dX11_parts_338 : decode cX11_parts 338 = .ok (.return_, 1) := by decide +kernel
theorem dX11_digit_0 : decode cX11_digit 0 = .ok (.aload_n 0, 1) := by decide +kernel
theorem dX11_digit_1 : decode cX11_digit 1 = .ok (.getfield 20, 3) := by decide +kernel
theorem dX11_digit_4 : decode cX11_digit 4 = .ok (.iload_n 1, 1) := by decide +kernel
theorem dX11_digit_5 : decode cX11_digit 5 = .ok (.iload_n 2, 1) := by decide +kernel
theorem dX11_digit_6 : decode cX11_digit 6 = .ok (.iadd, 1) := by decide +kernel
theorem dX11_digit_7 : decode cX11_digit 7 = .ok (.laload, 1) := by decide +kernel
theorem dX11_digit_8 : decode cX11_digit 8 = .ok (.ldc2_w 57, 3) := by decide +kernel
theorem dX11_digit_11 : decode cX11_digit 11 = .ok (.lmul, 1) := by decide +kernel
theorem dX11_digit_12 : decode cX11_digit 12 = .ok (.aload_n 0, 1) := by decide +kernel
theorem dX11_digit_13 : decode cX11_digit 13 = .ok (.getfield 20, 3) := by decide +kernel
theorem dX11_digit_16 : decode cX11_digit 16 = .ok (.iload_n 1, 1) := by decide +kernel
theorem dX11_digit_17 : decode cX11_digit 17 = .ok (.iload_n 2, 1) := by decide +kernel
theorem dX11_digit_18 : decode cX11_digit 18 = .ok (.iadd, 1) := by decide +kernel
theorem dX11_digit_19 : decode cX11_digit 19 = .ok (.iconst 1, 1) := by decide +kernel
theorem dX11_digit_20 : decode cX11_digit 20 = .ok (.isub, 1) := by decide +kernel
theorem dX11_digit_21 : decode cX11_digit 21 = .ok (.laload, 1) := by decide +kernel
theorem dX11_digit_22 : decode cX11_digit 22 = .ok (.ladd, 1) := by decide +kernel
theorem dX11_digit_23 : decode cX11_digit 23 = .ok (.lstore_n 3, 1) := by decide +kernel
theorem dX11_digit_24 : decode cX11_digit 24 = .ok (.lload_n 3, 1) := by decide +kernel
theorem dX11_digit_25 : decode cX11_digit 25 = .ok (.aload_n 0, 1) := by decide +kernel
theorem dX11_digit_26 : decode cX11_digit 26 = .ok (.getfield 24, 3) := by decide +kernel
theorem dX11_digit_29 : decode cX11_digit 29 = .ok (.iload_n 2, 1) := by decide +kernel
theorem dX11_digit_30 : decode cX11_digit 30 = .ok (.iconst 1, 1) := by decide +kernel
theorem dX11_digit_31 : decode cX11_digit 31 = .ok (.isub, 1) := by decide +kernel
theorem dX11_digit_32 : decode cX11_digit 32 = .ok (.laload, 1) := by decide +kernel
theorem dX11_digit_33 : decode cX11_digit 33 = .ok (.ldiv, 1) := by decide +kernel
theorem dX11_digit_34 : decode cX11_digit 34 = .ok (.lstore 5, 2) := by decide +kernel
theorem dX11_digit_36 : decode cX11_digit 36 = .ok (.lload_n 3, 1) := by decide +kernel
theorem dX11_digit_37 : decode cX11_digit 37 = .ok (.aload_n 0, 1) := by decide +kernel
theorem dX11_digit_38 : decode cX11_digit 38 = .ok (.getfield 24, 3) := by decide +kernel
theorem dX11_digit_41 : decode cX11_digit 41 = .ok (.iload_n 2, 1) := by decide +kernel
theorem dX11_digit_42 : decode cX11_digit 42 = .ok (.iconst 1, 1) := by decide +kernel
theorem dX11_digit_43 : decode cX11_digit 43 = .ok (.isub, 1) := by decide +kernel
theorem dX11_digit_44 : decode cX11_digit 44 = .ok (.laload, 1) := by decide +kernel
theorem dX11_digit_45 : decode cX11_digit 45 = .ok (.lrem, 1) := by decide +kernel
theorem dX11_digit_46 : decode cX11_digit 46 = .ok (.lstore 7, 2) := by decide +kernel
theorem dX11_digit_48 : decode cX11_digit 48 = .ok (.lload 5, 2) := by decide +kernel
theorem dX11_digit_50 : decode cX11_digit 50 = .ok (.ldc2_w 57, 3) := by decide +kernel
theorem dX11_digit_53 : decode cX11_digit 53 = .ok (.lcmp, 1) := by decide +kernel
theorem dX11_digit_54 : decode cX11_digit 54 = .ok (.ifCond .ge 40, 3) := by decide +kernel
theorem dX11_digit_57 : decode cX11_digit 57 = .ok (.iload_n 2, 1) := by decide +kernel
theorem dX11_digit_58 : decode cX11_digit 58 = .ok (.iconst 1, 1) := by decide +kernel
theorem dX11_digit_59 : decode cX11_digit 59 = .ok (.if_icmp .le 66, 3) := by decide +kernel
theorem dX11_digit_62 : decode cX11_digit 62 = .ok (.lload 5, 2) := by decide +kernel
theorem dX11_digit_64 : decode cX11_digit 64 = .ok (.aload_n 0, 1) := by decide +kernel
theorem dX11_digit_65 : decode cX11_digit 65 = .ok (.getfield 24, 3) := by decide +kernel
theorem dX11_digit_68 : decode cX11_digit 68 = .ok (.iload_n 2, 1) := by decide +kernel
theorem dX11_digit_69 : decode cX11_digit 69 = .ok (.iconst 2, 1) := by decide +kernel
theorem dX11_digit_70 : decode cX11_digit 70 = .ok (.isub, 1) := by decide +kernel
theorem dX11_digit_71 : decode cX11_digit 71 = .ok (.laload, 1) := by decide +kernel
theorem dX11_digit_72 : decode cX11_digit 72 = .ok (.lmul, 1) := by decide +kernel
theorem dX11_digit_73 : decode cX11_digit 73 = .ok (.lload 7, 2) := by decide +kernel
theorem dX11_digit_75 : decode cX11_digit 75 = .ok (.ldc2_w 57, 3) := by decide +kernel
theorem dX11_digit_78 : decode cX11_digit 78 = .ok (.lmul, 1) := by decide +kernel
theorem dX11_digit_79 : decode cX11_digit 79 = .ok (.aload_n 0, 1) := by decide +kernel
theorem dX11_digit_80 : decode cX11_digit 80 = .ok (.getfield 20, 3) := by decide +kernel
theorem dX11_digit_83 : decode cX11_digit 83 = .ok (.iload_n 1, 1) := by decide +kernel
theorem dX11_digit_84 : decode cX11_digit 84 = .ok (.iload_n 2, 1) := by decide +kernel
theorem dX11_digit_85 : decode cX11_digit 85 = .ok (.iadd, 1) := by decide +kernel
theorem dX11_digit_86 : decode cX11_digit 86 = .ok (.iconst 2, 1) := by decide +kernel
theorem dX11_digit_87 : decode cX11_digit 87 = .ok (.isub, 1) := by decide +kernel
theorem dX11_digit_88 : decode cX11_digit 88 = .ok (.laload, 1) := by decide +kernel
theorem dX11_digit_89 : decode cX11_digit 89 = .ok (.ladd, 1) := by decide +kernel
theorem dX11_digit_90 : decode cX11_digit 90 = .ok (.lcmp, 1) := by decide +kernel
theorem dX11_digit_91 : decode cX11_digit 91 = .ok (.ifCond .le 34, 3) := by decide +kernel
theorem dX11_digit_94 : decode cX11_digit 94 = .ok (.lload 5, 2) := by decide +kernel
theorem dX11_digit_96 : decode cX11_digit 96 = .ok (.lconst 1, 1) := by decide +kernel
theorem dX11_digit_97 : decode cX11_digit 97 = .ok (.lsub, 1) := by decide +kernel
theorem dX11_digit_98 : decode cX11_digit 98 = .ok (.lstore 5, 2) := by decide +kernel
theorem dX11_digit_100 : decode cX11_digit 100 = .ok (.lload 7, 2) := by decide +kernel
theorem dX11_digit_102 : decode cX11_digit 102 = .ok (.aload_n 0, 1) := by decide +kernel
theorem dX11_digit_103 : decode cX11_digit 103 = .ok (.getfield 24, 3) := by decide +kernel
theorem dX11_digit_106 : decode cX11_digit 106 = .ok (.iload_n 2, 1) := by decide +kernel
theorem dX11_digit_107 : decode cX11_digit 107 = .ok (.iconst 1, 1) := by decide +kernel
theorem dX11_digit_108 : decode cX11_digit 108 = .ok (.isub, 1) := by decide +kernel
theorem dX11_digit_109 : decode cX11_digit 109 = .ok (.laload, 1) := by decide +kernel
theorem dX11_digit_110 : decode cX11_digit 110 = .ok (.ladd, 1) := by decide +kernel
theorem dX11_digit_111 : decode cX11_digit 111 = .ok (.lstore 7, 2) := by decide +kernel
theorem dX11_digit_113 : decode cX11_digit 113 = .ok (.lload 7, 2) := by decide +kernel
theorem dX11_digit_115 : decode cX11_digit 115 = .ok (.ldc2_w 57, 3) := by decide +kernel
theorem dX11_digit_118 : decode cX11_digit 118 = .ok (.lcmp, 1) := by decide +kernel
theorem dX11_digit_119 : decode cX11_digit 119 = .ok (.ifCond .lt (-71), 3) := by decide +kernel
theorem dX11_digit_122 : decode cX11_digit 122 = .ok (.goto 3, 3) := by decide +kernel
theorem dX11_digit_125 : decode cX11_digit 125 = .ok (.lconst 0, 1) := by decide +kernel
theorem dX11_digit_126 : decode cX11_digit 126 = .ok (.lstore 9, 2) := by decide +kernel
theorem dX11_digit_128 : decode cX11_digit 128 = .ok (.iconst 0, 1) := by decide +kernel
theorem dX11_digit_129 : decode cX11_digit 129 = .ok (.istore 11, 2) := by decide +kernel
theorem dX11_digit_131 : decode cX11_digit 131 = .ok (.iload 11, 2) := by decide +kernel
theorem dX11_digit_133 : decode cX11_digit 133 = .ok (.iload_n 2, 1) := by decide +kernel
theorem dX11_digit_134 : decode cX11_digit 134 = .ok (.if_icmp .ge 72, 3) := by decide +kernel
theorem dX11_digit_137 : decode cX11_digit 137 = .ok (.aload_n 0, 1) := by decide +kernel
theorem dX11_digit_138 : decode cX11_digit 138 = .ok (.getfield 20, 3) := by decide +kernel
theorem dX11_digit_141 : decode cX11_digit 141 = .ok (.iload_n 1, 1) := by decide +kernel
theorem dX11_digit_142 : decode cX11_digit 142 = .ok (.iload 11, 2) := by decide +kernel
theorem dX11_digit_144 : decode cX11_digit 144 = .ok (.iadd, 1) := by decide +kernel
theorem dX11_digit_145 : decode cX11_digit 145 = .ok (.laload, 1) := by decide +kernel
theorem dX11_digit_146 : decode cX11_digit 146 = .ok (.lload 5, 2) := by decide +kernel
theorem dX11_digit_148 : decode cX11_digit 148 = .ok (.aload_n 0, 1) := by decide +kernel
theorem dX11_digit_149 : decode cX11_digit 149 = .ok (.getfield 24, 3) := by decide +kernel
theorem dX11_digit_152 : decode cX11_digit 152 = .ok (.iload 11, 2) := by decide +kernel
theorem dX11_digit_154 : decode cX11_digit 154 = .ok (.laload, 1) := by decide +kernel
theorem dX11_digit_155 : decode cX11_digit 155 = .ok (.lmul, 1) := by decide +kernel
theorem dX11_digit_156 : decode cX11_digit 156 = .ok (.lsub, 1) := by decide +kernel
theorem dX11_digit_157 : decode cX11_digit 157 = .ok (.lload 9, 2) := by decide +kernel
theorem dX11_digit_159 : decode cX11_digit 159 = .ok (.lsub, 1) := by decide +kernel
theorem dX11_digit_160 : decode cX11_digit 160 = .ok (.lstore 12, 2) := by decide +kernel
theorem dX11_digit_162 : decode cX11_digit 162 = .ok (.lload 12, 2) := by decide +kernel
theorem dX11_digit_164 : decode cX11_digit 164 = .ok (.ldc2_w 57, 3) := by decide +kernel
theorem dX11_digit_167 : decode cX11_digit 167 = .ok (.lrem, 1) := by decide +kernel
theorem dX11_digit_168 : decode cX11_digit 168 = .ok (.ldc2_w 57, 3) := by decide +kernel
theorem dX11_digit_171 : decode cX11_digit 171 = .ok (.ladd, 1) := by decide +kernel
theorem dX11_digit_172 : decode cX11_digit 172 = .ok (.ldc2_w 57, 3) := by decide +kernel
theorem dX11_digit_175 : decode cX11_digit 175 = .ok (.lrem, 1) := by decide +kernel
theorem dX11_digit_176 : decode cX11_digit 176 = .ok (.lstore 14, 2) := by decide +kernel
theorem dX11_digit_178 : decode cX11_digit 178 = .ok (.lload 14, 2) := by decide +kernel
theorem dX11_digit_180 : decode cX11_digit 180 = .ok (.lload 12, 2) := by decide +kernel
theorem dX11_digit_182 : decode cX11_digit 182 = .ok (.lsub, 1) := by decide +kernel
theorem dX11_digit_183 : decode cX11_digit 183 = .ok (.ldc2_w 57, 3) := by decide +kernel
theorem dX11_digit_186 : decode cX11_digit 186 = .ok (.ldiv, 1) := by decide +kernel
theorem dX11_digit_187 : decode cX11_digit 187 = .ok (.lstore 9, 2) := by decide +kernel
theorem dX11_digit_189 : decode cX11_digit 189 = .ok (.aload_n 0, 1) := by decide +kernel
theorem dX11_digit_190 : decode cX11_digit 190 = .ok (.getfield 20, 3) := by decide +kernel
theorem dX11_digit_193 : decode cX11_digit 193 = .ok (.iload_n 1, 1) := by decide +kernel
theorem dX11_digit_194 : decode cX11_digit 194 = .ok (.iload 11, 2) := by decide +kernel
theorem dX11_digit_196 : decode cX11_digit 196 = .ok (.iadd, 1) := by decide +kernel
theorem dX11_digit_197 : decode cX11_digit 197 = .ok (.lload 14, 2) := by decide +kernel
theorem dX11_digit_199 : decode cX11_digit 199 = .ok (.lastore, 1) := by decide +kernel
theorem dX11_digit_200 : decode cX11_digit 200 = .ok (.iinc 11 1, 3) := by decide +kernel
theorem dX11_digit_203 : decode cX11_digit 203 = .ok (.goto (-72), 3) := by decide +kernel
theorem dX11_digit_206 : decode cX11_digit 206 = .ok (.aload_n 0, 1) := by decide +kernel
theorem dX11_digit_207 : decode cX11_digit 207 = .ok (.getfield 20, 3) := by decide +kernel
theorem dX11_digit_210 : decode cX11_digit 210 = .ok (.iload_n 1, 1) := by decide +kernel
theorem dX11_digit_211 : decode cX11_digit 211 = .ok (.iload_n 2, 1) := by decide +kernel
theorem dX11_digit_212 : decode cX11_digit 212 = .ok (.iadd, 1) := by decide +kernel
theorem dX11_digit_213 : decode cX11_digit 213 = .ok (.laload, 1) := by decide +kernel
theorem dX11_digit_214 : decode cX11_digit 214 = .ok (.lload 9, 2) := by decide +kernel
theorem dX11_digit_216 : decode cX11_digit 216 = .ok (.lsub, 1) := by decide +kernel
theorem dX11_digit_217 : decode cX11_digit 217 = .ok (.lstore 11, 2) := by decide +kernel
theorem dX11_digit_219 : decode cX11_digit 219 = .ok (.aload_n 0, 1) := by decide +kernel
theorem dX11_digit_220 : decode cX11_digit 220 = .ok (.getfield 20, 3) := by decide +kernel
theorem dX11_digit_223 : decode cX11_digit 223 = .ok (.iload_n 1, 1) := by decide +kernel
theorem dX11_digit_224 : decode cX11_digit 224 = .ok (.iload_n 2, 1) := by decide +kernel
theorem dX11_digit_225 : decode cX11_digit 225 = .ok (.iadd, 1) := by decide +kernel
theorem dX11_digit_226 : decode cX11_digit 226 = .ok (.lload 11, 2) := by decide +kernel
theorem dX11_digit_228 : decode cX11_digit 228 = .ok (.lastore, 1) := by decide +kernel
theorem dX11_digit_229 : decode cX11_digit 229 = .ok (.lload 11, 2) := by decide +kernel
theorem dX11_digit_231 : decode cX11_digit 231 = .ok (.lconst 0, 1) := by decide +kernel
theorem dX11_digit_232 : decode cX11_digit 232 = .ok (.lcmp, 1) := by decide +kernel
theorem dX11_digit_233 : decode cX11_digit 233 = .ok (.ifCond .lt 7, 3) := by decide +kernel
theorem dX11_digit_236 : decode cX11_digit 236 = .ok (.lload 5, 2) := by decide +kernel
theorem dX11_digit_238 : decode cX11_digit 238 = .ok (.l2i, 1) := by decide +kernel
theorem dX11_digit_239 : decode cX11_digit 239 = .ok (.ireturn, 1) := by decide +kernel
theorem dX11_digit_240 : decode cX11_digit 240 = .ok (.lconst 0, 1) := by decide +kernel
theorem dX11_digit_241 : decode cX11_digit 241 = .ok (.lstore 13, 2) := by decide +kernel
theorem dX11_digit_243 : decode cX11_digit 243 = .ok (.iconst 0, 1) := by decide +kernel
theorem dX11_digit_244 : decode cX11_digit 244 = .ok (.istore 15, 2) := by decide +kernel
theorem dX11_digit_246 : decode cX11_digit 246 = .ok (.iload 15, 2) := by decide +kernel
theorem dX11_digit_248 : decode cX11_digit 248 = .ok (.iload_n 2, 1) := by decide +kernel
theorem dX11_digit_249 : decode cX11_digit 249 = .ok (.if_icmp .ge 54, 3) := by decide +kernel
theorem dX11_digit_252 : decode cX11_digit 252 = .ok (.aload_n 0, 1) := by decide +kernel
theorem dX11_digit_253 : decode cX11_digit 253 = .ok (.getfield 20, 3) := by decide +kernel
theorem dX11_digit_256 : decode cX11_digit 256 = .ok (.iload_n 1, 1) := by decide +kernel
theorem dX11_digit_257 : decode cX11_digit 257 = .ok (.iload 15, 2) := by decide +kernel
theorem dX11_digit_259 : decode cX11_digit 259 = .ok (.iadd, 1) := by decide +kernel
theorem dX11_digit_260 : decode cX11_digit 260 = .ok (.laload, 1) := by decide +kernel
theorem dX11_digit_261 : decode cX11_digit 261 = .ok (.aload_n 0, 1) := by decide +kernel
theorem dX11_digit_262 : decode cX11_digit 262 = .ok (.getfield 24, 3) := by decide +kernel
theorem dX11_digit_265 : decode cX11_digit 265 = .ok (.iload 15, 2) := by decide +kernel
theorem dX11_digit_267 : decode cX11_digit 267 = .ok (.laload, 1) := by decide +kernel
theorem dX11_digit_268 : decode cX11_digit 268 = .ok (.ladd, 1) := by decide +kernel
theorem dX11_digit_269 : decode cX11_digit 269 = .ok (.lload 13, 2) := by decide +kernel
theorem dX11_digit_271 : decode cX11_digit 271 = .ok (.ladd, 1) := by decide +kernel
theorem dX11_digit_272 : decode cX11_digit 272 = .ok (.lstore 16, 2) := by decide +kernel
theorem dX11_digit_274 : decode cX11_digit 274 = .ok (.aload_n 0, 1) := by decide +kernel
theorem dX11_digit_275 : decode cX11_digit 275 = .ok (.getfield 20, 3) := by decide +kernel
theorem dX11_digit_278 : decode cX11_digit 278 = .ok (.iload_n 1, 1) := by decide +kernel
theorem dX11_digit_279 : decode cX11_digit 279 = .ok (.iload 15, 2) := by decide +kernel
theorem dX11_digit_281 : decode cX11_digit 281 = .ok (.iadd, 1) := by decide +kernel
theorem dX11_digit_282 : decode cX11_digit 282 = .ok (.lload 16, 2) := by decide +kernel
theorem dX11_digit_284 : decode cX11_digit 284 = .ok (.ldc2_w 57, 3) := by decide +kernel
theorem dX11_digit_287 : decode cX11_digit 287 = .ok (.lrem, 1) := by decide +kernel
theorem dX11_digit_288 : decode cX11_digit 288 = .ok (.lastore, 1) := by decide +kernel
theorem dX11_digit_289 : decode cX11_digit 289 = .ok (.lload 16, 2) := by decide +kernel
theorem dX11_digit_291 : decode cX11_digit 291 = .ok (.ldc2_w 57, 3) := by decide +kernel
theorem dX11_digit_294 : decode cX11_digit 294 = .ok (.ldiv, 1) := by decide +kernel
theorem dX11_digit_295 : decode cX11_digit 295 = .ok (.lstore 13, 2) := by decide +kernel
theorem dX11_digit_297 : decode cX11_digit 297 = .ok (.iinc 15 1, 3) := by decide +kernel
theorem dX11_digit_300 : decode cX11_digit 300 = .ok (.goto (-54), 3) := by decide +kernel
theorem dX11_digit_303 : decode cX11_digit 303 = .ok (.aload_n 0, 1) := by decide +kernel
theorem dX11_digit_304 : decode cX11_digit 304 = .ok (.getfield 20, 3) := by decide +kernel
theorem dX11_digit_307 : decode cX11_digit 307 = .ok (.iload_n 1, 1) := by decide +kernel
theorem dX11_digit_308 : decode cX11_digit 308 = .ok (.iload_n 2, 1) := by decide +kernel
theorem dX11_digit_309 : decode cX11_digit 309 = .ok (.iadd, 1) := by decide +kernel
theorem dX11_digit_310 : decode cX11_digit 310 = .ok (.lload 11, 2) := by decide +kernel
theorem dX11_digit_312 : decode cX11_digit 312 = .ok (.lload 13, 2) := by decide +kernel
theorem dX11_digit_314 : decode cX11_digit 314 = .ok (.ladd, 1) := by decide +kernel
theorem dX11_digit_315 : decode cX11_digit 315 = .ok (.lastore, 1) := by decide +kernel
theorem dX11_digit_316 : decode cX11_digit 316 = .ok (.lload 5, 2) := by decide +kernel
theorem dX11_digit_318 : decode cX11_digit 318 = .ok (.lconst 1, 1) := by decide +kernel
theorem dX11_digit_319 : decode cX11_digit 319 = .ok (.lsub, 1) := by decide +kernel
theorem dX11_digit_320 : decode cX11_digit 320 = .ok (.l2i, 1) := by decide +kernel
theorem dX11_digit_321 : decode cX11_digit 321 = .ok (.ireturn, 1) := by decide +kernel
theorem dX11_longOf_0 : decode cX11_longOf 0 = .ok (.lconst 0, 1) := by decide +kernel
theorem dX11_longOf_1 : decode cX11_longOf 1 = .ok (.lstore_n 2, 1) := by decide +kernel
theorem dX11_longOf_2 : decode cX11_longOf 2 = .ok (.aload_n 0, 1) := by decide +kernel
theorem dX11_longOf_3 : decode cX11_longOf 3 = .ok (.getfield 14, 3) := by decide +kernel
theorem dX11_longOf_6 : decode cX11_longOf 6 = .ok (.iload_n 1, 1) := by decide +kernel
theorem dX11_longOf_7 : decode cX11_longOf 7 = .ok (.iaload, 1) := by decide +kernel
theorem dX11_longOf_8 : decode cX11_longOf 8 = .ok (.iconst 1, 1) := by decide +kernel
theorem dX11_longOf_9 : decode cX11_longOf 9 = .ok (.isub, 1) := by decide +kernel
theorem dX11_longOf_10 : decode cX11_longOf 10 = .ok (.istore 4, 2) := by decide +kernel
theorem dX11_longOf_12 : decode cX11_longOf 12 = .ok (.iload 4, 2) := by decide +kernel
theorem dX11_longOf_14 : decode cX11_longOf 14 = .ok (.ifCond .lt 24, 3) := by decide +kernel
theorem dX11_longOf_17 : decode cX11_longOf 17 = .ok (.lload_n 2, 1) := by decide +kernel
theorem dX11_longOf_18 : decode cX11_longOf 18 = .ok (.ldc2_w 57, 3) := by decide +kernel
theorem dX11_longOf_21 : decode cX11_longOf 21 = .ok (.lmul, 1) := by decide +kernel
theorem dX11_longOf_22 : decode cX11_longOf 22 = .ok (.aload_n 0, 1) := by decide +kernel
theorem dX11_longOf_23 : decode cX11_longOf 23 = .ok (.iload_n 1, 1) := by decide +kernel
theorem dX11_longOf_24 : decode cX11_longOf 24 = .ok (.iload 4, 2) := by decide +kernel
theorem dX11_longOf_26 : decode cX11_longOf 26 = .ok (.invokevirtual 59, 3) := by decide +kernel
theorem dX11_longOf_29 : decode cX11_longOf 29 = .ok (.i2l, 1) := by decide +kernel
theorem dX11_longOf_30 : decode cX11_longOf 30 = .ok (.ladd, 1) := by decide +kernel
theorem dX11_longOf_31 : decode cX11_longOf 31 = .ok (.lstore_n 2, 1) := by decide +kernel
theorem dX11_longOf_32 : decode cX11_longOf 32 = .ok (.iinc 4 (-1), 3) := by decide +kernel
theorem dX11_longOf_35 : decode cX11_longOf 35 = .ok (.goto (-23), 3) := by decide +kernel
theorem dX11_longOf_38 : decode cX11_longOf 38 = .ok (.aload_n 0, 1) := by decide +kernel
theorem dX11_longOf_39 : decode cX11_longOf 39 = .ok (.getfield 17, 3) := by decide +kernel
theorem dX11_longOf_42 : decode cX11_longOf 42 = .ok (.iload_n 1, 1) := by decide +kernel
theorem dX11_longOf_43 : decode cX11_longOf 43 = .ok (.iaload, 1) := by decide +kernel
theorem dX11_longOf_44 : decode cX11_longOf 44 = .ok (.i2l, 1) := by decide +kernel
theorem dX11_longOf_45 : decode cX11_longOf 45 = .ok (.lload_n 2, 1) := by decide +kernel
theorem dX11_longOf_46 : decode cX11_longOf 46 = .ok (.lmul, 1) := by decide +kernel
theorem dX11_longOf_47 : decode cX11_longOf 47 = .ok (.lreturn, 1) := by decide +kernel
theorem dX11_slot_0 : decode cX11_slot 0 = .ok (.bipush 20, 2) := by decide +kernel
theorem dX11_slot_2 : decode cX11_slot 2 = .ok (.bipush 9, 2) := by decide +kernel
theorem dX11_slot_4 : decode cX11_slot 4 = .ok (.iload_n 0, 1) := by decide +kernel
theorem dX11_slot_5 : decode cX11_slot 5 = .ok (.imul, 1) := by decide +kernel
theorem dX11_slot_6 : decode cX11_slot 6 = .ok (.iadd, 1) := by decide +kernel
theorem dX11_slot_7 : decode cX11_slot 7 = .ok (.iload_n 1, 1) := by decide +kernel
theorem dX11_slot_8 : decode cX11_slot 8 = .ok (.iadd, 1) := by decide +kernel
theorem dX11_slot_9 : decode cX11_slot 9 = .ok (.ireturn, 1) := by decide +kernel
theorem dX11_degreeOfRow_0 : decode cX11_degreeOfRow 0 = .ok (.iload_n 2, 1) := by decide +kernel
theorem dX11_degreeOfRow_1 : decode cX11_degreeOfRow 1 = .ok (.istore_n 3, 1) := by decide +kernel
theorem dX11_degreeOfRow_2 : decode cX11_degreeOfRow 2 = .ok (.iload_n 3, 1) := by decide +kernel
theorem dX11_degreeOfRow_3 : decode cX11_degreeOfRow 3 = .ok (.ifCond .lt 22, 3) := by decide +kernel
theorem dX11_degreeOfRow_6 : decode cX11_degreeOfRow 6 = .ok (.aload_n 0, 1) := by decide +kernel
theorem dX11_degreeOfRow_7 : decode cX11_degreeOfRow 7 = .ok (.getfield 17, 3) := by decide +kernel
theorem dX11_degreeOfRow_10 : decode cX11_degreeOfRow 10 = .ok (.iload_n 1, 1) := by decide +kernel
theorem dX11_degreeOfRow_11 : decode cX11_degreeOfRow 11 = .ok (.iload_n 3, 1) := by decide +kernel
theorem dX11_degreeOfRow_12 : decode cX11_degreeOfRow 12 = .ok (.invokestatic 81, 3) := by decide +kernel
theorem dX11_degreeOfRow_15 : decode cX11_degreeOfRow 15 = .ok (.iaload, 1) := by decide +kernel
theorem dX11_degreeOfRow_16 : decode cX11_degreeOfRow 16 = .ok (.ifCond .ne 9, 3) := by decide +kernel
theorem dX11_degreeOfRow_19 : decode cX11_degreeOfRow 19 = .ok (.iinc 3 (-1), 3) := by decide +kernel
theorem dX11_degreeOfRow_22 : decode cX11_degreeOfRow 22 = .ok (.goto (-20), 3) := by decide +kernel
theorem dX11_degreeOfRow_25 : decode cX11_degreeOfRow 25 = .ok (.iload_n 3, 1) := by decide +kernel
theorem dX11_degreeOfRow_26 : decode cX11_degreeOfRow 26 = .ok (.ireturn, 1) := by decide +kernel
theorem dX11_leadSign_0 : decode cX11_leadSign 0 = .ok (.aload_n 0, 1) := by decide +kernel
theorem dX11_leadSign_1 : decode cX11_leadSign 1 = .ok (.getfield 30, 3) := by decide +kernel
theorem dX11_leadSign_4 : decode cX11_leadSign 4 = .ok (.iload_n 1, 1) := by decide +kernel
theorem dX11_leadSign_5 : decode cX11_leadSign 5 = .ok (.iaload, 1) := by decide +kernel
theorem dX11_leadSign_6 : decode cX11_leadSign 6 = .ok (.aload_n 0, 1) := by decide +kernel
theorem dX11_leadSign_7 : decode cX11_leadSign 7 = .ok (.getfield 17, 3) := by decide +kernel
theorem dX11_leadSign_10 : decode cX11_leadSign 10 = .ok (.iload_n 1, 1) := by decide +kernel
theorem dX11_leadSign_11 : decode cX11_leadSign 11 = .ok (.aload_n 0, 1) := by decide +kernel
theorem dX11_leadSign_12 : decode cX11_leadSign 12 = .ok (.getfield 27, 3) := by decide +kernel
theorem dX11_leadSign_15 : decode cX11_leadSign 15 = .ok (.iload_n 1, 1) := by decide +kernel
theorem dX11_leadSign_16 : decode cX11_leadSign 16 = .ok (.iaload, 1) := by decide +kernel
theorem dX11_leadSign_17 : decode cX11_leadSign 17 = .ok (.invokestatic 81, 3) := by decide +kernel
theorem dX11_leadSign_20 : decode cX11_leadSign 20 = .ok (.iaload, 1) := by decide +kernel
theorem dX11_leadSign_21 : decode cX11_leadSign 21 = .ok (.imul, 1) := by decide +kernel
theorem dX11_leadSign_22 : decode cX11_leadSign 22 = .ok (.ireturn, 1) := by decide +kernel
theorem dX11_leaves_0 : decode cX11_leaves 0 = .ok (.iload_n 1, 1) := by decide +kernel
theorem dX11_leaves_1 : decode cX11_leaves 1 = .ok (.istore 4, 2) := by decide +kernel
theorem dX11_leaves_3 : decode cX11_leaves 3 = .ok (.iload_n 1, 1) := by decide +kernel
theorem dX11_leaves_4 : decode cX11_leaves 4 = .ok (.iconst 1, 1) := by decide +kernel
theorem dX11_leaves_5 : decode cX11_leaves 5 = .ok (.iadd, 1) := by decide +kernel
theorem dX11_leaves_6 : decode cX11_leaves 6 = .ok (.istore 5, 2) := by decide +kernel
theorem dX11_leaves_8 : decode cX11_leaves 8 = .ok (.iload_n 1, 1) := by decide +kernel
theorem dX11_leaves_9 : decode cX11_leaves 9 = .ok (.iconst 2, 1) := by decide +kernel
theorem dX11_leaves_10 : decode cX11_leaves 10 = .ok (.iadd, 1) := by decide +kernel
theorem dX11_leaves_11 : decode cX11_leaves 11 = .ok (.istore 6, 2) := by decide +kernel
theorem dX11_leaves_13 : decode cX11_leaves 13 = .ok (.aload_n 0, 1) := by decide +kernel
theorem dX11_leaves_14 : decode cX11_leaves 14 = .ok (.getfield 27, 3) := by decide +kernel
theorem dX11_leaves_17 : decode cX11_leaves 17 = .ok (.iload 4, 2) := by decide +kernel
theorem dX11_leaves_19 : decode cX11_leaves 19 = .ok (.iaload, 1) := by decide +kernel
theorem dX11_leaves_20 : decode cX11_leaves 20 = .ok (.aload_n 0, 1) := by decide +kernel
theorem dX11_leaves_21 : decode cX11_leaves 21 = .ok (.getfield 27, 3) := by decide +kernel
theorem dX11_leaves_24 : decode cX11_leaves 24 = .ok (.iload 5, 2) := by decide +kernel
theorem dX11_leaves_26 : decode cX11_leaves 26 = .ok (.iaload, 1) := by decide +kernel
theorem dX11_leaves_27 : decode cX11_leaves 27 = .ok (.isub, 1) := by decide +kernel
theorem dX11_leaves_28 : decode cX11_leaves 28 = .ok (.istore 7, 2) := by decide +kernel
theorem dX11_leaves_30 : decode cX11_leaves 30 = .ok (.iconst 0, 1) := by decide +kernel
theorem dX11_leaves_31 : decode cX11_leaves 31 = .ok (.istore 8, 2) := by decide +kernel
theorem dX11_leaves_33 : decode cX11_leaves 33 = .ok (.iload 8, 2) := by decide +kernel
theorem dX11_leaves_35 : decode cX11_leaves 35 = .ok (.bipush 9, 2) := by decide +kernel
theorem dX11_leaves_37 : decode cX11_leaves 37 = .ok (.if_icmp .ge 54, 3) := by decide +kernel
theorem dX11_leaves_40 : decode cX11_leaves 40 = .ok (.iload 8, 2) := by decide +kernel
theorem dX11_leaves_42 : decode cX11_leaves 42 = .ok (.aload_n 0, 1) := by decide +kernel
theorem dX11_leaves_43 : decode cX11_leaves 43 = .ok (.getfield 27, 3) := by decide +kernel
theorem dX11_leaves_46 : decode cX11_leaves 46 = .ok (.iload 4, 2) := by decide +kernel
theorem dX11_leaves_48 : decode cX11_leaves 48 = .ok (.iaload, 1) := by decide +kernel
theorem dX11_leaves_49 : decode cX11_leaves 49 = .ok (.if_icmp .gt 24, 3) := by decide +kernel
theorem dX11_leaves_52 : decode cX11_leaves 52 = .ok (.aload_n 0, 1) := by decide +kernel
theorem dX11_leaves_53 : decode cX11_leaves 53 = .ok (.iload 6, 2) := by decide +kernel
theorem dX11_leaves_55 : decode cX11_leaves 55 = .ok (.iload 8, 2) := by decide +kernel
theorem dX11_leaves_57 : decode cX11_leaves 57 = .ok (.invokestatic 81, 3) := by decide +kernel
theorem dX11_leaves_60 : decode cX11_leaves 60 = .ok (.iload 4, 2) := by decide +kernel
theorem dX11_leaves_62 : decode cX11_leaves 62 = .ok (.iload 8, 2) := by decide +kernel
theorem dX11_leaves_64 : decode cX11_leaves 64 = .ok (.invokestatic 81, 3) := by decide +kernel
theorem dX11_leaves_67 : decode cX11_leaves 67 = .ok (.invokevirtual 63, 3) := by decide +kernel
theorem dX11_leaves_70 : decode cX11_leaves 70 = .ok (.goto 15, 3) := by decide +kernel
theorem dX11_leaves_73 : decode cX11_leaves 73 = .ok (.aload_n 0, 1) := by decide +kernel
theorem dX11_leaves_74 : decode cX11_leaves 74 = .ok (.iload 6, 2) := by decide +kernel
theorem dX11_leaves_76 : decode cX11_leaves 76 = .ok (.iload 8, 2) := by decide +kernel
theorem dX11_leaves_78 : decode cX11_leaves 78 = .ok (.invokestatic 81, 3) := by decide +kernel
theorem dX11_leaves_81 : decode cX11_leaves 81 = .ok (.lconst 0, 1) := by decide +kernel
theorem dX11_leaves_82 : decode cX11_leaves 82 = .ok (.invokevirtual 74, 3) := by decide +kernel
theorem dX11_leaves_85 : decode cX11_leaves 85 = .ok (.iinc 8 1, 3) := by decide +kernel
theorem dX11_leaves_88 : decode cX11_leaves 88 = .ok (.goto (-55), 3) := by decide +kernel
theorem dX11_leaves_91 : decode cX11_leaves 91 = .ok (.iload 5, 2) := by decide +kernel
theorem dX11_leaves_93 : decode cX11_leaves 93 = .ok (.aload_n 0, 1) := by decide +kernel
theorem dX11_leaves_94 : decode cX11_leaves 94 = .ok (.getfield 27, 3) := by decide +kernel
theorem dX11_leaves_97 : decode cX11_leaves 97 = .ok (.iload 5, 2) := by decide +kernel
theorem dX11_leaves_99 : decode cX11_leaves 99 = .ok (.iaload, 1) := by decide +kernel
theorem dX11_leaves_100 : decode cX11_leaves 100 = .ok (.invokestatic 81, 3) := by decide +kernel
theorem dX11_leaves_103 : decode cX11_leaves 103 = .ok (.istore 8, 2) := by decide +kernel
theorem dX11_leaves_105 : decode cX11_leaves 105 = .ok (.aload_n 0, 1) := by decide +kernel
theorem dX11_leaves_106 : decode cX11_leaves 106 = .ok (.getfield 27, 3) := by decide +kernel
theorem dX11_leaves_109 : decode cX11_leaves 109 = .ok (.iload 4, 2) := by decide +kernel
theorem dX11_leaves_111 : decode cX11_leaves 111 = .ok (.iaload, 1) := by decide +kernel
theorem dX11_leaves_112 : decode cX11_leaves 112 = .ok (.istore 9, 2) := by decide +kernel
theorem dX11_leaves_114 : decode cX11_leaves 114 = .ok (.iload 9, 2) := by decide +kernel
theorem dX11_leaves_116 : decode cX11_leaves 116 = .ok (.aload_n 0, 1) := by decide +kernel
theorem dX11_leaves_117 : decode cX11_leaves 117 = .ok (.getfield 27, 3) := by decide +kernel
theorem dX11_leaves_120 : decode cX11_leaves 120 = .ok (.iload 5, 2) := by decide +kernel
theorem dX11_leaves_122 : decode cX11_leaves 122 = .ok (.iaload, 1) := by decide +kernel
theorem dX11_leaves_123 : decode cX11_leaves 123 = .ok (.if_icmp .lt 116, 3) := by decide +kernel
theorem dX11_leaves_126 : decode cX11_leaves 126 = .ok (.aload_n 0, 1) := by decide +kernel
theorem dX11_leaves_127 : decode cX11_leaves 127 = .ok (.iconst 0, 1) := by decide +kernel
theorem dX11_leaves_128 : decode cX11_leaves 128 = .ok (.iload 6, 2) := by decide +kernel
theorem dX11_leaves_130 : decode cX11_leaves 130 = .ok (.iload 9, 2) := by decide +kernel
theorem dX11_leaves_132 : decode cX11_leaves 132 = .ok (.invokestatic 81, 3) := by decide +kernel
theorem dX11_leaves_135 : decode cX11_leaves 135 = .ok (.invokevirtual 63, 3) := by decide +kernel
theorem dX11_leaves_138 : decode cX11_leaves 138 = .ok (.iconst 0, 1) := by decide +kernel
theorem dX11_leaves_139 : decode cX11_leaves 139 = .ok (.istore 10, 2) := by decide +kernel
theorem dX11_leaves_141 : decode cX11_leaves 141 = .ok (.iload 10, 2) := by decide +kernel
theorem dX11_leaves_143 : decode cX11_leaves 143 = .ok (.iload 9, 2) := by decide +kernel
theorem dX11_leaves_145 : decode cX11_leaves 145 = .ok (.if_icmp .ge 76, 3) := by decide +kernel
theorem dX11_leaves_148 : decode cX11_leaves 148 = .ok (.aload_n 0, 1) := by decide +kernel
theorem dX11_leaves_149 : decode cX11_leaves 149 = .ok (.iconst 1, 1) := by decide +kernel
theorem dX11_leaves_150 : decode cX11_leaves 150 = .ok (.iload 6, 2) := by decide +kernel
theorem dX11_leaves_152 : decode cX11_leaves 152 = .ok (.iload 10, 2) := by decide +kernel
theorem dX11_leaves_154 : decode cX11_leaves 154 = .ok (.invokestatic 81, 3) := by decide +kernel
theorem dX11_leaves_157 : decode cX11_leaves 157 = .ok (.iload 8, 2) := by decide +kernel
theorem dX11_leaves_159 : decode cX11_leaves 159 = .ok (.invokevirtual 84, 3) := by decide +kernel
theorem dX11_leaves_162 : decode cX11_leaves 162 = .ok (.iload 10, 2) := by decide +kernel
theorem dX11_leaves_164 : decode cX11_leaves 164 = .ok (.iload 9, 2) := by decide +kernel
theorem dX11_leaves_166 : decode cX11_leaves 166 = .ok (.aload_n 0, 1) := by decide +kernel
theorem dX11_leaves_167 : decode cX11_leaves 167 = .ok (.getfield 27, 3) := by decide +kernel
theorem dX11_leaves_170 : decode cX11_leaves 170 = .ok (.iload 5, 2) := by decide +kernel
theorem dX11_leaves_172 : decode cX11_leaves 172 = .ok (.iaload, 1) := by decide +kernel
theorem dX11_leaves_173 : decode cX11_leaves 173 = .ok (.isub, 1) := by decide +kernel
theorem dX11_leaves_174 : decode cX11_leaves 174 = .ok (.isub, 1) := by decide +kernel
theorem dX11_leaves_175 : decode cX11_leaves 175 = .ok (.istore 11, 2) := by decide +kernel
theorem dX11_leaves_177 : decode cX11_leaves 177 = .ok (.iload 11, 2) := by decide +kernel
theorem dX11_leaves_179 : decode cX11_leaves 179 = .ok (.ifCond .lt 24, 3) := by decide +kernel
theorem dX11_leaves_182 : decode cX11_leaves 182 = .ok (.aload_n 0, 1) := by decide +kernel
theorem dX11_leaves_183 : decode cX11_leaves 183 = .ok (.iconst 2, 1) := by decide +kernel
theorem dX11_leaves_184 : decode cX11_leaves 184 = .ok (.iload 5, 2) := by decide +kernel
theorem dX11_leaves_186 : decode cX11_leaves 186 = .ok (.iload 11, 2) := by decide +kernel
theorem dX11_leaves_188 : decode cX11_leaves 188 = .ok (.invokestatic 81, 3) := by decide +kernel
theorem dX11_leaves_191 : decode cX11_leaves 191 = .ok (.iconst 0, 1) := by decide +kernel
theorem dX11_leaves_192 : decode cX11_leaves 192 = .ok (.invokevirtual 84, 3) := by decide +kernel
theorem dX11_leaves_195 : decode cX11_leaves 195 = .ok (.aload_n 0, 1) := by decide +kernel
theorem dX11_leaves_196 : decode cX11_leaves 196 = .ok (.iconst 1, 1) := by decide +kernel
theorem dX11_leaves_197 : decode cX11_leaves 197 = .ok (.iconst 1, 1) := by decide +kernel
theorem dX11_leaves_198 : decode cX11_leaves 198 = .ok (.iconst 2, 1) := by decide +kernel
theorem dX11_leaves_199 : decode cX11_leaves 199 = .ok (.iconst (-1), 1) := by decide +kernel
theorem dX11_leaves_200 : decode cX11_leaves 200 = .ok (.invokevirtual 88, 3) := by decide +kernel
theorem dX11_leaves_203 : decode cX11_leaves 203 = .ok (.aload_n 0, 1) := by decide +kernel
theorem dX11_leaves_204 : decode cX11_leaves 204 = .ok (.iload 6, 2) := by decide +kernel
theorem dX11_leaves_206 : decode cX11_leaves 206 = .ok (.iload 10, 2) := by decide +kernel
theorem dX11_leaves_208 : decode cX11_leaves 208 = .ok (.invokestatic 81, 3) := by decide +kernel
theorem dX11_leaves_211 : decode cX11_leaves 211 = .ok (.iconst 1, 1) := by decide +kernel
theorem dX11_leaves_212 : decode cX11_leaves 212 = .ok (.invokevirtual 63, 3) := by decide +kernel
theorem dX11_leaves_215 : decode cX11_leaves 215 = .ok (.iinc 10 1, 3) := by decide +kernel
theorem dX11_leaves_218 : decode cX11_leaves 218 = .ok (.goto (-77), 3) := by decide +kernel
theorem dX11_leaves_221 : decode cX11_leaves 221 = .ok (.aload_n 0, 1) := by decide +kernel
theorem dX11_leaves_222 : decode cX11_leaves 222 = .ok (.iload 6, 2) := by decide +kernel
theorem dX11_leaves_224 : decode cX11_leaves 224 = .ok (.iload 9, 2) := by decide +kernel
theorem dX11_leaves_226 : decode cX11_leaves 226 = .ok (.invokestatic 81, 3) := by decide +kernel
theorem dX11_leaves_229 : decode cX11_leaves 229 = .ok (.lconst 0, 1) := by decide +kernel
theorem dX11_leaves_230 : decode cX11_leaves 230 = .ok (.invokevirtual 74, 3) := by decide +kernel
theorem dX11_leaves_233 : decode cX11_leaves 233 = .ok (.iinc 9 (-1), 3) := by decide +kernel
theorem dX11_leaves_236 : decode cX11_leaves 236 = .ok (.goto (-122), 3) := by decide +kernel
theorem dX11_leaves_239 : decode cX11_leaves 239 = .ok (.aload_n 0, 1) := by decide +kernel
theorem dX11_leaves_240 : decode cX11_leaves 240 = .ok (.iconst 3, 1) := by decide +kernel
theorem dX11_leaves_241 : decode cX11_leaves 241 = .ok (.iload_n 2, 1) := by decide +kernel
theorem dX11_leaves_242 : decode cX11_leaves 242 = .ok (.invokevirtual 63, 3) := by decide +kernel
theorem dX11_leaves_245 : decode cX11_leaves 245 = .ok (.iconst 0, 1) := by decide +kernel
theorem dX11_leaves_246 : decode cX11_leaves 246 = .ok (.istore 9, 2) := by decide +kernel
theorem dX11_leaves_248 : decode cX11_leaves 248 = .ok (.iload 9, 2) := by decide +kernel
theorem dX11_leaves_250 : decode cX11_leaves 250 = .ok (.iload 7, 2) := by decide +kernel
theorem dX11_leaves_252 : decode cX11_leaves 252 = .ok (.if_icmp .ge 22, 3) := by decide +kernel
theorem dX11_leaves_255 : decode cX11_leaves 255 = .ok (.aload_n 0, 1) := by decide +kernel
theorem dX11_leaves_256 : decode cX11_leaves 256 = .ok (.iconst 4, 1) := by decide +kernel
theorem dX11_leaves_257 : decode cX11_leaves 257 = .ok (.iconst 3, 1) := by decide +kernel
theorem dX11_leaves_258 : decode cX11_leaves 258 = .ok (.iload_n 3, 1) := by decide +kernel
theorem dX11_leaves_259 : decode cX11_leaves 259 = .ok (.invokevirtual 84, 3) := by decide +kernel
theorem dX11_leaves_262 : decode cX11_leaves 262 = .ok (.aload_n 0, 1) := by decide +kernel
theorem dX11_leaves_263 : decode cX11_leaves 263 = .ok (.iconst 3, 1) := by decide +kernel
theorem dX11_leaves_264 : decode cX11_leaves 264 = .ok (.iconst 4, 1) := by decide +kernel
theorem dX11_leaves_265 : decode cX11_leaves 265 = .ok (.invokevirtual 63, 3) := by decide +kernel
theorem dX11_leaves_268 : decode cX11_leaves 268 = .ok (.iinc 9 1, 3) := by decide +kernel
theorem dX11_leaves_271 : decode cX11_leaves 271 = .ok (.goto (-23), 3) := by decide +kernel
theorem dX11_leaves_274 : decode cX11_leaves 274 = .ok (.aload_n 0, 1) := by decide +kernel
theorem dX11_leaves_275 : decode cX11_leaves 275 = .ok (.getfield 17, 3) := by decide +kernel
theorem dX11_leaves_278 : decode cX11_leaves 278 = .ok (.iconst 3, 1) := by decide +kernel
theorem dX11_leaves_279 : decode cX11_leaves 279 = .ok (.iaload, 1) := by decide +kernel
theorem dX11_leaves_280 : decode cX11_leaves 280 = .ok (.istore 9, 2) := by decide +kernel
theorem dX11_leaves_282 : decode cX11_leaves 282 = .ok (.iconst 0, 1) := by decide +kernel
theorem dX11_leaves_283 : decode cX11_leaves 283 = .ok (.istore 10, 2) := by decide +kernel
theorem dX11_leaves_285 : decode cX11_leaves 285 = .ok (.iload 10, 2) := by decide +kernel
theorem dX11_leaves_287 : decode cX11_leaves 287 = .ok (.aload_n 0, 1) := by decide +kernel
theorem dX11_leaves_288 : decode cX11_leaves 288 = .ok (.getfield 27, 3) := by decide +kernel
theorem dX11_leaves_291 : decode cX11_leaves 291 = .ok (.iload 5, 2) := by decide +kernel
theorem dX11_leaves_293 : decode cX11_leaves 293 = .ok (.iaload, 1) := by decide +kernel
theorem dX11_leaves_294 : decode cX11_leaves 294 = .ok (.if_icmp .ge 35, 3) := by decide +kernel
theorem dX11_leaves_297 : decode cX11_leaves 297 = .ok (.aload_n 0, 1) := by decide +kernel
theorem dX11_leaves_298 : decode cX11_leaves 298 = .ok (.iconst 4, 1) := by decide +kernel
theorem dX11_leaves_299 : decode cX11_leaves 299 = .ok (.iconst 5, 1) := by decide +kernel
theorem dX11_leaves_300 : decode cX11_leaves 300 = .ok (.iload 6, 2) := by decide +kernel
theorem dX11_leaves_302 : decode cX11_leaves 302 = .ok (.iload 10, 2) := by decide +kernel
theorem dX11_leaves_304 : decode cX11_leaves 304 = .ok (.invokestatic 81, 3) := by decide +kernel
theorem dX11_leaves_307 : decode cX11_leaves 307 = .ok (.iconst 3, 1) := by decide +kernel
theorem dX11_leaves_308 : decode cX11_leaves 308 = .ok (.invokevirtual 92, 3) := by decide +kernel
theorem dX11_leaves_311 : decode cX11_leaves 311 = .ok (.aload_n 0, 1) := by decide +kernel
theorem dX11_leaves_312 : decode cX11_leaves 312 = .ok (.iload 6, 2) := by decide +kernel
theorem dX11_leaves_314 : decode cX11_leaves 314 = .ok (.iload 10, 2) := by decide +kernel
theorem dX11_leaves_316 : decode cX11_leaves 316 = .ok (.invokestatic 81, 3) := by decide +kernel
theorem dX11_leaves_319 : decode cX11_leaves 319 = .ok (.iconst 4, 1) := by decide +kernel
theorem dX11_leaves_320 : decode cX11_leaves 320 = .ok (.invokevirtual 63, 3) := by decide +kernel
theorem dX11_leaves_323 : decode cX11_leaves 323 = .ok (.iinc 10 1, 3) := by decide +kernel
theorem dX11_leaves_326 : decode cX11_leaves 326 = .ok (.goto (-41), 3) := by decide +kernel
theorem dX11_leaves_329 : decode cX11_leaves 329 = .ok (.aload_n 0, 1) := by decide +kernel
theorem dX11_leaves_330 : decode cX11_leaves 330 = .ok (.getfield 27, 3) := by decide +kernel
theorem dX11_leaves_333 : decode cX11_leaves 333 = .ok (.iload 6, 2) := by decide +kernel
theorem dX11_leaves_335 : decode cX11_leaves 335 = .ok (.aload_n 0, 1) := by decide +kernel
theorem dX11_leaves_336 : decode cX11_leaves 336 = .ok (.iload 6, 2) := by decide +kernel
theorem dX11_leaves_338 : decode cX11_leaves 338 = .ok (.aload_n 0, 1) := by decide +kernel
theorem dX11_leaves_339 : decode cX11_leaves 339 = .ok (.getfield 27, 3) := by decide +kernel
theorem dX11_leaves_342 : decode cX11_leaves 342 = .ok (.iload 5, 2) := by decide +kernel
theorem dX11_leaves_344 : decode cX11_leaves 344 = .ok (.iaload, 1) := by decide +kernel
theorem dX11_leaves_345 : decode cX11_leaves 345 = .ok (.iconst 1, 1) := by decide +kernel
theorem dX11_leaves_346 : decode cX11_leaves 346 = .ok (.isub, 1) := by decide +kernel
theorem dX11_leaves_347 : decode cX11_leaves 347 = .ok (.invokevirtual 95, 3) := by decide +kernel
theorem dX11_leaves_350 : decode cX11_leaves 350 = .ok (.iastore, 1) := by decide +kernel
theorem dX11_leaves_351 : decode cX11_leaves 351 = .ok (.iload 7, 2) := by decide +kernel
theorem dX11_leaves_353 : decode cX11_leaves 353 = .ok (.iconst 2, 1) := by decide +kernel
theorem dX11_leaves_354 : decode cX11_leaves 354 = .ok (.irem, 1) := by decide +kernel
theorem dX11_leaves_355 : decode cX11_leaves 355 = .ok (.ifCond .ne 13, 3) := by decide +kernel
theorem dX11_leaves_358 : decode cX11_leaves 358 = .ok (.aload_n 0, 1) := by decide +kernel
theorem dX11_leaves_359 : decode cX11_leaves 359 = .ok (.getfield 17, 3) := by decide +kernel
theorem dX11_leaves_362 : decode cX11_leaves 362 = .ok (.iload 8, 2) := by decide +kernel
theorem dX11_leaves_364 : decode cX11_leaves 364 = .ok (.iaload, 1) := by decide +kernel
theorem dX11_leaves_365 : decode cX11_leaves 365 = .ok (.goto 4, 3) := by decide +kernel
theorem dX11_leaves_368 : decode cX11_leaves 368 = .ok (.iconst 1, 1) := by decide +kernel
theorem dX11_leaves_369 : decode cX11_leaves 369 = .ok (.istore 10, 2) := by decide +kernel
theorem dX11_leaves_371 : decode cX11_leaves 371 = .ok (.aload_n 0, 1) := by decide +kernel
theorem dX11_leaves_372 : decode cX11_leaves 372 = .ok (.getfield 30, 3) := by decide +kernel
theorem dX11_leaves_375 : decode cX11_leaves 375 = .ok (.iload 6, 2) := by decide +kernel
theorem dX11_leaves_377 : decode cX11_leaves 377 = .ok (.iload 10, 2) := by decide +kernel
theorem dX11_leaves_379 : decode cX11_leaves 379 = .ok (.ineg, 1) := by decide +kernel
theorem dX11_leaves_380 : decode cX11_leaves 380 = .ok (.aload_n 0, 1) := by decide +kernel
theorem dX11_leaves_381 : decode cX11_leaves 381 = .ok (.getfield 30, 3) := by decide +kernel
theorem dX11_leaves_384 : decode cX11_leaves 384 = .ok (.iload 4, 2) := by decide +kernel
theorem dX11_leaves_386 : decode cX11_leaves 386 = .ok (.iaload, 1) := by decide +kernel
theorem dX11_leaves_387 : decode cX11_leaves 387 = .ok (.imul, 1) := by decide +kernel
theorem dX11_leaves_388 : decode cX11_leaves 388 = .ok (.iload 9, 2) := by decide +kernel
theorem dX11_leaves_390 : decode cX11_leaves 390 = .ok (.imul, 1) := by decide +kernel
theorem dX11_leaves_391 : decode cX11_leaves 391 = .ok (.iastore, 1) := by decide +kernel
theorem dX11_leaves_392 : decode cX11_leaves 392 = .ok (.aload_n 0, 1) := by decide +kernel
theorem dX11_leaves_393 : decode cX11_leaves 393 = .ok (.getfield 27, 3) := by decide +kernel
theorem dX11_leaves_396 : decode cX11_leaves 396 = .ok (.iload 6, 2) := by decide +kernel
theorem dX11_leaves_398 : decode cX11_leaves 398 = .ok (.iaload, 1) := by decide +kernel
theorem dX11_leaves_399 : decode cX11_leaves 399 = .ok (.ifCond .lt 7, 3) := by decide +kernel
theorem dX11_leaves_402 : decode cX11_leaves 402 = .ok (.iconst 1, 1) := by decide +kernel
theorem dX11_leaves_403 : decode cX11_leaves 403 = .ok (.goto 4, 3) := by decide +kernel
theorem dX11_leaves_406 : decode cX11_leaves 406 = .ok (.iconst 0, 1) := by decide +kernel
theorem dX11_leaves_407 : decode cX11_leaves 407 = .ok (.ireturn, 1) := by decide +kernel
theorem dX11_leavesAll_0 : decode cX11_leavesAll 0 = .ok (.aload_n 0, 1) := by decide +kernel
theorem dX11_leavesAll_1 : decode cX11_leavesAll 1 = .ok (.getfield 30, 3) := by decide +kernel
theorem dX11_leavesAll_4 : decode cX11_leavesAll 4 = .ok (.iload_n 1, 1) := by decide +kernel
theorem dX11_leavesAll_5 : decode cX11_leavesAll 5 = .ok (.iconst 1, 1) := by decide +kernel
theorem dX11_leavesAll_6 : decode cX11_leavesAll 6 = .ok (.iastore, 1) := by decide +kernel
theorem dX11_leavesAll_7 : decode cX11_leavesAll 7 = .ok (.aload_n 0, 1) := by decide +kernel
theorem dX11_leavesAll_8 : decode cX11_leavesAll 8 = .ok (.getfield 30, 3) := by decide +kernel
theorem dX11_leavesAll_11 : decode cX11_leavesAll 11 = .ok (.iload_n 1, 1) := by decide +kernel
theorem dX11_leavesAll_12 : decode cX11_leavesAll 12 = .ok (.iconst 1, 1) := by decide +kernel
theorem dX11_leavesAll_13 : decode cX11_leavesAll 13 = .ok (.iadd, 1) := by decide +kernel
theorem dX11_leavesAll_14 : decode cX11_leavesAll 14 = .ok (.iconst 1, 1) := by decide +kernel
theorem dX11_leavesAll_15 : decode cX11_leavesAll 15 = .ok (.iastore, 1) := by decide +kernel
theorem dX11_leavesAll_16 : decode cX11_leavesAll 16 = .ok (.aload_n 0, 1) := by decide +kernel
theorem dX11_leavesAll_17 : decode cX11_leavesAll 17 = .ok (.bipush 6, 2) := by decide +kernel
theorem dX11_leavesAll_19 : decode cX11_leavesAll 19 = .ok (.lconst 1, 1) := by decide +kernel
theorem dX11_leavesAll_20 : decode cX11_leavesAll 20 = .ok (.invokevirtual 74, 3) := by decide +kernel
theorem dX11_leavesAll_23 : decode cX11_leavesAll 23 = .ok (.aload_n 0, 1) := by decide +kernel
theorem dX11_leavesAll_24 : decode cX11_leavesAll 24 = .ok (.bipush 7, 2) := by decide +kernel
theorem dX11_leavesAll_26 : decode cX11_leavesAll 26 = .ok (.lconst 1, 1) := by decide +kernel
theorem dX11_leavesAll_27 : decode cX11_leavesAll 27 = .ok (.invokevirtual 74, 3) := by decide +kernel
theorem dX11_leavesAll_30 : decode cX11_leavesAll 30 = .ok (.iconst 2, 1) := by decide +kernel
theorem dX11_leavesAll_31 : decode cX11_leavesAll 31 = .ok (.istore_n 2, 1) := by decide +kernel
theorem dX11_leavesAll_32 : decode cX11_leavesAll 32 = .ok (.aload_n 0, 1) := by decide +kernel
theorem dX11_leavesAll_33 : decode cX11_leavesAll 33 = .ok (.iload_n 1, 1) := by decide +kernel
theorem dX11_leavesAll_34 : decode cX11_leavesAll 34 = .ok (.iload_n 2, 1) := by decide +kernel
theorem dX11_leavesAll_35 : decode cX11_leavesAll 35 = .ok (.iadd, 1) := by decide +kernel
theorem dX11_leavesAll_36 : decode cX11_leavesAll 36 = .ok (.iconst 2, 1) := by decide +kernel
theorem dX11_leavesAll_37 : decode cX11_leavesAll 37 = .ok (.isub, 1) := by decide +kernel
theorem dX11_leavesAll_38 : decode cX11_leavesAll 38 = .ok (.bipush 6, 2) := by decide +kernel
theorem dX11_leavesAll_40 : decode cX11_leavesAll 40 = .ok (.bipush 7, 2) := by decide +kernel
theorem dX11_leavesAll_42 : decode cX11_leavesAll 42 = .ok (.invokevirtual 98, 3) := by decide +kernel
theorem dX11_leavesAll_45 : decode cX11_leavesAll 45 = .ok (.ifCond .eq 54, 3) := by decide +kernel
theorem dX11_leavesAll_48 : decode cX11_leavesAll 48 = .ok (.iload_n 1, 1) := by decide +kernel
theorem dX11_leavesAll_49 : decode cX11_leavesAll 49 = .ok (.iload_n 2, 1) := by decide +kernel
theorem dX11_leavesAll_50 : decode cX11_leavesAll 50 = .ok (.iadd, 1) := by decide +kernel
theorem dX11_leavesAll_51 : decode cX11_leavesAll 51 = .ok (.iconst 1, 1) := by decide +kernel
theorem dX11_leavesAll_52 : decode cX11_leavesAll 52 = .ok (.isub, 1) := by decide +kernel
theorem dX11_leavesAll_53 : decode cX11_leavesAll 53 = .ok (.istore_n 3, 1) := by decide +kernel
theorem dX11_leavesAll_54 : decode cX11_leavesAll 54 = .ok (.aload_n 0, 1) := by decide +kernel
theorem dX11_leavesAll_55 : decode cX11_leavesAll 55 = .ok (.getfield 27, 3) := by decide +kernel
theorem dX11_leavesAll_58 : decode cX11_leavesAll 58 = .ok (.iload_n 3, 1) := by decide +kernel
theorem dX11_leavesAll_59 : decode cX11_leavesAll 59 = .ok (.iconst 1, 1) := by decide +kernel
theorem dX11_leavesAll_60 : decode cX11_leavesAll 60 = .ok (.isub, 1) := by decide +kernel
theorem dX11_leavesAll_61 : decode cX11_leavesAll 61 = .ok (.iaload, 1) := by decide +kernel
theorem dX11_leavesAll_62 : decode cX11_leavesAll 62 = .ok (.aload_n 0, 1) := by decide +kernel
theorem dX11_leavesAll_63 : decode cX11_leavesAll 63 = .ok (.getfield 27, 3) := by decide +kernel
theorem dX11_leavesAll_66 : decode cX11_leavesAll 66 = .ok (.iload_n 3, 1) := by decide +kernel
theorem dX11_leavesAll_67 : decode cX11_leavesAll 67 = .ok (.iaload, 1) := by decide +kernel
theorem dX11_leavesAll_68 : decode cX11_leavesAll 68 = .ok (.isub, 1) := by decide +kernel
theorem dX11_leavesAll_69 : decode cX11_leavesAll 69 = .ok (.istore 4, 2) := by decide +kernel
theorem dX11_leavesAll_71 : decode cX11_leavesAll 71 = .ok (.aload_n 0, 1) := by decide +kernel
theorem dX11_leavesAll_72 : decode cX11_leavesAll 72 = .ok (.bipush 6, 2) := by decide +kernel
theorem dX11_leavesAll_74 : decode cX11_leavesAll 74 = .ok (.iload_n 3, 1) := by decide +kernel
theorem dX11_leavesAll_75 : decode cX11_leavesAll 75 = .ok (.aload_n 0, 1) := by decide +kernel
theorem dX11_leavesAll_76 : decode cX11_leavesAll 76 = .ok (.getfield 27, 3) := by decide +kernel
theorem dX11_leavesAll_79 : decode cX11_leavesAll 79 = .ok (.iload_n 3, 1) := by decide +kernel
theorem dX11_leavesAll_80 : decode cX11_leavesAll 80 = .ok (.iaload, 1) := by decide +kernel
theorem dX11_leavesAll_81 : decode cX11_leavesAll 81 = .ok (.invokestatic 81, 3) := by decide +kernel
theorem dX11_leavesAll_84 : decode cX11_leavesAll 84 = .ok (.invokevirtual 63, 3) := by decide +kernel
theorem dX11_leavesAll_87 : decode cX11_leavesAll 87 = .ok (.aload_n 0, 1) := by decide +kernel
theorem dX11_leavesAll_88 : decode cX11_leavesAll 88 = .ok (.iload 4, 2) := by decide +kernel
theorem dX11_leavesAll_90 : decode cX11_leavesAll 90 = .ok (.invokevirtual 102, 3) := by decide +kernel
theorem dX11_leavesAll_93 : decode cX11_leavesAll 93 = .ok (.iinc 2 1, 3) := by decide +kernel
theorem dX11_leavesAll_96 : decode cX11_leavesAll 96 = .ok (.goto (-64), 3) := by decide +kernel
theorem dX11_leavesAll_99 : decode cX11_leavesAll 99 = .ok (.iload_n 2, 1) := by decide +kernel
theorem dX11_leavesAll_100 : decode cX11_leavesAll 100 = .ok (.ireturn, 1) := by decide +kernel
theorem dX11_powers_0 : decode cX11_powers 0 = .ok (.iload_n 1, 1) := by decide +kernel
theorem dX11_powers_1 : decode cX11_powers 1 = .ok (.ifCond .ne 4, 3) := by decide +kernel
theorem dX11_powers_4 : decode cX11_powers 4 = .ok (.return_, 1) := by decide +kernel
theorem dX11_powers_5 : decode cX11_powers 5 = .ok (.aload_n 0, 1) := by decide +kernel
theorem dX11_powers_6 : decode cX11_powers 6 = .ok (.bipush 8, 2) := by decide +kernel
theorem dX11_powers_8 : decode cX11_powers 8 = .ok (.bipush 6, 2) := by decide +kernel
theorem dX11_powers_10 : decode cX11_powers 10 = .ok (.invokevirtual 63, 3) := by decide +kernel
theorem dX11_powers_13 : decode cX11_powers 13 = .ok (.iconst 1, 1) := by decide +kernel
theorem dX11_powers_14 : decode cX11_powers 14 = .ok (.istore_n 2, 1) := by decide +kernel
theorem dX11_powers_15 : decode cX11_powers 15 = .ok (.iload_n 2, 1) := by decide +kernel
theorem dX11_powers_16 : decode cX11_powers 16 = .ok (.iload_n 1, 1) := by decide +kernel
theorem dX11_powers_17 : decode cX11_powers 17 = .ok (.if_icmp .ge 27, 3) := by decide +kernel
theorem dX11_powers_20 : decode cX11_powers 20 = .ok (.aload_n 0, 1) := by decide +kernel
theorem dX11_powers_21 : decode cX11_powers 21 = .ok (.bipush 9, 2) := by decide +kernel
theorem dX11_powers_23 : decode cX11_powers 23 = .ok (.bipush 8, 2) := by decide +kernel
theorem dX11_powers_25 : decode cX11_powers 25 = .ok (.bipush 6, 2) := by decide +kernel
theorem dX11_powers_27 : decode cX11_powers 27 = .ok (.invokevirtual 84, 3) := by decide +kernel
theorem dX11_powers_30 : decode cX11_powers 30 = .ok (.aload_n 0, 1) := by decide +kernel
theorem dX11_powers_31 : decode cX11_powers 31 = .ok (.bipush 8, 2) := by decide +kernel
theorem dX11_powers_33 : decode cX11_powers 33 = .ok (.bipush 9, 2) := by decide +kernel
theorem dX11_powers_35 : decode cX11_powers 35 = .ok (.invokevirtual 63, 3) := by decide +kernel
theorem dX11_powers_38 : decode cX11_powers 38 = .ok (.iinc 2 1, 3) := by decide +kernel
theorem dX11_powers_41 : decode cX11_powers 41 = .ok (.goto (-26), 3) := by decide +kernel
theorem dX11_powers_44 : decode cX11_powers 44 = .ok (.iconst 1, 1) := by decide +kernel
theorem dX11_powers_45 : decode cX11_powers 45 = .ok (.istore_n 2, 1) := by decide +kernel
theorem dX11_powers_46 : decode cX11_powers 46 = .ok (.iload_n 2, 1) := by decide +kernel
theorem dX11_powers_47 : decode cX11_powers 47 = .ok (.iload_n 1, 1) := by decide +kernel
theorem dX11_powers_48 : decode cX11_powers 48 = .ok (.if_icmp .ge 29, 3) := by decide +kernel
theorem dX11_powers_51 : decode cX11_powers 51 = .ok (.aload_n 0, 1) := by decide +kernel
theorem dX11_powers_52 : decode cX11_powers 52 = .ok (.bipush 9, 2) := by decide +kernel
theorem dX11_powers_54 : decode cX11_powers 54 = .ok (.bipush 10, 2) := by decide +kernel
theorem dX11_powers_56 : decode cX11_powers 56 = .ok (.bipush 8, 2) := by decide +kernel
theorem dX11_powers_58 : decode cX11_powers 58 = .ok (.bipush 7, 2) := by decide +kernel
theorem dX11_powers_60 : decode cX11_powers 60 = .ok (.invokevirtual 92, 3) := by decide +kernel
theorem dX11_powers_63 : decode cX11_powers 63 = .ok (.aload_n 0, 1) := by decide +kernel
theorem dX11_powers_64 : decode cX11_powers 64 = .ok (.bipush 8, 2) := by decide +kernel
theorem dX11_powers_66 : decode cX11_powers 66 = .ok (.bipush 9, 2) := by decide +kernel
theorem dX11_powers_68 : decode cX11_powers 68 = .ok (.invokevirtual 63, 3) := by decide +kernel
theorem dX11_powers_71 : decode cX11_powers 71 = .ok (.iinc 2 1, 3) := by decide +kernel
theorem dX11_powers_74 : decode cX11_powers 74 = .ok (.goto (-28), 3) := by decide +kernel
theorem dX11_powers_77 : decode cX11_powers 77 = .ok (.aload_n 0, 1) := by decide +kernel
theorem dX11_powers_78 : decode cX11_powers 78 = .ok (.bipush 7, 2) := by decide +kernel
theorem dX11_powers_80 : decode cX11_powers 80 = .ok (.bipush 8, 2) := by decide +kernel
theorem dX11_powers_82 : decode cX11_powers 82 = .ok (.invokevirtual 63, 3) := by decide +kernel
theorem dX11_powers_85 : decode cX11_powers 85 = .ok (.return_, 1) := by decide +kernel
theorem dX11_at_0 : decode cX11_at 0 = .ok (.aload_n 0, 1) := by decide +kernel
theorem dX11_at_1 : decode cX11_at 1 = .ok (.getfield 33, 3) := by decide +kernel
theorem dX11_at_4 : decode cX11_at 4 = .ok (.bipush 9, 2) := by decide +kernel
theorem dX11_at_6 : decode cX11_at 6 = .ok (.iload_n 1, 1) := by decide +kernel
theorem dX11_at_7 : decode cX11_at 7 = .ok (.imul, 1) := by decide +kernel
theorem dX11_at_8 : decode cX11_at 8 = .ok (.iload_n 2, 1) := by decide +kernel
theorem dX11_at_9 : decode cX11_at 9 = .ok (.iadd, 1) := by decide +kernel
theorem dX11_at_10 : decode cX11_at 10 = .ok (.laload, 1) := by decide +kernel
theorem dX11_at_11 : decode cX11_at 11 = .ok (.lreturn, 1) := by decide +kernel
theorem dX11_puts_0 : decode cX11_puts 0 = .ok (.aload_n 0, 1) := by decide +kernel
theorem dX11_puts_1 : decode cX11_puts 1 = .ok (.getfield 33, 3) := by decide +kernel
theorem dX11_puts_4 : decode cX11_puts 4 = .ok (.bipush 9, 2) := by decide +kernel
theorem dX11_puts_6 : decode cX11_puts 6 = .ok (.iload_n 1, 1) := by decide +kernel
theorem dX11_puts_7 : decode cX11_puts 7 = .ok (.imul, 1) := by decide +kernel
theorem dX11_puts_8 : decode cX11_puts 8 = .ok (.iload_n 2, 1) := by decide +kernel
theorem dX11_puts_9 : decode cX11_puts 9 = .ok (.iadd, 1) := by decide +kernel
theorem dX11_puts_10 : decode cX11_puts 10 = .ok (.lload_n 3, 1) := by decide +kernel
theorem dX11_puts_11 : decode cX11_puts 11 = .ok (.lastore, 1) := by decide +kernel
theorem dX11_puts_12 : decode cX11_puts 12 = .ok (.return_, 1) := by decide +kernel
theorem dX11_degreeOf_0 : decode cX11_degreeOf 0 = .ok (.bipush 8, 2) := by decide +kernel
theorem dX11_degreeOf_2 : decode cX11_degreeOf 2 = .ok (.istore_n 2, 1) := by decide +kernel
theorem dX11_degreeOf_3 : decode cX11_degreeOf 3 = .ok (.iload_n 2, 1) := by decide +kernel
theorem dX11_degreeOf_4 : decode cX11_degreeOf 4 = .ok (.ifCond .lt 20, 3) := by decide +kernel
theorem dX11_degreeOf_7 : decode cX11_degreeOf 7 = .ok (.aload_n 0, 1) := by decide +kernel
theorem dX11_degreeOf_8 : decode cX11_degreeOf 8 = .ok (.iload_n 1, 1) := by decide +kernel
theorem dX11_degreeOf_9 : decode cX11_degreeOf 9 = .ok (.iload_n 2, 1) := by decide +kernel
theorem dX11_degreeOf_10 : decode cX11_degreeOf 10 = .ok (.invokevirtual 106, 3) := by decide +kernel
theorem dX11_degreeOf_13 : decode cX11_degreeOf 13 = .ok (.lconst 0, 1) := by decide +kernel
theorem dX11_degreeOf_14 : decode cX11_degreeOf 14 = .ok (.lcmp, 1) := by decide +kernel
theorem dX11_degreeOf_15 : decode cX11_degreeOf 15 = .ok (.ifCond .ne 9, 3) := by decide +kernel
theorem dX11_degreeOf_18 : decode cX11_degreeOf 18 = .ok (.iinc 2 (-1), 3) := by decide +kernel
theorem dX11_degreeOf_21 : decode cX11_degreeOf 21 = .ok (.goto (-18), 3) := by decide +kernel
theorem dX11_degreeOf_24 : decode cX11_degreeOf 24 = .ok (.iload_n 2, 1) := by decide +kernel
theorem dX11_degreeOf_25 : decode cX11_degreeOf 25 = .ok (.ireturn, 1) := by decide +kernel
theorem dX11_takes_0 : decode cX11_takes 0 = .ok (.iconst 0, 1) := by decide +kernel
theorem dX11_takes_1 : decode cX11_takes 1 = .ok (.istore_n 3, 1) := by decide +kernel
theorem dX11_takes_2 : decode cX11_takes 2 = .ok (.iload_n 3, 1) := by decide +kernel
theorem dX11_takes_3 : decode cX11_takes 3 = .ok (.bipush 9, 2) := by decide +kernel
theorem dX11_takes_5 : decode cX11_takes 5 = .ok (.if_icmp .ge 24, 3) := by decide +kernel
theorem dX11_takes_8 : decode cX11_takes 8 = .ok (.aload_n 0, 1) := by decide +kernel
theorem dX11_takes_9 : decode cX11_takes 9 = .ok (.iload_n 1, 1) := by decide +kernel
theorem dX11_takes_10 : decode cX11_takes 10 = .ok (.iload_n 3, 1) := by decide +kernel
theorem dX11_takes_11 : decode cX11_takes 11 = .ok (.invokestatic 81, 3) := by decide +kernel
theorem dX11_takes_14 : decode cX11_takes 14 = .ok (.aload_n 0, 1) := by decide +kernel
theorem dX11_takes_15 : decode cX11_takes 15 = .ok (.iload_n 2, 1) := by decide +kernel
theorem dX11_takes_16 : decode cX11_takes 16 = .ok (.iload_n 3, 1) := by decide +kernel
theorem dX11_takes_17 : decode cX11_takes 17 = .ok (.invokevirtual 106, 3) := by decide +kernel
theorem dX11_takes_20 : decode cX11_takes 20 = .ok (.invokevirtual 74, 3) := by decide +kernel
theorem dX11_takes_23 : decode cX11_takes 23 = .ok (.iinc 3 1, 3) := by decide +kernel
theorem dX11_takes_26 : decode cX11_takes 26 = .ok (.goto (-24), 3) := by decide +kernel
theorem dX11_takes_29 : decode cX11_takes 29 = .ok (.aload_n 0, 1) := by decide +kernel
theorem dX11_takes_30 : decode cX11_takes 30 = .ok (.getfield 27, 3) := by decide +kernel
theorem dX11_takes_33 : decode cX11_takes 33 = .ok (.iload_n 1, 1) := by decide +kernel
theorem dX11_takes_34 : decode cX11_takes 34 = .ok (.aload_n 0, 1) := by decide +kernel
theorem dX11_takes_35 : decode cX11_takes 35 = .ok (.iload_n 2, 1) := by decide +kernel
theorem dX11_takes_36 : decode cX11_takes 36 = .ok (.invokevirtual 110, 3) := by decide +kernel
theorem dX11_takes_39 : decode cX11_takes 39 = .ok (.iastore, 1) := by decide +kernel
theorem dX11_takes_40 : decode cX11_takes 40 = .ok (.return_, 1) := by decide +kernel
theorem dX11_slopes_0 : decode cX11_slopes 0 = .ok (.iconst 0, 1) := by decide +kernel
theorem dX11_slopes_1 : decode cX11_slopes 1 = .ok (.istore_n 3, 1) := by decide +kernel
theorem dX11_slopes_2 : decode cX11_slopes 2 = .ok (.iload_n 3, 1) := by decide +kernel
theorem dX11_slopes_3 : decode cX11_slopes 3 = .ok (.bipush 9, 2) := by decide +kernel
theorem dX11_slopes_5 : decode cX11_slopes 5 = .ok (.if_icmp .ge 41, 3) := by decide +kernel
theorem dX11_slopes_8 : decode cX11_slopes 8 = .ok (.aload_n 0, 1) := by decide +kernel
theorem dX11_slopes_9 : decode cX11_slopes 9 = .ok (.iload_n 1, 1) := by decide +kernel
theorem dX11_slopes_10 : decode cX11_slopes 10 = .ok (.iload_n 3, 1) := by decide +kernel
theorem dX11_slopes_11 : decode cX11_slopes 11 = .ok (.invokestatic 81, 3) := by decide +kernel
theorem dX11_slopes_14 : decode cX11_slopes 14 = .ok (.iload_n 3, 1) := by decide +kernel
theorem dX11_slopes_15 : decode cX11_slopes 15 = .ok (.bipush 8, 2) := by decide +kernel
theorem dX11_slopes_17 : decode cX11_slopes 17 = .ok (.if_icmp .ge 19, 3) := by decide +kernel
theorem dX11_slopes_20 : decode cX11_slopes 20 = .ok (.iload_n 3, 1) := by decide +kernel
theorem dX11_slopes_21 : decode cX11_slopes 21 = .ok (.iconst 1, 1) := by decide +kernel
theorem dX11_slopes_22 : decode cX11_slopes 22 = .ok (.iadd, 1) := by decide +kernel
theorem dX11_slopes_23 : decode cX11_slopes 23 = .ok (.i2l, 1) := by decide +kernel
theorem dX11_slopes_24 : decode cX11_slopes 24 = .ok (.aload_n 0, 1) := by decide +kernel
theorem dX11_slopes_25 : decode cX11_slopes 25 = .ok (.iload_n 2, 1) := by decide +kernel
theorem dX11_slopes_26 : decode cX11_slopes 26 = .ok (.iload_n 3, 1) := by decide +kernel
theorem dX11_slopes_27 : decode cX11_slopes 27 = .ok (.iconst 1, 1) := by decide +kernel
theorem dX11_slopes_28 : decode cX11_slopes 28 = .ok (.iadd, 1) := by decide +kernel
theorem dX11_slopes_29 : decode cX11_slopes 29 = .ok (.invokevirtual 106, 3) := by decide +kernel
theorem dX11_slopes_32 : decode cX11_slopes 32 = .ok (.lmul, 1) := by decide +kernel
theorem dX11_slopes_33 : decode cX11_slopes 33 = .ok (.goto 4, 3) := by decide +kernel
theorem dX11_slopes_36 : decode cX11_slopes 36 = .ok (.lconst 0, 1) := by decide +kernel
theorem dX11_slopes_37 : decode cX11_slopes 37 = .ok (.invokevirtual 74, 3) := by decide +kernel
theorem dX11_slopes_40 : decode cX11_slopes 40 = .ok (.iinc 3 1, 3) := by decide +kernel
theorem dX11_slopes_43 : decode cX11_slopes 43 = .ok (.goto (-41), 3) := by decide +kernel
theorem dX11_slopes_46 : decode cX11_slopes 46 = .ok (.aload_n 0, 1) := by decide +kernel
theorem dX11_slopes_47 : decode cX11_slopes 47 = .ok (.getfield 27, 3) := by decide +kernel
theorem dX11_slopes_50 : decode cX11_slopes 50 = .ok (.iload_n 1, 1) := by decide +kernel
theorem dX11_slopes_51 : decode cX11_slopes 51 = .ok (.aload_n 0, 1) := by decide +kernel
theorem dX11_slopes_52 : decode cX11_slopes 52 = .ok (.iload_n 2, 1) := by decide +kernel
theorem dX11_slopes_53 : decode cX11_slopes 53 = .ok (.invokevirtual 110, 3) := by decide +kernel
theorem dX11_slopes_56 : decode cX11_slopes 56 = .ok (.iconst 1, 1) := by decide +kernel
theorem dX11_slopes_57 : decode cX11_slopes 57 = .ok (.isub, 1) := by decide +kernel
theorem dX11_slopes_58 : decode cX11_slopes 58 = .ok (.iastore, 1) := by decide +kernel
theorem dX11_slopes_59 : decode cX11_slopes 59 = .ok (.return_, 1) := by decide +kernel
theorem dX11_proves_0 : decode cX11_proves 0 = .ok (.aload_n 0, 1) := by decide +kernel
theorem dX11_proves_1 : decode cX11_proves 1 = .ok (.iload_n 1, 1) := by decide +kernel
theorem dX11_proves_2 : decode cX11_proves 2 = .ok (.iload_n 2, 1) := by decide +kernel
theorem dX11_proves_3 : decode cX11_proves 3 = .ok (.invokevirtual 114, 3) := by decide +kernel
theorem dX11_proves_6 : decode cX11_proves 6 = .ok (.aload_n 0, 1) := by decide +kernel
theorem dX11_proves_7 : decode cX11_proves 7 = .ok (.iload_n 1, 1) := by decide +kernel
theorem dX11_proves_8 : decode cX11_proves 8 = .ok (.iconst 1, 1) := by decide +kernel
theorem dX11_proves_9 : decode cX11_proves 9 = .ok (.iadd, 1) := by decide +kernel
theorem dX11_proves_10 : decode cX11_proves 10 = .ok (.iload_n 2, 1) := by decide +kernel
theorem dX11_proves_11 : decode cX11_proves 11 = .ok (.invokevirtual 117, 3) := by decide +kernel
theorem dX11_proves_14 : decode cX11_proves 14 = .ok (.aload_n 0, 1) := by decide +kernel
theorem dX11_proves_15 : decode cX11_proves 15 = .ok (.iload_n 1, 1) := by decide +kernel
theorem dX11_proves_16 : decode cX11_proves 16 = .ok (.invokevirtual 120, 3) := by decide +kernel
theorem dX11_proves_19 : decode cX11_proves 19 = .ok (.ireturn, 1) := by decide +kernel
theorem dX11_contents_0 : decode cX11_contents 0 = .ok (.aload_n 0, 1) := by decide +kernel
theorem dX11_contents_1 : decode cX11_contents 1 = .ok (.bipush 11, 2) := by decide +kernel
theorem dX11_contents_3 : decode cX11_contents 3 = .ok (.iload_n 1, 1) := by decide +kernel
theorem dX11_contents_4 : decode cX11_contents 4 = .ok (.aload_n 0, 1) := by decide +kernel
theorem dX11_contents_5 : decode cX11_contents 5 = .ok (.getfield 27, 3) := by decide +kernel
theorem dX11_contents_8 : decode cX11_contents 8 = .ok (.iload_n 1, 1) := by decide +kernel
theorem dX11_contents_9 : decode cX11_contents 9 = .ok (.iaload, 1) := by decide +kernel
theorem dX11_contents_10 : decode cX11_contents 10 = .ok (.invokestatic 81, 3) := by decide +kernel
theorem dX11_contents_13 : decode cX11_contents 13 = .ok (.invokevirtual 63, 3) := by decide +kernel
theorem dX11_contents_16 : decode cX11_contents 16 = .ok (.aload_n 0, 1) := by decide +kernel
theorem dX11_contents_17 : decode cX11_contents 17 = .ok (.getfield 17, 3) := by decide +kernel
theorem dX11_contents_20 : decode cX11_contents 20 = .ok (.bipush 11, 2) := by decide +kernel
theorem dX11_contents_22 : decode cX11_contents 22 = .ok (.iconst 1, 1) := by decide +kernel
theorem dX11_contents_23 : decode cX11_contents 23 = .ok (.iastore, 1) := by decide +kernel
theorem dX11_contents_24 : decode cX11_contents 24 = .ok (.aload_n 0, 1) := by decide +kernel
theorem dX11_contents_25 : decode cX11_contents 25 = .ok (.getfield 27, 3) := by decide +kernel
theorem dX11_contents_28 : decode cX11_contents 28 = .ok (.iload_n 1, 1) := by decide +kernel
theorem dX11_contents_29 : decode cX11_contents 29 = .ok (.iaload, 1) := by decide +kernel
theorem dX11_contents_30 : decode cX11_contents 30 = .ok (.iconst 1, 1) := by decide +kernel
theorem dX11_contents_31 : decode cX11_contents 31 = .ok (.isub, 1) := by decide +kernel
theorem dX11_contents_32 : decode cX11_contents 32 = .ok (.istore_n 2, 1) := by decide +kernel
theorem dX11_contents_33 : decode cX11_contents 33 = .ok (.iload_n 2, 1) := by decide +kernel
theorem dX11_contents_34 : decode cX11_contents 34 = .ok (.ifCond .lt 61, 3) := by decide +kernel
theorem dX11_contents_37 : decode cX11_contents 37 = .ok (.aload_n 0, 1) := by decide +kernel
theorem dX11_contents_38 : decode cX11_contents 38 = .ok (.bipush 12, 2) := by decide +kernel
theorem dX11_contents_40 : decode cX11_contents 40 = .ok (.iload_n 1, 1) := by decide +kernel
theorem dX11_contents_41 : decode cX11_contents 41 = .ok (.iload_n 2, 1) := by decide +kernel
theorem dX11_contents_42 : decode cX11_contents 42 = .ok (.invokestatic 81, 3) := by decide +kernel
theorem dX11_contents_45 : decode cX11_contents 45 = .ok (.invokevirtual 63, 3) := by decide +kernel
theorem dX11_contents_48 : decode cX11_contents 48 = .ok (.aload_n 0, 1) := by decide +kernel
theorem dX11_contents_49 : decode cX11_contents 49 = .ok (.getfield 17, 3) := by decide +kernel
theorem dX11_contents_52 : decode cX11_contents 52 = .ok (.bipush 12, 2) := by decide +kernel
theorem dX11_contents_54 : decode cX11_contents 54 = .ok (.iaload, 1) := by decide +kernel
theorem dX11_contents_55 : decode cX11_contents 55 = .ok (.ifCond .eq 34, 3) := by decide +kernel
theorem dX11_contents_58 : decode cX11_contents 58 = .ok (.aload_n 0, 1) := by decide +kernel
theorem dX11_contents_59 : decode cX11_contents 59 = .ok (.bipush 13, 2) := by decide +kernel
theorem dX11_contents_61 : decode cX11_contents 61 = .ok (.bipush 14, 2) := by decide +kernel
theorem dX11_contents_63 : decode cX11_contents 63 = .ok (.bipush 11, 2) := by decide +kernel
theorem dX11_contents_65 : decode cX11_contents 65 = .ok (.bipush 12, 2) := by decide +kernel
theorem dX11_contents_67 : decode cX11_contents 67 = .ok (.invokevirtual 92, 3) := by decide +kernel
theorem dX11_contents_70 : decode cX11_contents 70 = .ok (.aload_n 0, 1) := by decide +kernel
theorem dX11_contents_71 : decode cX11_contents 71 = .ok (.bipush 11, 2) := by decide +kernel
theorem dX11_contents_73 : decode cX11_contents 73 = .ok (.bipush 12, 2) := by decide +kernel
theorem dX11_contents_75 : decode cX11_contents 75 = .ok (.invokevirtual 63, 3) := by decide +kernel
theorem dX11_contents_78 : decode cX11_contents 78 = .ok (.aload_n 0, 1) := by decide +kernel
theorem dX11_contents_79 : decode cX11_contents 79 = .ok (.bipush 12, 2) := by decide +kernel
theorem dX11_contents_81 : decode cX11_contents 81 = .ok (.bipush 14, 2) := by decide +kernel
theorem dX11_contents_83 : decode cX11_contents 83 = .ok (.invokevirtual 63, 3) := by decide +kernel
theorem dX11_contents_86 : decode cX11_contents 86 = .ok (.goto (-38), 3) := by decide +kernel
theorem dX11_contents_89 : decode cX11_contents 89 = .ok (.iinc 2 (-1), 3) := by decide +kernel
theorem dX11_contents_92 : decode cX11_contents 92 = .ok (.goto (-59), 3) := by decide +kernel
theorem dX11_contents_95 : decode cX11_contents 95 = .ok (.aload_n 0, 1) := by decide +kernel
theorem dX11_contents_96 : decode cX11_contents 96 = .ok (.getfield 17, 3) := by decide +kernel
theorem dX11_contents_99 : decode cX11_contents 99 = .ok (.bipush 11, 2) := by decide +kernel
theorem dX11_contents_101 : decode cX11_contents 101 = .ok (.iconst 1, 1) := by decide +kernel
theorem dX11_contents_102 : decode cX11_contents 102 = .ok (.iastore, 1) := by decide +kernel
theorem dX11_contents_103 : decode cX11_contents 103 = .ok (.return_, 1) := by decide +kernel
theorem dX11_plains_0 : decode cX11_plains 0 = .ok (.aload_n 0, 1) := by decide +kernel
theorem dX11_plains_1 : decode cX11_plains 1 = .ok (.iload_n 2, 1) := by decide +kernel
theorem dX11_plains_2 : decode cX11_plains 2 = .ok (.invokevirtual 123, 3) := by decide +kernel
theorem dX11_plains_5 : decode cX11_plains 5 = .ok (.aload_n 0, 1) := by decide +kernel
theorem dX11_plains_6 : decode cX11_plains 6 = .ok (.getfield 17, 3) := by decide +kernel
theorem dX11_plains_9 : decode cX11_plains 9 = .ok (.iload_n 2, 1) := by decide +kernel
theorem dX11_plains_10 : decode cX11_plains 10 = .ok (.aload_n 0, 1) := by decide +kernel
theorem dX11_plains_11 : decode cX11_plains 11 = .ok (.getfield 27, 3) := by decide +kernel
theorem dX11_plains_14 : decode cX11_plains 14 = .ok (.iload_n 2, 1) := by decide +kernel
theorem dX11_plains_15 : decode cX11_plains 15 = .ok (.iaload, 1) := by decide +kernel
theorem dX11_plains_16 : decode cX11_plains 16 = .ok (.invokestatic 81, 3) := by decide +kernel
theorem dX11_plains_19 : decode cX11_plains 19 = .ok (.iaload, 1) := by decide +kernel
theorem dX11_plains_20 : decode cX11_plains 20 = .ok (.istore_n 3, 1) := by decide +kernel
theorem dX11_plains_21 : decode cX11_plains 21 = .ok (.iconst 0, 1) := by decide +kernel
theorem dX11_plains_22 : decode cX11_plains 22 = .ok (.istore 4, 2) := by decide +kernel
theorem dX11_plains_24 : decode cX11_plains 24 = .ok (.iload 4, 2) := by decide +kernel
theorem dX11_plains_26 : decode cX11_plains 26 = .ok (.bipush 9, 2) := by decide +kernel
theorem dX11_plains_28 : decode cX11_plains 28 = .ok (.if_icmp .ge 59, 3) := by decide +kernel
theorem dX11_plains_31 : decode cX11_plains 31 = .ok (.lconst 0, 1) := by decide +kernel
theorem dX11_plains_32 : decode cX11_plains 32 = .ok (.lstore 5, 2) := by decide +kernel
theorem dX11_plains_34 : decode cX11_plains 34 = .ok (.iload 4, 2) := by decide +kernel
theorem dX11_plains_36 : decode cX11_plains 36 = .ok (.aload_n 0, 1) := by decide +kernel
theorem dX11_plains_37 : decode cX11_plains 37 = .ok (.getfield 27, 3) := by decide +kernel
theorem dX11_plains_40 : decode cX11_plains 40 = .ok (.iload_n 2, 1) := by decide +kernel
theorem dX11_plains_41 : decode cX11_plains 41 = .ok (.iaload, 1) := by decide +kernel
theorem dX11_plains_42 : decode cX11_plains 42 = .ok (.if_icmp .gt 30, 3) := by decide +kernel
theorem dX11_plains_45 : decode cX11_plains 45 = .ok (.aload_n 0, 1) := by decide +kernel
theorem dX11_plains_46 : decode cX11_plains 46 = .ok (.bipush 13, 2) := by decide +kernel
theorem dX11_plains_48 : decode cX11_plains 48 = .ok (.bipush 14, 2) := by decide +kernel
theorem dX11_plains_50 : decode cX11_plains 50 = .ok (.iload_n 2, 1) := by decide +kernel
theorem dX11_plains_51 : decode cX11_plains 51 = .ok (.iload 4, 2) := by decide +kernel
theorem dX11_plains_53 : decode cX11_plains 53 = .ok (.invokestatic 81, 3) := by decide +kernel
theorem dX11_plains_56 : decode cX11_plains 56 = .ok (.bipush 11, 2) := by decide +kernel
theorem dX11_plains_58 : decode cX11_plains 58 = .ok (.invokevirtual 92, 3) := by decide +kernel
theorem dX11_plains_61 : decode cX11_plains 61 = .ok (.iload_n 3, 1) := by decide +kernel
theorem dX11_plains_62 : decode cX11_plains 62 = .ok (.i2l, 1) := by decide +kernel
theorem dX11_plains_63 : decode cX11_plains 63 = .ok (.aload_n 0, 1) := by decide +kernel
theorem dX11_plains_64 : decode cX11_plains 64 = .ok (.bipush 13, 2) := by decide +kernel
theorem dX11_plains_66 : decode cX11_plains 66 = .ok (.invokevirtual 126, 3) := by decide +kernel
theorem dX11_plains_69 : decode cX11_plains 69 = .ok (.lmul, 1) := by decide +kernel
theorem dX11_plains_70 : decode cX11_plains 70 = .ok (.lstore 5, 2) := by decide +kernel
theorem dX11_plains_72 : decode cX11_plains 72 = .ok (.aload_n 0, 1) := by decide +kernel
theorem dX11_plains_73 : decode cX11_plains 73 = .ok (.iload_n 1, 1) := by decide +kernel
theorem dX11_plains_74 : decode cX11_plains 74 = .ok (.iload 4, 2) := by decide +kernel
theorem dX11_plains_76 : decode cX11_plains 76 = .ok (.lload 5, 2) := by decide +kernel
theorem dX11_plains_78 : decode cX11_plains 78 = .ok (.invokevirtual 130, 3) := by decide +kernel
theorem dX11_plains_81 : decode cX11_plains 81 = .ok (.iinc 4 1, 3) := by decide +kernel
theorem dX11_plains_84 : decode cX11_plains 84 = .ok (.goto (-60), 3) := by decide +kernel
theorem dX11_plains_87 : decode cX11_plains 87 = .ok (.return_, 1) := by decide +kernel
theorem dX11_divides_0 : decode cX11_divides 0 = .ok (.iconst 0, 1) := by decide +kernel
theorem dX11_divides_1 : decode cX11_divides 1 = .ok (.istore 4, 2) := by decide +kernel
theorem dX11_divides_3 : decode cX11_divides 3 = .ok (.iload 4, 2) := by decide +kernel
theorem dX11_divides_5 : decode cX11_divides 5 = .ok (.bipush 9, 2) := by decide +kernel
theorem dX11_divides_7 : decode cX11_divides 7 = .ok (.if_icmp .ge 32, 3) := by decide +kernel
theorem dX11_divides_10 : decode cX11_divides 10 = .ok (.aload_n 0, 1) := by decide +kernel
theorem dX11_divides_11 : decode cX11_divides 11 = .ok (.bipush 22, 2) := by decide +kernel
theorem dX11_divides_13 : decode cX11_divides 13 = .ok (.iload 4, 2) := by decide +kernel
theorem dX11_divides_15 : decode cX11_divides 15 = .ok (.aload_n 0, 1) := by decide +kernel
theorem dX11_divides_16 : decode cX11_divides 16 = .ok (.iload_n 2, 1) := by decide +kernel
theorem dX11_divides_17 : decode cX11_divides 17 = .ok (.iload 4, 2) := by decide +kernel
theorem dX11_divides_19 : decode cX11_divides 19 = .ok (.invokevirtual 106, 3) := by decide +kernel
theorem dX11_divides_22 : decode cX11_divides 22 = .ok (.invokevirtual 130, 3) := by decide +kernel
theorem dX11_divides_25 : decode cX11_divides 25 = .ok (.aload_n 0, 1) := by decide +kernel
theorem dX11_divides_26 : decode cX11_divides 26 = .ok (.iload_n 1, 1) := by decide +kernel
theorem dX11_divides_27 : decode cX11_divides 27 = .ok (.iload 4, 2) := by decide +kernel
theorem dX11_divides_29 : decode cX11_divides 29 = .ok (.lconst 0, 1) := by decide +kernel
theorem dX11_divides_30 : decode cX11_divides 30 = .ok (.invokevirtual 130, 3) := by decide +kernel
theorem dX11_divides_33 : decode cX11_divides 33 = .ok (.iinc 4 1, 3) := by decide +kernel
theorem dX11_divides_36 : decode cX11_divides 36 = .ok (.goto (-33), 3) := by decide +kernel
theorem dX11_divides_39 : decode cX11_divides 39 = .ok (.aload_n 0, 1) := by decide +kernel
theorem dX11_divides_40 : decode cX11_divides 40 = .ok (.iload_n 3, 1) := by decide +kernel
theorem dX11_divides_41 : decode cX11_divides 41 = .ok (.invokevirtual 110, 3) := by decide +kernel
theorem dX11_divides_44 : decode cX11_divides 44 = .ok (.istore 4, 2) := by decide +kernel
theorem dX11_divides_46 : decode cX11_divides 46 = .ok (.aload_n 0, 1) := by decide +kernel
theorem dX11_divides_47 : decode cX11_divides 47 = .ok (.iload_n 2, 1) := by decide +kernel
theorem dX11_divides_48 : decode cX11_divides 48 = .ok (.invokevirtual 110, 3) := by decide +kernel
theorem dX11_divides_51 : decode cX11_divides 51 = .ok (.iload 4, 2) := by decide +kernel
theorem dX11_divides_53 : decode cX11_divides 53 = .ok (.isub, 1) := by decide +kernel
theorem dX11_divides_54 : decode cX11_divides 54 = .ok (.istore 5, 2) := by decide +kernel
theorem dX11_divides_56 : decode cX11_divides 56 = .ok (.iload 5, 2) := by decide +kernel
theorem dX11_divides_58 : decode cX11_divides 58 = .ok (.ifCond .lt 88, 3) := by decide +kernel
theorem dX11_divides_61 : decode cX11_divides 61 = .ok (.aload_n 0, 1) := by decide +kernel
theorem dX11_divides_62 : decode cX11_divides 62 = .ok (.bipush 22, 2) := by decide +kernel
theorem dX11_divides_64 : decode cX11_divides 64 = .ok (.iload 5, 2) := by decide +kernel
theorem dX11_divides_66 : decode cX11_divides 66 = .ok (.iload 4, 2) := by decide +kernel
theorem dX11_divides_68 : decode cX11_divides 68 = .ok (.iadd, 1) := by decide +kernel
theorem dX11_divides_69 : decode cX11_divides 69 = .ok (.invokevirtual 106, 3) := by decide +kernel
theorem dX11_divides_72 : decode cX11_divides 72 = .ok (.aload_n 0, 1) := by decide +kernel
theorem dX11_divides_73 : decode cX11_divides 73 = .ok (.iload_n 3, 1) := by decide +kernel
theorem dX11_divides_74 : decode cX11_divides 74 = .ok (.iload 4, 2) := by decide +kernel
theorem dX11_divides_76 : decode cX11_divides 76 = .ok (.invokevirtual 106, 3) := by decide +kernel
theorem dX11_divides_79 : decode cX11_divides 79 = .ok (.ldiv, 1) := by decide +kernel
theorem dX11_divides_80 : decode cX11_divides 80 = .ok (.lstore 6, 2) := by decide +kernel
theorem dX11_divides_82 : decode cX11_divides 82 = .ok (.aload_n 0, 1) := by decide +kernel
theorem dX11_divides_83 : decode cX11_divides 83 = .ok (.iload_n 1, 1) := by decide +kernel
theorem dX11_divides_84 : decode cX11_divides 84 = .ok (.iload 5, 2) := by decide +kernel
theorem dX11_divides_86 : decode cX11_divides 86 = .ok (.lload 6, 2) := by decide +kernel
theorem dX11_divides_88 : decode cX11_divides 88 = .ok (.invokevirtual 130, 3) := by decide +kernel
theorem dX11_divides_91 : decode cX11_divides 91 = .ok (.iconst 0, 1) := by decide +kernel
theorem dX11_divides_92 : decode cX11_divides 92 = .ok (.istore 8, 2) := by decide +kernel
theorem dX11_divides_94 : decode cX11_divides 94 = .ok (.iload 8, 2) := by decide +kernel
theorem dX11_divides_96 : decode cX11_divides 96 = .ok (.iload 4, 2) := by decide +kernel
theorem dX11_divides_98 : decode cX11_divides 98 = .ok (.if_icmp .gt 42, 3) := by decide +kernel
theorem dX11_divides_101 : decode cX11_divides 101 = .ok (.aload_n 0, 1) := by decide +kernel
theorem dX11_divides_102 : decode cX11_divides 102 = .ok (.bipush 22, 2) := by decide +kernel
theorem dX11_divides_104 : decode cX11_divides 104 = .ok (.iload 5, 2) := by decide +kernel
theorem dX11_divides_106 : decode cX11_divides 106 = .ok (.iload 8, 2) := by decide +kernel
theorem dX11_divides_108 : decode cX11_divides 108 = .ok (.iadd, 1) := by decide +kernel
theorem dX11_divides_109 : decode cX11_divides 109 = .ok (.aload_n 0, 1) := by decide +kernel
theorem dX11_divides_110 : decode cX11_divides 110 = .ok (.bipush 22, 2) := by decide +kernel
theorem dX11_divides_112 : decode cX11_divides 112 = .ok (.iload 5, 2) := by decide +kernel
theorem dX11_divides_114 : decode cX11_divides 114 = .ok (.iload 8, 2) := by decide +kernel
theorem dX11_divides_116 : decode cX11_divides 116 = .ok (.iadd, 1) := by decide +kernel
theorem dX11_divides_117 : decode cX11_divides 117 = .ok (.invokevirtual 106, 3) := by decide +kernel
theorem dX11_divides_120 : decode cX11_divides 120 = .ok (.lload 6, 2) := by decide +kernel
theorem dX11_divides_122 : decode cX11_divides 122 = .ok (.aload_n 0, 1) := by decide +kernel
theorem dX11_divides_123 : decode cX11_divides 123 = .ok (.iload_n 3, 1) := by decide +kernel
theorem dX11_divides_124 : decode cX11_divides 124 = .ok (.iload 8, 2) := by decide +kernel
theorem dX11_divides_126 : decode cX11_divides 126 = .ok (.invokevirtual 106, 3) := by decide +kernel
theorem dX11_divides_129 : decode cX11_divides 129 = .ok (.lmul, 1) := by decide +kernel
theorem dX11_divides_130 : decode cX11_divides 130 = .ok (.lsub, 1) := by decide +kernel
theorem dX11_divides_131 : decode cX11_divides 131 = .ok (.invokevirtual 130, 3) := by decide +kernel
theorem dX11_divides_134 : decode cX11_divides 134 = .ok (.iinc 8 1, 3) := by decide +kernel
theorem dX11_divides_137 : decode cX11_divides 137 = .ok (.goto (-43), 3) := by decide +kernel
theorem dX11_divides_140 : decode cX11_divides 140 = .ok (.iinc 5 (-1), 3) := by decide +kernel
theorem dX11_divides_143 : decode cX11_divides 143 = .ok (.goto (-87), 3) := by decide +kernel
theorem dX11_divides_146 : decode cX11_divides 146 = .ok (.return_, 1) := by decide +kernel
theorem dX11_lays_0 : decode cX11_lays 0 = .ok (.aload_n 0, 1) := by decide +kernel
theorem dX11_lays_1 : decode cX11_lays 1 = .ok (.iconst 0, 1) := by decide +kernel
theorem dX11_lays_2 : decode cX11_lays 2 = .ok (.putfield 134, 3) := by decide +kernel
theorem dX11_lays_5 : decode cX11_lays 5 = .ok (.iconst 0, 1) := by decide +kernel
theorem dX11_lays_6 : decode cX11_lays 6 = .ok (.istore_n 2, 1) := by decide +kernel
theorem dX11_lays_7 : decode cX11_lays 7 = .ok (.iconst 0, 1) := by decide +kernel
theorem dX11_lays_8 : decode cX11_lays 8 = .ok (.istore_n 3, 1) := by decide +kernel
theorem dX11_lays_9 : decode cX11_lays 9 = .ok (.iload_n 3, 1) := by decide +kernel
theorem dX11_lays_10 : decode cX11_lays 10 = .ok (.bipush 9, 2) := by decide +kernel
theorem dX11_lays_12 : decode cX11_lays 12 = .ok (.if_icmp .ge 22, 3) := by decide +kernel
theorem dX11_lays_15 : decode cX11_lays 15 = .ok (.aload_n 0, 1) := by decide +kernel
theorem dX11_lays_16 : decode cX11_lays 16 = .ok (.bipush 8, 2) := by decide +kernel
theorem dX11_lays_18 : decode cX11_lays 18 = .ok (.iload_n 3, 1) := by decide +kernel
theorem dX11_lays_19 : decode cX11_lays 19 = .ok (.aload_n 0, 1) := by decide +kernel
theorem dX11_lays_20 : decode cX11_lays 20 = .ok (.iload_n 1, 1) := by decide +kernel
theorem dX11_lays_21 : decode cX11_lays 21 = .ok (.iload_n 3, 1) := by decide +kernel
theorem dX11_lays_22 : decode cX11_lays 22 = .ok (.invokevirtual 106, 3) := by decide +kernel
theorem dX11_lays_25 : decode cX11_lays 25 = .ok (.invokevirtual 130, 3) := by decide +kernel
theorem dX11_lays_28 : decode cX11_lays 28 = .ok (.iinc 3 1, 3) := by decide +kernel
theorem dX11_lays_31 : decode cX11_lays 31 = .ok (.goto (-22), 3) := by decide +kernel
theorem dX11_lays_34 : decode cX11_lays 34 = .ok (.aload_n 0, 1) := by decide +kernel
theorem dX11_lays_35 : decode cX11_lays 35 = .ok (.bipush 8, 2) := by decide +kernel
theorem dX11_lays_37 : decode cX11_lays 37 = .ok (.invokevirtual 110, 3) := by decide +kernel
theorem dX11_lays_40 : decode cX11_lays 40 = .ok (.ifCond .le 119, 3) := by decide +kernel
theorem dX11_lays_43 : decode cX11_lays 43 = .ok (.aload_n 0, 1) := by decide +kernel
theorem dX11_lays_44 : decode cX11_lays 44 = .ok (.bipush 36, 2) := by decide +kernel
theorem dX11_lays_46 : decode cX11_lays 46 = .ok (.bipush 8, 2) := by decide +kernel
theorem dX11_lays_48 : decode cX11_lays 48 = .ok (.invokevirtual 137, 3) := by decide +kernel
theorem dX11_lays_51 : decode cX11_lays 51 = .ok (.istore_n 3, 1) := by decide +kernel
theorem dX11_lays_52 : decode cX11_lays 52 = .ok (.aload_n 0, 1) := by decide +kernel
theorem dX11_lays_53 : decode cX11_lays 53 = .ok (.bipush 9, 2) := by decide +kernel
theorem dX11_lays_55 : decode cX11_lays 55 = .ok (.bipush 36, 2) := by decide +kernel
theorem dX11_lays_57 : decode cX11_lays 57 = .ok (.iload_n 3, 1) := by decide +kernel
theorem dX11_lays_58 : decode cX11_lays 58 = .ok (.iadd, 1) := by decide +kernel
theorem dX11_lays_59 : decode cX11_lays 59 = .ok (.iconst 1, 1) := by decide +kernel
theorem dX11_lays_60 : decode cX11_lays 60 = .ok (.isub, 1) := by decide +kernel
theorem dX11_lays_61 : decode cX11_lays 61 = .ok (.invokevirtual 140, 3) := by decide +kernel
theorem dX11_lays_64 : decode cX11_lays 64 = .ok (.aload_n 0, 1) := by decide +kernel
theorem dX11_lays_65 : decode cX11_lays 65 = .ok (.bipush 14, 2) := by decide +kernel
theorem dX11_lays_67 : decode cX11_lays 67 = .ok (.bipush 8, 2) := by decide +kernel
theorem dX11_lays_69 : decode cX11_lays 69 = .ok (.bipush 9, 2) := by decide +kernel
theorem dX11_lays_71 : decode cX11_lays 71 = .ok (.invokevirtual 143, 3) := by decide +kernel
theorem dX11_lays_74 : decode cX11_lays 74 = .ok (.aload_n 0, 1) := by decide +kernel
theorem dX11_lays_75 : decode cX11_lays 75 = .ok (.getfield 36, 3) := by decide +kernel
theorem dX11_lays_78 : decode cX11_lays 78 = .ok (.aload_n 0, 1) := by decide +kernel
theorem dX11_lays_79 : decode cX11_lays 79 = .ok (.getfield 134, 3) := by decide +kernel
theorem dX11_lays_82 : decode cX11_lays 82 = .ok (.iload_n 2, 1) := by decide +kernel
theorem dX11_lays_83 : decode cX11_lays 83 = .ok (.iastore, 1) := by decide +kernel
theorem dX11_lays_84 : decode cX11_lays 84 = .ok (.aload_n 0, 1) := by decide +kernel
theorem dX11_lays_85 : decode cX11_lays 85 = .ok (.getfield 39, 3) := by decide +kernel
theorem dX11_lays_88 : decode cX11_lays 88 = .ok (.aload_n 0, 1) := by decide +kernel
theorem dX11_lays_89 : decode cX11_lays 89 = .ok (.getfield 134, 3) := by decide +kernel
theorem dX11_lays_92 : decode cX11_lays 92 = .ok (.aload_n 0, 1) := by decide +kernel
theorem dX11_lays_93 : decode cX11_lays 93 = .ok (.iload_n 2, 1) := by decide +kernel
theorem dX11_lays_94 : decode cX11_lays 94 = .ok (.bipush 14, 2) := by decide +kernel
theorem dX11_lays_96 : decode cX11_lays 96 = .ok (.invokevirtual 137, 3) := by decide +kernel
theorem dX11_lays_99 : decode cX11_lays 99 = .ok (.iastore, 1) := by decide +kernel
theorem dX11_lays_100 : decode cX11_lays 100 = .ok (.iload_n 2, 1) := by decide +kernel
theorem dX11_lays_101 : decode cX11_lays 101 = .ok (.aload_n 0, 1) := by decide +kernel
theorem dX11_lays_102 : decode cX11_lays 102 = .ok (.getfield 39, 3) := by decide +kernel
theorem dX11_lays_105 : decode cX11_lays 105 = .ok (.aload_n 0, 1) := by decide +kernel
theorem dX11_lays_106 : decode cX11_lays 106 = .ok (.getfield 134, 3) := by decide +kernel
theorem dX11_lays_109 : decode cX11_lays 109 = .ok (.iaload, 1) := by decide +kernel
theorem dX11_lays_110 : decode cX11_lays 110 = .ok (.iconst 1, 1) := by decide +kernel
theorem dX11_lays_111 : decode cX11_lays 111 = .ok (.iadd, 1) := by decide +kernel
