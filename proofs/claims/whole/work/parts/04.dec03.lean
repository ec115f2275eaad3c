theorem dX7_init_81 : decode cX7_init 81 = .ok (.dup, 1) := by decide +kernel
theorem dX7_init_82 : decode cX7_init 82 = .ok (.bipush 96, 2) := by decide +kernel
theorem dX7_init_84 : decode cX7_init 84 = .ok (.invokespecial 27, 3) := by decide +kernel
theorem dX7_init_87 : decode cX7_init 87 = .ok (.putfield 40, 3) := by decide +kernel
theorem dX7_init_90 : decode cX7_init 90 = .ok (.aload_n 0, 1) := by decide +kernel
theorem dX7_init_91 : decode cX7_init 91 = .ok (.new 11, 3) := by decide +kernel
theorem dX7_init_94 : decode cX7_init 94 = .ok (.dup, 1) := by decide +kernel
theorem dX7_init_95 : decode cX7_init 95 = .ok (.bipush 24, 2) := by decide +kernel
theorem dX7_init_97 : decode cX7_init 97 = .ok (.invokespecial 27, 3) := by decide +kernel
theorem dX7_init_100 : decode cX7_init 100 = .ok (.putfield 43, 3) := by decide +kernel
theorem dX7_init_103 : decode cX7_init 103 = .ok (.aload_n 0, 1) := by decide +kernel
theorem dX7_init_104 : decode cX7_init 104 = .ok (.new 11, 3) := by decide +kernel
theorem dX7_init_107 : decode cX7_init 107 = .ok (.dup, 1) := by decide +kernel
theorem dX7_init_108 : decode cX7_init 108 = .ok (.bipush 24, 2) := by decide +kernel
theorem dX7_init_110 : decode cX7_init 110 = .ok (.invokespecial 27, 3) := by decide +kernel
theorem dX7_init_113 : decode cX7_init 113 = .ok (.putfield 46, 3) := by decide +kernel
theorem dX7_init_116 : decode cX7_init 116 = .ok (.aload_n 0, 1) := by decide +kernel
theorem dX7_init_117 : decode cX7_init 117 = .ok (.new 11, 3) := by decide +kernel
theorem dX7_init_120 : decode cX7_init 120 = .ok (.dup, 1) := by decide +kernel
theorem dX7_init_121 : decode cX7_init 121 = .ok (.bipush 24, 2) := by decide +kernel
theorem dX7_init_123 : decode cX7_init 123 = .ok (.invokespecial 27, 3) := by decide +kernel
theorem dX7_init_126 : decode cX7_init 126 = .ok (.putfield 49, 3) := by decide +kernel
theorem dX7_init_129 : decode cX7_init 129 = .ok (.iconst 0, 1) := by decide +kernel
theorem dX7_init_130 : decode cX7_init 130 = .ok (.istore_n 1, 1) := by decide +kernel
theorem dX7_init_131 : decode cX7_init 131 = .ok (.iload_n 1, 1) := by decide +kernel
theorem dX7_init_132 : decode cX7_init 132 = .ok (.aload_n 0, 1) := by decide +kernel
theorem dX7_init_133 : decode cX7_init 133 = .ok (.getfield 13, 3) := by decide +kernel
theorem dX7_init_136 : decode cX7_init 136 = .ok (.arraylength, 1) := by decide +kernel
theorem dX7_init_137 : decode cX7_init 137 = .ok (.if_icmp .ge 24, 3) := by decide +kernel
theorem dX7_init_140 : decode cX7_init 140 = .ok (.aload_n 0, 1) := by decide +kernel
theorem dX7_init_141 : decode cX7_init 141 = .ok (.getfield 13, 3) := by decide +kernel
theorem dX7_init_144 : decode cX7_init 144 = .ok (.iload_n 1, 1) := by decide +kernel
theorem dX7_init_145 : decode cX7_init 145 = .ok (.new 11, 3) := by decide +kernel
theorem dX7_init_148 : decode cX7_init 148 = .ok (.dup, 1) := by decide +kernel
theorem dX7_init_149 : decode cX7_init 149 = .ok (.bipush 24, 2) := by decide +kernel
theorem dX7_init_151 : decode cX7_init 151 = .ok (.invokespecial 27, 3) := by decide +kernel
theorem dX7_init_154 : decode cX7_init 154 = .ok (.aastore, 1) := by decide +kernel
theorem dX7_init_155 : decode cX7_init 155 = .ok (.iinc 1 1, 3) := by decide +kernel
theorem dX7_init_158 : decode cX7_init 158 = .ok (.goto (-27), 3) := by decide +kernel
theorem dX7_init_161 : decode cX7_init 161 = .ok (.iconst 0, 1) := by decide +kernel
theorem dX7_init_162 : decode cX7_init 162 = .ok (.istore_n 1, 1) := by decide +kernel
theorem dX7_init_163 : decode cX7_init 163 = .ok (.iload_n 1, 1) := by decide +kernel
theorem dX7_init_164 : decode cX7_init 164 = .ok (.bipush 9, 2) := by decide +kernel
theorem dX7_init_166 : decode cX7_init 166 = .ok (.if_icmp .ge 24, 3) := by decide +kernel
theorem dX7_init_169 : decode cX7_init 169 = .ok (.aload_n 0, 1) := by decide +kernel
theorem dX7_init_170 : decode cX7_init 170 = .ok (.getfield 24, 3) := by decide +kernel
theorem dX7_init_173 : decode cX7_init 173 = .ok (.iload_n 1, 1) := by decide +kernel
theorem dX7_init_174 : decode cX7_init 174 = .ok (.new 11, 3) := by decide +kernel
theorem dX7_init_177 : decode cX7_init 177 = .ok (.dup, 1) := by decide +kernel
theorem dX7_init_178 : decode cX7_init 178 = .ok (.bipush 96, 2) := by decide +kernel
theorem dX7_init_180 : decode cX7_init 180 = .ok (.invokespecial 27, 3) := by decide +kernel
theorem dX7_init_183 : decode cX7_init 183 = .ok (.aastore, 1) := by decide +kernel
theorem dX7_init_184 : decode cX7_init 184 = .ok (.iinc 1 1, 3) := by decide +kernel
theorem dX7_init_187 : decode cX7_init 187 = .ok (.goto (-24), 3) := by decide +kernel
theorem dX7_init_190 : decode cX7_init 190 = .ok (.return_, 1) := by decide +kernel
theorem dX7_run_0 : decode cX7_run 0 = .ok (.aload_n 0, 1) := by decide +kernel
theorem dX7_run_1 : decode cX7_run 1 = .ok (.iconst 0, 1) := by decide +kernel
theorem dX7_run_2 : decode cX7_run 2 = .ok (.aload_n 1, 1) := by decide +kernel
theorem dX7_run_3 : decode cX7_run 3 = .ok (.invokevirtual 52, 3) := by decide +kernel
theorem dX7_run_6 : decode cX7_run 6 = .ok (.aload_n 0, 1) := by decide +kernel
theorem dX7_run_7 : decode cX7_run 7 = .ok (.iconst 1, 1) := by decide +kernel
theorem dX7_run_8 : decode cX7_run 8 = .ok (.aload_n 2, 1) := by decide +kernel
theorem dX7_run_9 : decode cX7_run 9 = .ok (.invokevirtual 52, 3) := by decide +kernel
theorem dX7_run_12 : decode cX7_run 12 = .ok (.aload_n 0, 1) := by decide +kernel
theorem dX7_run_13 : decode cX7_run 13 = .ok (.aload_n 0, 1) := by decide +kernel
theorem dX7_run_14 : decode cX7_run 14 = .ok (.getfield 17, 3) := by decide +kernel
theorem dX7_run_17 : decode cX7_run 17 = .ok (.iconst 1, 1) := by decide +kernel
theorem dX7_run_18 : decode cX7_run 18 = .ok (.iaload, 1) := by decide +kernel
theorem dX7_run_19 : decode cX7_run 19 = .ok (.ifCond .ge 7, 3) := by decide +kernel
theorem dX7_run_22 : decode cX7_run 22 = .ok (.iconst 1, 1) := by decide +kernel
theorem dX7_run_23 : decode cX7_run 23 = .ok (.goto 4, 3) := by decide +kernel
theorem dX7_run_26 : decode cX7_run 26 = .ok (.iconst 2, 1) := by decide +kernel
theorem dX7_run_27 : decode cX7_run 27 = .ok (.putfield 56, 3) := by decide +kernel
theorem dX7_run_30 : decode cX7_run 30 = .ok (.aload_n 0, 1) := by decide +kernel
theorem dX7_run_31 : decode cX7_run 31 = .ok (.getfield 46, 3) := by decide +kernel
theorem dX7_run_34 : decode cX7_run 34 = .ok (.lconst 1, 1) := by decide +kernel
theorem dX7_run_35 : decode cX7_run 35 = .ok (.invokevirtual 60, 3) := by decide +kernel
theorem dX7_run_38 : decode cX7_run 38 = .ok (.aload_n 0, 1) := by decide +kernel
theorem dX7_run_39 : decode cX7_run 39 = .ok (.getfield 49, 3) := by decide +kernel
theorem dX7_run_42 : decode cX7_run 42 = .ok (.lconst 1, 1) := by decide +kernel
theorem dX7_run_43 : decode cX7_run 43 = .ok (.invokevirtual 60, 3) := by decide +kernel
theorem dX7_run_46 : decode cX7_run 46 = .ok (.iconst 2, 1) := by decide +kernel
theorem dX7_run_47 : decode cX7_run 47 = .ok (.istore_n 3, 1) := by decide +kernel
theorem dX7_run_48 : decode cX7_run 48 = .ok (.iload_n 3, 1) := by decide +kernel
theorem dX7_run_49 : decode cX7_run 49 = .ok (.bipush 10, 2) := by decide +kernel
theorem dX7_run_51 : decode cX7_run 51 = .ok (.if_icmp .ge 80, 3) := by decide +kernel
theorem dX7_run_54 : decode cX7_run 54 = .ok (.aload_n 0, 1) := by decide +kernel
theorem dX7_run_55 : decode cX7_run 55 = .ok (.getfield 56, 3) := by decide +kernel
theorem dX7_run_58 : decode cX7_run 58 = .ok (.iload_n 3, 1) := by decide +kernel
theorem dX7_run_59 : decode cX7_run 59 = .ok (.if_icmp .ne 72, 3) := by decide +kernel
theorem dX7_run_62 : decode cX7_run 62 = .ok (.aload_n 0, 1) := by decide +kernel
theorem dX7_run_63 : decode cX7_run 63 = .ok (.getfield 17, 3) := by decide +kernel
theorem dX7_run_66 : decode cX7_run 66 = .ok (.iload_n 3, 1) := by decide +kernel
theorem dX7_run_67 : decode cX7_run 67 = .ok (.iconst 1, 1) := by decide +kernel
theorem dX7_run_68 : decode cX7_run 68 = .ok (.isub, 1) := by decide +kernel
theorem dX7_run_69 : decode cX7_run 69 = .ok (.iaload, 1) := by decide +kernel
theorem dX7_run_70 : decode cX7_run 70 = .ok (.ifCond .le 61, 3) := by decide +kernel
theorem dX7_run_73 : decode cX7_run 73 = .ok (.aload_n 0, 1) := by decide +kernel
theorem dX7_run_74 : decode cX7_run 74 = .ok (.iload_n 3, 1) := by decide +kernel
theorem dX7_run_75 : decode cX7_run 75 = .ok (.invokevirtual 64, 3) := by decide +kernel
theorem dX7_run_78 : decode cX7_run 78 = .ok (.aload_n 0, 1) := by decide +kernel
theorem dX7_run_79 : decode cX7_run 79 = .ok (.iload_n 3, 1) := by decide +kernel
theorem dX7_run_80 : decode cX7_run 80 = .ok (.invokevirtual 67, 3) := by decide +kernel
theorem dX7_run_83 : decode cX7_run 83 = .ok (.istore 4, 2) := by decide +kernel
theorem dX7_run_85 : decode cX7_run 85 = .ok (.iload 4, 2) := by decide +kernel
theorem dX7_run_87 : decode cX7_run 87 = .ok (.ifCond .lt 38, 3) := by decide +kernel
theorem dX7_run_90 : decode cX7_run 90 = .ok (.aload_n 0, 1) := by decide +kernel
theorem dX7_run_91 : decode cX7_run 91 = .ok (.iload_n 3, 1) := by decide +kernel
theorem dX7_run_92 : decode cX7_run 92 = .ok (.iload 4, 2) := by decide +kernel
theorem dX7_run_94 : decode cX7_run 94 = .ok (.invokevirtual 71, 3) := by decide +kernel
theorem dX7_run_97 : decode cX7_run 97 = .ok (.aload_n 0, 1) := by decide +kernel
theorem dX7_run_98 : decode cX7_run 98 = .ok (.aload_n 0, 1) := by decide +kernel
theorem dX7_run_99 : decode cX7_run 99 = .ok (.getfield 17, 3) := by decide +kernel
theorem dX7_run_102 : decode cX7_run 102 = .ok (.iload_n 3, 1) := by decide +kernel
theorem dX7_run_103 : decode cX7_run 103 = .ok (.iconst 2, 1) := by decide +kernel
theorem dX7_run_104 : decode cX7_run 104 = .ok (.isub, 1) := by decide +kernel
theorem dX7_run_105 : decode cX7_run 105 = .ok (.iaload, 1) := by decide +kernel
theorem dX7_run_106 : decode cX7_run 106 = .ok (.aload_n 0, 1) := by decide +kernel
theorem dX7_run_107 : decode cX7_run 107 = .ok (.getfield 17, 3) := by decide +kernel
theorem dX7_run_110 : decode cX7_run 110 = .ok (.iload_n 3, 1) := by decide +kernel
theorem dX7_run_111 : decode cX7_run 111 = .ok (.iconst 1, 1) := by decide +kernel
theorem dX7_run_112 : decode cX7_run 112 = .ok (.isub, 1) := by decide +kernel
theorem dX7_run_113 : decode cX7_run 113 = .ok (.iaload, 1) := by decide +kernel
theorem dX7_run_114 : decode cX7_run 114 = .ok (.isub, 1) := by decide +kernel
theorem dX7_run_115 : decode cX7_run 115 = .ok (.invokevirtual 75, 3) := by decide +kernel
theorem dX7_run_118 : decode cX7_run 118 = .ok (.aload_n 0, 1) := by decide +kernel
theorem dX7_run_119 : decode cX7_run 119 = .ok (.iload_n 3, 1) := by decide +kernel
theorem dX7_run_120 : decode cX7_run 120 = .ok (.iconst 1, 1) := by decide +kernel
theorem dX7_run_121 : decode cX7_run 121 = .ok (.iadd, 1) := by decide +kernel
theorem dX7_run_122 : decode cX7_run 122 = .ok (.putfield 56, 3) := by decide +kernel
theorem dX7_run_125 : decode cX7_run 125 = .ok (.iinc 3 1, 3) := by decide +kernel
theorem dX7_run_128 : decode cX7_run 128 = .ok (.goto (-80), 3) := by decide +kernel
theorem dX7_run_131 : decode cX7_run 131 = .ok (.return_, 1) := by decide +kernel
theorem dX7_load_0 : decode cX7_load 0 = .ok (.aload_n 2, 1) := by decide +kernel
theorem dX7_load_1 : decode cX7_load 1 = .ok (.invokestatic 78, 3) := by decide +kernel
theorem dX7_load_4 : decode cX7_load 4 = .ok (.istore_n 3, 1) := by decide +kernel
theorem dX7_load_5 : decode cX7_load 5 = .ok (.aload_n 0, 1) := by decide +kernel
theorem dX7_load_6 : decode cX7_load 6 = .ok (.getfield 17, 3) := by decide +kernel
theorem dX7_load_9 : decode cX7_load 9 = .ok (.iload_n 1, 1) := by decide +kernel
theorem dX7_load_10 : decode cX7_load 10 = .ok (.iload_n 3, 1) := by decide +kernel
theorem dX7_load_11 : decode cX7_load 11 = .ok (.iastore, 1) := by decide +kernel
theorem dX7_load_12 : decode cX7_load 12 = .ok (.aload_n 0, 1) := by decide +kernel
theorem dX7_load_13 : decode cX7_load 13 = .ok (.getfield 21, 3) := by decide +kernel
theorem dX7_load_16 : decode cX7_load 16 = .ok (.iload_n 1, 1) := by decide +kernel
theorem dX7_load_17 : decode cX7_load 17 = .ok (.iload_n 3, 1) := by decide +kernel
theorem dX7_load_18 : decode cX7_load 18 = .ok (.ifCond .ge 7, 3) := by decide +kernel
theorem dX7_load_21 : decode cX7_load 21 = .ok (.iconst 0, 1) := by decide +kernel
theorem dX7_load_22 : decode cX7_load 22 = .ok (.goto 9, 3) := by decide +kernel
theorem dX7_load_25 : decode cX7_load 25 = .ok (.aload_n 2, 1) := by decide +kernel
theorem dX7_load_26 : decode cX7_load 26 = .ok (.iload_n 3, 1) := by decide +kernel
theorem dX7_load_27 : decode cX7_load 27 = .ok (.laload, 1) := by decide +kernel
theorem dX7_load_28 : decode cX7_load 28 = .ok (.invokestatic 84, 3) := by decide +kernel
theorem dX7_load_31 : decode cX7_load 31 = .ok (.iastore, 1) := by decide +kernel
theorem dX7_load_32 : decode cX7_load 32 = .ok (.iconst 0, 1) := by decide +kernel
theorem dX7_load_33 : decode cX7_load 33 = .ok (.istore 4, 2) := by decide +kernel
theorem dX7_load_35 : decode cX7_load 35 = .ok (.iload 4, 2) := by decide +kernel
theorem dX7_load_37 : decode cX7_load 37 = .ok (.bipush 9, 2) := by decide +kernel
theorem dX7_load_39 : decode cX7_load 39 = .ok (.if_icmp .ge 35, 3) := by decide +kernel
theorem dX7_load_42 : decode cX7_load 42 = .ok (.iload 4, 2) := by decide +kernel
theorem dX7_load_44 : decode cX7_load 44 = .ok (.aload_n 2, 1) := by decide +kernel
theorem dX7_load_45 : decode cX7_load 45 = .ok (.arraylength, 1) := by decide +kernel
theorem dX7_load_46 : decode cX7_load 46 = .ok (.if_icmp .ge 28, 3) := by decide +kernel
theorem dX7_load_49 : decode cX7_load 49 = .ok (.aload_n 0, 1) := by decide +kernel
theorem dX7_load_50 : decode cX7_load 50 = .ok (.getfield 13, 3) := by decide +kernel
theorem dX7_load_53 : decode cX7_load 53 = .ok (.iload_n 1, 1) := by decide +kernel
theorem dX7_load_54 : decode cX7_load 54 = .ok (.bipush 9, 2) := by decide +kernel
theorem dX7_load_56 : decode cX7_load 56 = .ok (.imul, 1) := by decide +kernel
theorem dX7_load_57 : decode cX7_load 57 = .ok (.iload 4, 2) := by decide +kernel
theorem dX7_load_59 : decode cX7_load 59 = .ok (.iadd, 1) := by decide +kernel
theorem dX7_load_60 : decode cX7_load 60 = .ok (.aaload, 1) := by decide +kernel
theorem dX7_load_61 : decode cX7_load 61 = .ok (.aload_n 2, 1) := by decide +kernel
theorem dX7_load_62 : decode cX7_load 62 = .ok (.iload 4, 2) := by decide +kernel
theorem dX7_load_64 : decode cX7_load 64 = .ok (.laload, 1) := by decide +kernel
theorem dX7_load_65 : decode cX7_load 65 = .ok (.invokevirtual 60, 3) := by decide +kernel
theorem dX7_load_68 : decode cX7_load 68 = .ok (.iinc 4 1, 3) := by decide +kernel
theorem dX7_load_71 : decode cX7_load 71 = .ok (.goto (-36), 3) := by decide +kernel
theorem dX7_load_74 : decode cX7_load 74 = .ok (.return_, 1) := by decide +kernel
theorem dX7_formRest_0 : decode cX7_formRest 0 = .ok (.iload_n 1, 1) := by decide +kernel
theorem dX7_formRest_1 : decode cX7_formRest 1 = .ok (.iconst 2, 1) := by decide +kernel
theorem dX7_formRest_2 : decode cX7_formRest 2 = .ok (.isub, 1) := by decide +kernel
theorem dX7_formRest_3 : decode cX7_formRest 3 = .ok (.bipush 9, 2) := by decide +kernel
theorem dX7_formRest_5 : decode cX7_formRest 5 = .ok (.imul, 1) := by decide +kernel
theorem dX7_formRest_6 : decode cX7_formRest 6 = .ok (.istore_n 2, 1) := by decide +kernel
theorem dX7_formRest_7 : decode cX7_formRest 7 = .ok (.iload_n 1, 1) := by decide +kernel
theorem dX7_formRest_8 : decode cX7_formRest 8 = .ok (.iconst 1, 1) := by decide +kernel
theorem dX7_formRest_9 : decode cX7_formRest 9 = .ok (.isub, 1) := by decide +kernel
theorem dX7_formRest_10 : decode cX7_formRest 10 = .ok (.bipush 9, 2) := by decide +kernel
theorem dX7_formRest_12 : decode cX7_formRest 12 = .ok (.imul, 1) := by decide +kernel
theorem dX7_formRest_13 : decode cX7_formRest 13 = .ok (.istore_n 3, 1) := by decide +kernel
theorem dX7_formRest_14 : decode cX7_formRest 14 = .ok (.aload_n 0, 1) := by decide +kernel
theorem dX7_formRest_15 : decode cX7_formRest 15 = .ok (.getfield 17, 3) := by decide +kernel
theorem dX7_formRest_18 : decode cX7_formRest 18 = .ok (.iload_n 1, 1) := by decide +kernel
theorem dX7_formRest_19 : decode cX7_formRest 19 = .ok (.iconst 2, 1) := by decide +kernel
theorem dX7_formRest_20 : decode cX7_formRest 20 = .ok (.isub, 1) := by decide +kernel
theorem dX7_formRest_21 : decode cX7_formRest 21 = .ok (.iaload, 1) := by decide +kernel
theorem dX7_formRest_22 : decode cX7_formRest 22 = .ok (.istore 4, 2) := by decide +kernel
theorem dX7_formRest_24 : decode cX7_formRest 24 = .ok (.aload_n 0, 1) := by decide +kernel
theorem dX7_formRest_25 : decode cX7_formRest 25 = .ok (.getfield 17, 3) := by decide +kernel
theorem dX7_formRest_28 : decode cX7_formRest 28 = .ok (.iload_n 1, 1) := by decide +kernel
theorem dX7_formRest_29 : decode cX7_formRest 29 = .ok (.iconst 1, 1) := by decide +kernel
theorem dX7_formRest_30 : decode cX7_formRest 30 = .ok (.isub, 1) := by decide +kernel
theorem dX7_formRest_31 : decode cX7_formRest 31 = .ok (.iaload, 1) := by decide +kernel
theorem dX7_formRest_32 : decode cX7_formRest 32 = .ok (.istore 5, 2) := by decide +kernel
theorem dX7_formRest_34 : decode cX7_formRest 34 = .ok (.iconst 0, 1) := by decide +kernel
theorem dX7_formRest_35 : decode cX7_formRest 35 = .ok (.istore 6, 2) := by decide +kernel
theorem dX7_formRest_37 : decode cX7_formRest 37 = .ok (.iload 6, 2) := by decide +kernel
theorem dX7_formRest_39 : decode cX7_formRest 39 = .ok (.iload 4, 2) := by decide +kernel
theorem dX7_formRest_41 : decode cX7_formRest 41 = .ok (.if_icmp .gt 28, 3) := by decide +kernel
theorem dX7_formRest_44 : decode cX7_formRest 44 = .ok (.aload_n 0, 1) := by decide +kernel
theorem dX7_formRest_45 : decode cX7_formRest 45 = .ok (.getfield 24, 3) := by decide +kernel
theorem dX7_formRest_48 : decode cX7_formRest 48 = .ok (.iload 6, 2) := by decide +kernel
theorem dX7_formRest_50 : decode cX7_formRest 50 = .ok (.aaload, 1) := by decide +kernel
theorem dX7_formRest_51 : decode cX7_formRest 51 = .ok (.aload_n 0, 1) := by decide +kernel
theorem dX7_formRest_52 : decode cX7_formRest 52 = .ok (.getfield 13, 3) := by decide +kernel
theorem dX7_formRest_55 : decode cX7_formRest 55 = .ok (.iload_n 2, 1) := by decide +kernel
theorem dX7_formRest_56 : decode cX7_formRest 56 = .ok (.iload 6, 2) := by decide +kernel
theorem dX7_formRest_58 : decode cX7_formRest 58 = .ok (.iadd, 1) := by decide +kernel
theorem dX7_formRest_59 : decode cX7_formRest 59 = .ok (.aaload, 1) := by decide +kernel
theorem dX7_formRest_60 : decode cX7_formRest 60 = .ok (.invokevirtual 90, 3) := by decide +kernel
theorem dX7_formRest_63 : decode cX7_formRest 63 = .ok (.iinc 6 1, 3) := by decide +kernel
theorem dX7_formRest_66 : decode cX7_formRest 66 = .ok (.goto (-29), 3) := by decide +kernel
theorem dX7_formRest_69 : decode cX7_formRest 69 = .ok (.aload_n 0, 1) := by decide +kernel
theorem dX7_formRest_70 : decode cX7_formRest 70 = .ok (.getfield 21, 3) := by decide +kernel
theorem dX7_formRest_73 : decode cX7_formRest 73 = .ok (.iload_n 1, 1) := by decide +kernel
theorem dX7_formRest_74 : decode cX7_formRest 74 = .ok (.iconst 1, 1) := by decide +kernel
theorem dX7_formRest_75 : decode cX7_formRest 75 = .ok (.isub, 1) := by decide +kernel
theorem dX7_formRest_76 : decode cX7_formRest 76 = .ok (.iaload, 1) := by decide +kernel
theorem dX7_formRest_77 : decode cX7_formRest 77 = .ok (.istore 6, 2) := by decide +kernel
theorem dX7_formRest_79 : decode cX7_formRest 79 = .ok (.aload_n 0, 1) := by decide +kernel
theorem dX7_formRest_80 : decode cX7_formRest 80 = .ok (.getfield 43, 3) := by decide +kernel
theorem dX7_formRest_83 : decode cX7_formRest 83 = .ok (.aload_n 0, 1) := by decide +kernel
theorem dX7_formRest_84 : decode cX7_formRest 84 = .ok (.getfield 13, 3) := by decide +kernel
theorem dX7_formRest_87 : decode cX7_formRest 87 = .ok (.iload_n 3, 1) := by decide +kernel
theorem dX7_formRest_88 : decode cX7_formRest 88 = .ok (.iload 5, 2) := by decide +kernel
theorem dX7_formRest_90 : decode cX7_formRest 90 = .ok (.iadd, 1) := by decide +kernel
theorem dX7_formRest_91 : decode cX7_formRest 91 = .ok (.aaload, 1) := by decide +kernel
theorem dX7_formRest_92 : decode cX7_formRest 92 = .ok (.invokevirtual 90, 3) := by decide +kernel
theorem dX7_formRest_95 : decode cX7_formRest 95 = .ok (.iload 6, 2) := by decide +kernel
theorem dX7_formRest_97 : decode cX7_formRest 97 = .ok (.ifCond .ge 10, 3) := by decide +kernel
theorem dX7_formRest_100 : decode cX7_formRest 100 = .ok (.aload_n 0, 1) := by decide +kernel
theorem dX7_formRest_101 : decode cX7_formRest 101 = .ok (.getfield 43, 3) := by decide +kernel
theorem dX7_formRest_104 : decode cX7_formRest 104 = .ok (.invokevirtual 94, 3) := by decide +kernel
theorem dX7_formRest_107 : decode cX7_formRest 107 = .ok (.iload 4, 2) := by decide +kernel
theorem dX7_formRest_109 : decode cX7_formRest 109 = .ok (.istore 7, 2) := by decide +kernel
theorem dX7_formRest_111 : decode cX7_formRest 111 = .ok (.iload 7, 2) := by decide +kernel
theorem dX7_formRest_113 : decode cX7_formRest 113 = .ok (.iload 5, 2) := by decide +kernel
theorem dX7_formRest_115 : decode cX7_formRest 115 = .ok (.if_icmp .lt 123, 3) := by decide +kernel
theorem dX7_formRest_118 : decode cX7_formRest 118 = .ok (.aload_n 0, 1) := by decide +kernel
theorem dX7_formRest_119 : decode cX7_formRest 119 = .ok (.getfield 37, 3) := by decide +kernel
theorem dX7_formRest_122 : decode cX7_formRest 122 = .ok (.aload_n 0, 1) := by decide +kernel
theorem dX7_formRest_123 : decode cX7_formRest 123 = .ok (.getfield 24, 3) := by decide +kernel
theorem dX7_formRest_126 : decode cX7_formRest 126 = .ok (.iload 7, 2) := by decide +kernel
theorem dX7_formRest_128 : decode cX7_formRest 128 = .ok (.aaload, 1) := by decide +kernel
theorem dX7_formRest_129 : decode cX7_formRest 129 = .ok (.invokevirtual 90, 3) := by decide +kernel
theorem dX7_formRest_132 : decode cX7_formRest 132 = .ok (.iconst 0, 1) := by decide +kernel
theorem dX7_formRest_133 : decode cX7_formRest 133 = .ok (.istore 8, 2) := by decide +kernel
theorem dX7_formRest_135 : decode cX7_formRest 135 = .ok (.iload 8, 2) := by decide +kernel
theorem dX7_formRest_137 : decode cX7_formRest 137 = .ok (.iload 7, 2) := by decide +kernel
theorem dX7_formRest_139 : decode cX7_formRest 139 = .ok (.if_icmp .ge 93, 3) := by decide +kernel
theorem dX7_formRest_142 : decode cX7_formRest 142 = .ok (.aload_n 0, 1) := by decide +kernel
theorem dX7_formRest_143 : decode cX7_formRest 143 = .ok (.getfield 30, 3) := by decide +kernel
theorem dX7_formRest_146 : decode cX7_formRest 146 = .ok (.aload_n 0, 1) := by decide +kernel
theorem dX7_formRest_147 : decode cX7_formRest 147 = .ok (.getfield 24, 3) := by decide +kernel
theorem dX7_formRest_150 : decode cX7_formRest 150 = .ok (.iload 8, 2) := by decide +kernel
theorem dX7_formRest_152 : decode cX7_formRest 152 = .ok (.aaload, 1) := by decide +kernel
theorem dX7_formRest_153 : decode cX7_formRest 153 = .ok (.aload_n 0, 1) := by decide +kernel
theorem dX7_formRest_154 : decode cX7_formRest 154 = .ok (.getfield 43, 3) := by decide +kernel
theorem dX7_formRest_157 : decode cX7_formRest 157 = .ok (.invokevirtual 97, 3) := by decide +kernel
theorem dX7_formRest_160 : decode cX7_formRest 160 = .ok (.iload 8, 2) := by decide +kernel
theorem dX7_formRest_162 : decode cX7_formRest 162 = .ok (.iload 7, 2) := by decide +kernel
theorem dX7_formRest_164 : decode cX7_formRest 164 = .ok (.iload 5, 2) := by decide +kernel
theorem dX7_formRest_166 : decode cX7_formRest 166 = .ok (.isub, 1) := by decide +kernel
theorem dX7_formRest_167 : decode cX7_formRest 167 = .ok (.if_icmp .lt 45, 3) := by decide +kernel
theorem dX7_formRest_170 : decode cX7_formRest 170 = .ok (.aload_n 0, 1) := by decide +kernel
theorem dX7_formRest_171 : decode cX7_formRest 171 = .ok (.getfield 34, 3) := by decide +kernel
theorem dX7_formRest_174 : decode cX7_formRest 174 = .ok (.aload_n 0, 1) := by decide +kernel
theorem dX7_formRest_175 : decode cX7_formRest 175 = .ok (.getfield 37, 3) := by decide +kernel
theorem dX7_formRest_178 : decode cX7_formRest 178 = .ok (.aload_n 0, 1) := by decide +kernel
theorem dX7_formRest_179 : decode cX7_formRest 179 = .ok (.getfield 13, 3) := by decide +kernel
theorem dX7_formRest_182 : decode cX7_formRest 182 = .ok (.iload_n 3, 1) := by decide +kernel
theorem dX7_formRest_183 : decode cX7_formRest 183 = .ok (.iload 8, 2) := by decide +kernel
theorem dX7_formRest_185 : decode cX7_formRest 185 = .ok (.iadd, 1) := by decide +kernel
theorem dX7_formRest_186 : decode cX7_formRest 186 = .ok (.iload 7, 2) := by decide +kernel
theorem dX7_formRest_188 : decode cX7_formRest 188 = .ok (.iload 5, 2) := by decide +kernel
theorem dX7_formRest_190 : decode cX7_formRest 190 = .ok (.isub, 1) := by decide +kernel
theorem dX7_formRest_191 : decode cX7_formRest 191 = .ok (.isub, 1) := by decide +kernel
theorem dX7_formRest_192 : decode cX7_formRest 192 = .ok (.aaload, 1) := by decide +kernel
theorem dX7_formRest_193 : decode cX7_formRest 193 = .ok (.invokevirtual 97, 3) := by decide +kernel
theorem dX7_formRest_196 : decode cX7_formRest 196 = .ok (.aload_n 0, 1) := by decide +kernel
theorem dX7_formRest_197 : decode cX7_formRest 197 = .ok (.getfield 30, 3) := by decide +kernel
theorem dX7_formRest_200 : decode cX7_formRest 200 = .ok (.aload_n 0, 1) := by decide +kernel
theorem dX7_formRest_201 : decode cX7_formRest 201 = .ok (.getfield 34, 3) := by decide +kernel
theorem dX7_formRest_204 : decode cX7_formRest 204 = .ok (.iload 6, 2) := by decide +kernel
theorem dX7_formRest_206 : decode cX7_formRest 206 = .ok (.ineg, 1) := by decide +kernel
theorem dX7_formRest_207 : decode cX7_formRest 207 = .ok (.i2l, 1) := by decide +kernel
theorem dX7_formRest_208 : decode cX7_formRest 208 = .ok (.iconst 0, 1) := by decide +kernel
theorem dX7_formRest_209 : decode cX7_formRest 209 = .ok (.invokevirtual 101, 3) := by decide +kernel
theorem dX7_formRest_212 : decode cX7_formRest 212 = .ok (.aload_n 0, 1) := by decide +kernel
theorem dX7_formRest_213 : decode cX7_formRest 213 = .ok (.getfield 24, 3) := by decide +kernel
theorem dX7_formRest_216 : decode cX7_formRest 216 = .ok (.iload 8, 2) := by decide +kernel
theorem dX7_formRest_218 : decode cX7_formRest 218 = .ok (.aaload, 1) := by decide +kernel
theorem dX7_formRest_219 : decode cX7_formRest 219 = .ok (.aload_n 0, 1) := by decide +kernel
theorem dX7_formRest_220 : decode cX7_formRest 220 = .ok (.getfield 30, 3) := by decide +kernel
theorem dX7_formRest_223 : decode cX7_formRest 223 = .ok (.invokevirtual 90, 3) := by decide +kernel
theorem dX7_formRest_226 : decode cX7_formRest 226 = .ok (.iinc 8 1, 3) := by decide +kernel
theorem dX7_formRest_229 : decode cX7_formRest 229 = .ok (.goto (-94), 3) := by decide +kernel
theorem dX7_formRest_232 : decode cX7_formRest 232 = .ok (.iinc 7 (-1), 3) := by decide +kernel
theorem dX7_formRest_235 : decode cX7_formRest 235 = .ok (.goto (-124), 3) := by decide +kernel
theorem dX7_formRest_238 : decode cX7_formRest 238 = .ok (.return_, 1) := by decide +kernel
theorem dX7_restDegree_0 : decode cX7_restDegree 0 = .ok (.aload_n 0, 1) := by decide +kernel
theorem dX7_restDegree_1 : decode cX7_restDegree 1 = .ok (.getfield 17, 3) := by decide +kernel
theorem dX7_restDegree_4 : decode cX7_restDegree 4 = .ok (.iload_n 1, 1) := by decide +kernel
theorem dX7_restDegree_5 : decode cX7_restDegree 5 = .ok (.iconst 1, 1) := by decide +kernel
theorem dX7_restDegree_6 : decode cX7_restDegree 6 = .ok (.isub, 1) := by decide +kernel
theorem dX7_restDegree_7 : decode cX7_restDegree 7 = .ok (.iaload, 1) := by decide +kernel
theorem dX7_restDegree_8 : decode cX7_restDegree 8 = .ok (.iconst 1, 1) := by decide +kernel
theorem dX7_restDegree_9 : decode cX7_restDegree 9 = .ok (.isub, 1) := by decide +kernel
theorem dX7_restDegree_10 : decode cX7_restDegree 10 = .ok (.istore_n 2, 1) := by decide +kernel
theorem dX7_restDegree_11 : decode cX7_restDegree 11 = .ok (.iload_n 2, 1) := by decide +kernel
theorem dX7_restDegree_12 : decode cX7_restDegree 12 = .ok (.ifCond .lt 21, 3) := by decide +kernel
theorem dX7_restDegree_15 : decode cX7_restDegree 15 = .ok (.aload_n 0, 1) := by decide +kernel
theorem dX7_restDegree_16 : decode cX7_restDegree 16 = .ok (.getfield 24, 3) := by decide +kernel
theorem dX7_restDegree_19 : decode cX7_restDegree 19 = .ok (.iload_n 2, 1) := by decide +kernel
theorem dX7_restDegree_20 : decode cX7_restDegree 20 = .ok (.aaload, 1) := by decide +kernel
theorem dX7_restDegree_21 : decode cX7_restDegree 21 = .ok (.invokevirtual 105, 3) := by decide +kernel
theorem dX7_restDegree_24 : decode cX7_restDegree 24 = .ok (.ifCond .ne 9, 3) := by decide +kernel
theorem dX7_restDegree_27 : decode cX7_restDegree 27 = .ok (.iinc 2 (-1), 3) := by decide +kernel
theorem dX7_restDegree_30 : decode cX7_restDegree 30 = .ok (.goto (-19), 3) := by decide +kernel
theorem dX7_restDegree_33 : decode cX7_restDegree 33 = .ok (.iload_n 2, 1) := by decide +kernel
theorem dX7_restDegree_34 : decode cX7_restDegree 34 = .ok (.ireturn, 1) := by decide +kernel
theorem dX7_shortenRest_0 : decode cX7_shortenRest 0 = .ok (.aload_n 0, 1) := by decide +kernel
theorem dX7_shortenRest_1 : decode cX7_shortenRest 1 = .ok (.getfield 17, 3) := by decide +kernel
theorem dX7_shortenRest_4 : decode cX7_shortenRest 4 = .ok (.iload_n 1, 1) := by decide +kernel
theorem dX7_shortenRest_5 : decode cX7_shortenRest 5 = .ok (.iconst 2, 1) := by decide +kernel
theorem dX7_shortenRest_6 : decode cX7_shortenRest 6 = .ok (.isub, 1) := by decide +kernel
theorem dX7_shortenRest_7 : decode cX7_shortenRest 7 = .ok (.iaload, 1) := by decide +kernel
theorem dX7_shortenRest_8 : decode cX7_shortenRest 8 = .ok (.aload_n 0, 1) := by decide +kernel
theorem dX7_shortenRest_9 : decode cX7_shortenRest 9 = .ok (.getfield 17, 3) := by decide +kernel
theorem dX7_shortenRest_12 : decode cX7_shortenRest 12 = .ok (.iload_n 1, 1) := by decide +kernel
theorem dX7_shortenRest_13 : decode cX7_shortenRest 13 = .ok (.iconst 1, 1) := by decide +kernel
theorem dX7_shortenRest_14 : decode cX7_shortenRest 14 = .ok (.isub, 1) := by decide +kernel
theorem dX7_shortenRest_15 : decode cX7_shortenRest 15 = .ok (.iaload, 1) := by decide +kernel
theorem dX7_shortenRest_16 : decode cX7_shortenRest 16 = .ok (.isub, 1) := by decide +kernel
theorem dX7_shortenRest_17 : decode cX7_shortenRest 17 = .ok (.istore_n 3, 1) := by decide +kernel
theorem dX7_shortenRest_18 : decode cX7_shortenRest 18 = .ok (.aload_n 0, 1) := by decide +kernel
theorem dX7_shortenRest_19 : decode cX7_shortenRest 19 = .ok (.getfield 40, 3) := by decide +kernel
theorem dX7_shortenRest_22 : decode cX7_shortenRest 22 = .ok (.aload_n 0, 1) := by decide +kernel
theorem dX7_shortenRest_23 : decode cX7_shortenRest 23 = .ok (.getfield 46, 3) := by decide +kernel
theorem dX7_shortenRest_26 : decode cX7_shortenRest 26 = .ok (.invokevirtual 90, 3) := by decide +kernel
theorem dX7_shortenRest_29 : decode cX7_shortenRest 29 = .ok (.iconst 0, 1) := by decide +kernel
theorem dX7_shortenRest_30 : decode cX7_shortenRest 30 = .ok (.istore 4, 2) := by decide +kernel
theorem dX7_shortenRest_32 : decode cX7_shortenRest 32 = .ok (.iload 4, 2) := by decide +kernel
theorem dX7_shortenRest_34 : decode cX7_shortenRest 34 = .ok (.iload_n 3, 1) := by decide +kernel
theorem dX7_shortenRest_35 : decode cX7_shortenRest 35 = .ok (.if_icmp .ge 35, 3) := by decide +kernel
theorem dX7_shortenRest_38 : decode cX7_shortenRest 38 = .ok (.aload_n 0, 1) := by decide +kernel
theorem dX7_shortenRest_39 : decode cX7_shortenRest 39 = .ok (.getfield 30, 3) := by decide +kernel
theorem dX7_shortenRest_42 : decode cX7_shortenRest 42 = .ok (.aload_n 0, 1) := by decide +kernel
theorem dX7_shortenRest_43 : decode cX7_shortenRest 43 = .ok (.getfield 40, 3) := by decide +kernel
theorem dX7_shortenRest_46 : decode cX7_shortenRest 46 = .ok (.aload_n 0, 1) := by decide +kernel
theorem dX7_shortenRest_47 : decode cX7_shortenRest 47 = .ok (.getfield 49, 3) := by decide +kernel
theorem dX7_shortenRest_50 : decode cX7_shortenRest 50 = .ok (.invokevirtual 97, 3) := by decide +kernel
theorem dX7_shortenRest_53 : decode cX7_shortenRest 53 = .ok (.aload_n 0, 1) := by decide +kernel
theorem dX7_shortenRest_54 : decode cX7_shortenRest 54 = .ok (.getfield 40, 3) := by decide +kernel
theorem dX7_shortenRest_57 : decode cX7_shortenRest 57 = .ok (.aload_n 0, 1) := by decide +kernel
theorem dX7_shortenRest_58 : decode cX7_shortenRest 58 = .ok (.getfield 30, 3) := by decide +kernel
theorem dX7_shortenRest_61 : decode cX7_shortenRest 61 = .ok (.invokevirtual 90, 3) := by decide +kernel
theorem dX7_shortenRest_64 : decode cX7_shortenRest 64 = .ok (.iinc 4 1, 3) := by decide +kernel
theorem dX7_shortenRest_67 : decode cX7_shortenRest 67 = .ok (.goto (-35), 3) := by decide +kernel
theorem dX7_shortenRest_70 : decode cX7_shortenRest 70 = .ok (.aload_n 0, 1) := by decide +kernel
theorem dX7_shortenRest_71 : decode cX7_shortenRest 71 = .ok (.getfield 40, 3) := by decide +kernel
theorem dX7_shortenRest_74 : decode cX7_shortenRest 74 = .ok (.invokevirtual 94, 3) := by decide +kernel
theorem dX7_shortenRest_77 : decode cX7_shortenRest 77 = .ok (.aload_n 0, 1) := by decide +kernel
theorem dX7_shortenRest_78 : decode cX7_shortenRest 78 = .ok (.getfield 40, 3) := by decide +kernel
theorem dX7_shortenRest_81 : decode cX7_shortenRest 81 = .ok (.invokevirtual 108, 3) := by decide +kernel
theorem dX7_shortenRest_84 : decode cX7_shortenRest 84 = .ok (.istore 4, 2) := by decide +kernel
theorem dX7_shortenRest_86 : decode cX7_shortenRest 86 = .ok (.aload_n 0, 1) := by decide +kernel
theorem dX7_shortenRest_87 : decode cX7_shortenRest 87 = .ok (.getfield 40, 3) := by decide +kernel
theorem dX7_shortenRest_90 : decode cX7_shortenRest 90 = .ok (.iload 4, 2) := by decide +kernel
theorem dX7_shortenRest_92 : decode cX7_shortenRest 92 = .ok (.invokevirtual 111, 3) := by decide +kernel
theorem dX7_shortenRest_95 : decode cX7_shortenRest 95 = .ok (.iconst 0, 1) := by decide +kernel
theorem dX7_shortenRest_96 : decode cX7_shortenRest 96 = .ok (.istore 5, 2) := by decide +kernel
theorem dX7_shortenRest_98 : decode cX7_shortenRest 98 = .ok (.iload 5, 2) := by decide +kernel
theorem dX7_shortenRest_100 : decode cX7_shortenRest 100 = .ok (.bipush 9, 2) := by decide +kernel
theorem dX7_shortenRest_102 : decode cX7_shortenRest 102 = .ok (.if_icmp .ge 66, 3) := by decide +kernel
theorem dX7_shortenRest_105 : decode cX7_shortenRest 105 = .ok (.aload_n 0, 1) := by decide +kernel
theorem dX7_shortenRest_106 : decode cX7_shortenRest 106 = .ok (.getfield 13, 3) := by decide +kernel
theorem dX7_shortenRest_109 : decode cX7_shortenRest 109 = .ok (.iload_n 1, 1) := by decide +kernel
theorem dX7_shortenRest_110 : decode cX7_shortenRest 110 = .ok (.bipush 9, 2) := by decide +kernel
theorem dX7_shortenRest_112 : decode cX7_shortenRest 112 = .ok (.imul, 1) := by decide +kernel
theorem dX7_shortenRest_113 : decode cX7_shortenRest 113 = .ok (.iload 5, 2) := by decide +kernel
theorem dX7_shortenRest_115 : decode cX7_shortenRest 115 = .ok (.iadd, 1) := by decide +kernel
theorem dX7_shortenRest_116 : decode cX7_shortenRest 116 = .ok (.aaload, 1) := by decide +kernel
theorem dX7_shortenRest_117 : decode cX7_shortenRest 117 = .ok (.astore 6, 2) := by decide +kernel
theorem dX7_shortenRest_119 : decode cX7_shortenRest 119 = .ok (.iload 5, 2) := by decide +kernel
theorem dX7_shortenRest_121 : decode cX7_shortenRest 121 = .ok (.iload_n 2, 1) := by decide +kernel
theorem dX7_shortenRest_122 : decode cX7_shortenRest 122 = .ok (.if_icmp .le 12, 3) := by decide +kernel
theorem dX7_shortenRest_125 : decode cX7_shortenRest 125 = .ok (.aload 6, 2) := by decide +kernel
theorem dX7_shortenRest_127 : decode cX7_shortenRest 127 = .ok (.lconst 0, 1) := by decide +kernel
theorem dX7_shortenRest_128 : decode cX7_shortenRest 128 = .ok (.invokevirtual 60, 3) := by decide +kernel
theorem dX7_shortenRest_131 : decode cX7_shortenRest 131 = .ok (.goto 31, 3) := by decide +kernel
theorem dX7_shortenRest_134 : decode cX7_shortenRest 134 = .ok (.aload_n 0, 1) := by decide +kernel
theorem dX7_shortenRest_135 : decode cX7_shortenRest 135 = .ok (.getfield 24, 3) := by decide +kernel
theorem dX7_shortenRest_138 : decode cX7_shortenRest 138 = .ok (.iload 5, 2) := by decide +kernel
theorem dX7_shortenRest_140 : decode cX7_shortenRest 140 = .ok (.aaload, 1) := by decide +kernel
theorem dX7_shortenRest_141 : decode cX7_shortenRest 141 = .ok (.iload 4, 2) := by decide +kernel
theorem dX7_shortenRest_143 : decode cX7_shortenRest 143 = .ok (.invokevirtual 111, 3) := by decide +kernel
theorem dX7_shortenRest_146 : decode cX7_shortenRest 146 = .ok (.aload 6, 2) := by decide +kernel
theorem dX7_shortenRest_148 : decode cX7_shortenRest 148 = .ok (.aload_n 0, 1) := by decide +kernel
theorem dX7_shortenRest_149 : decode cX7_shortenRest 149 = .ok (.getfield 24, 3) := by decide +kernel
theorem dX7_shortenRest_152 : decode cX7_shortenRest 152 = .ok (.iload 5, 2) := by decide +kernel
theorem dX7_shortenRest_154 : decode cX7_shortenRest 154 = .ok (.aaload, 1) := by decide +kernel
theorem dX7_shortenRest_155 : decode cX7_shortenRest 155 = .ok (.aload_n 0, 1) := by decide +kernel
theorem dX7_shortenRest_156 : decode cX7_shortenRest 156 = .ok (.getfield 40, 3) := by decide +kernel
theorem dX7_shortenRest_159 : decode cX7_shortenRest 159 = .ok (.invokevirtual 114, 3) := by decide +kernel
theorem dX7_shortenRest_162 : decode cX7_shortenRest 162 = .ok (.iinc 5 1, 3) := by decide +kernel
theorem dX7_shortenRest_165 : decode cX7_shortenRest 165 = .ok (.goto (-67), 3) := by decide +kernel
theorem dX7_shortenRest_168 : decode cX7_shortenRest 168 = .ok (.aload_n 0, 1) := by decide +kernel
theorem dX7_shortenRest_169 : decode cX7_shortenRest 169 = .ok (.getfield 17, 3) := by decide +kernel
theorem dX7_shortenRest_172 : decode cX7_shortenRest 172 = .ok (.iload_n 1, 1) := by decide +kernel
theorem dX7_shortenRest_173 : decode cX7_shortenRest 173 = .ok (.iload_n 2, 1) := by decide +kernel
theorem dX7_shortenRest_174 : decode cX7_shortenRest 174 = .ok (.iastore, 1) := by decide +kernel
theorem dX7_shortenRest_175 : decode cX7_shortenRest 175 = .ok (.aload_n 0, 1) := by decide +kernel
theorem dX7_shortenRest_176 : decode cX7_shortenRest 176 = .ok (.getfield 21, 3) := by decide +kernel
theorem dX7_shortenRest_179 : decode cX7_shortenRest 179 = .ok (.iload_n 1, 1) := by decide +kernel
theorem dX7_shortenRest_180 : decode cX7_shortenRest 180 = .ok (.aload_n 0, 1) := by decide +kernel
theorem dX7_shortenRest_181 : decode cX7_shortenRest 181 = .ok (.getfield 13, 3) := by decide +kernel
theorem dX7_shortenRest_184 : decode cX7_shortenRest 184 = .ok (.iload_n 1, 1) := by decide +kernel
theorem dX7_shortenRest_185 : decode cX7_shortenRest 185 = .ok (.bipush 9, 2) := by decide +kernel
theorem dX7_shortenRest_187 : decode cX7_shortenRest 187 = .ok (.imul, 1) := by decide +kernel
theorem dX7_shortenRest_188 : decode cX7_shortenRest 188 = .ok (.iload_n 2, 1) := by decide +kernel
theorem dX7_shortenRest_189 : decode cX7_shortenRest 189 = .ok (.iadd, 1) := by decide +kernel
theorem dX7_shortenRest_190 : decode cX7_shortenRest 190 = .ok (.aaload, 1) := by decide +kernel
theorem dX7_shortenRest_191 : decode cX7_shortenRest 191 = .ok (.invokevirtual 105, 3) := by decide +kernel
theorem dX7_shortenRest_194 : decode cX7_shortenRest 194 = .ok (.iastore, 1) := by decide +kernel
theorem dX7_shortenRest_195 : decode cX7_shortenRest 195 = .ok (.return_, 1) := by decide +kernel
theorem dX7_raiseHeight_0 : decode cX7_raiseHeight 0 = .ok (.aload_n 0, 1) := by decide +kernel
theorem dX7_raiseHeight_1 : decode cX7_raiseHeight 1 = .ok (.getfield 46, 3) := by decide +kernel
theorem dX7_raiseHeight_4 : decode cX7_raiseHeight 4 = .ok (.aload_n 0, 1) := by decide +kernel
theorem dX7_raiseHeight_5 : decode cX7_raiseHeight 5 = .ok (.getfield 43, 3) := by decide +kernel
theorem dX7_raiseHeight_8 : decode cX7_raiseHeight 8 = .ok (.invokevirtual 90, 3) := by decide +kernel
theorem dX7_raiseHeight_11 : decode cX7_raiseHeight 11 = .ok (.iload_n 1, 1) := by decide +kernel
theorem dX7_raiseHeight_12 : decode cX7_raiseHeight 12 = .ok (.iconst 1, 1) := by decide +kernel
theorem dX7_raiseHeight_13 : decode cX7_raiseHeight 13 = .ok (.if_icmp .ge 4, 3) := by decide +kernel
theorem dX7_raiseHeight_16 : decode cX7_raiseHeight 16 = .ok (.return_, 1) := by decide +kernel
theorem dX7_raiseHeight_17 : decode cX7_raiseHeight 17 = .ok (.aload_n 0, 1) := by decide +kernel
theorem dX7_raiseHeight_18 : decode cX7_raiseHeight 18 = .ok (.getfield 30, 3) := by decide +kernel
theorem dX7_raiseHeight_21 : decode cX7_raiseHeight 21 = .ok (.aload_n 0, 1) := by decide +kernel
theorem dX7_raiseHeight_22 : decode cX7_raiseHeight 22 = .ok (.getfield 46, 3) := by decide +kernel
theorem dX7_raiseHeight_25 : decode cX7_raiseHeight 25 = .ok (.invokevirtual 90, 3) := by decide +kernel
theorem dX7_raiseHeight_28 : decode cX7_raiseHeight 28 = .ok (.aload_n 0, 1) := by decide +kernel
theorem dX7_raiseHeight_29 : decode cX7_raiseHeight 29 = .ok (.getfield 40, 3) := by decide +kernel
theorem dX7_raiseHeight_32 : decode cX7_raiseHeight 32 = .ok (.lconst 1, 1) := by decide +kernel
theorem dX7_raiseHeight_33 : decode cX7_raiseHeight 33 = .ok (.invokevirtual 60, 3) := by decide +kernel
theorem dX7_raiseHeight_36 : decode cX7_raiseHeight 36 = .ok (.iconst 1, 1) := by decide +kernel
theorem dX7_raiseHeight_37 : decode cX7_raiseHeight 37 = .ok (.istore_n 2, 1) := by decide +kernel
theorem dX7_raiseHeight_38 : decode cX7_raiseHeight 38 = .ok (.iload_n 2, 1) := by decide +kernel
theorem dX7_raiseHeight_39 : decode cX7_raiseHeight 39 = .ok (.iload_n 1, 1) := by decide +kernel
theorem dX7_raiseHeight_40 : decode cX7_raiseHeight 40 = .ok (.if_icmp .ge 61, 3) := by decide +kernel
theorem dX7_raiseHeight_43 : decode cX7_raiseHeight 43 = .ok (.aload_n 0, 1) := by decide +kernel
theorem dX7_raiseHeight_44 : decode cX7_raiseHeight 44 = .ok (.getfield 34, 3) := by decide +kernel
theorem dX7_raiseHeight_47 : decode cX7_raiseHeight 47 = .ok (.aload_n 0, 1) := by decide +kernel
theorem dX7_raiseHeight_48 : decode cX7_raiseHeight 48 = .ok (.getfield 30, 3) := by decide +kernel
theorem dX7_raiseHeight_51 : decode cX7_raiseHeight 51 = .ok (.aload_n 0, 1) := by decide +kernel
theorem dX7_raiseHeight_52 : decode cX7_raiseHeight 52 = .ok (.getfield 46, 3) := by decide +kernel
theorem dX7_raiseHeight_55 : decode cX7_raiseHeight 55 = .ok (.invokevirtual 97, 3) := by decide +kernel
theorem dX7_raiseHeight_58 : decode cX7_raiseHeight 58 = .ok (.aload_n 0, 1) := by decide +kernel
theorem dX7_raiseHeight_59 : decode cX7_raiseHeight 59 = .ok (.getfield 30, 3) := by decide +kernel
theorem dX7_raiseHeight_62 : decode cX7_raiseHeight 62 = .ok (.aload_n 0, 1) := by decide +kernel
theorem dX7_raiseHeight_63 : decode cX7_raiseHeight 63 = .ok (.getfield 34, 3) := by decide +kernel
theorem dX7_raiseHeight_66 : decode cX7_raiseHeight 66 = .ok (.invokevirtual 90, 3) := by decide +kernel
theorem dX7_raiseHeight_69 : decode cX7_raiseHeight 69 = .ok (.aload_n 0, 1) := by decide +kernel
theorem dX7_raiseHeight_70 : decode cX7_raiseHeight 70 = .ok (.getfield 34, 3) := by decide +kernel
theorem dX7_raiseHeight_73 : decode cX7_raiseHeight 73 = .ok (.aload_n 0, 1) := by decide +kernel
theorem dX7_raiseHeight_74 : decode cX7_raiseHeight 74 = .ok (.getfield 40, 3) := by decide +kernel
theorem dX7_raiseHeight_77 : decode cX7_raiseHeight 77 = .ok (.aload_n 0, 1) := by decide +kernel
theorem dX7_raiseHeight_78 : decode cX7_raiseHeight 78 = .ok (.getfield 49, 3) := by decide +kernel
theorem dX7_raiseHeight_81 : decode cX7_raiseHeight 81 = .ok (.invokevirtual 97, 3) := by decide +kernel
theorem dX7_raiseHeight_84 : decode cX7_raiseHeight 84 = .ok (.aload_n 0, 1) := by decide +kernel
theorem dX7_raiseHeight_85 : decode cX7_raiseHeight 85 = .ok (.getfield 40, 3) := by decide +kernel
theorem dX7_raiseHeight_88 : decode cX7_raiseHeight 88 = .ok (.aload_n 0, 1) := by decide +kernel
theorem dX7_raiseHeight_89 : decode cX7_raiseHeight 89 = .ok (.getfield 34, 3) := by decide +kernel
theorem dX7_raiseHeight_92 : decode cX7_raiseHeight 92 = .ok (.invokevirtual 90, 3) := by decide +kernel
theorem dX7_raiseHeight_95 : decode cX7_raiseHeight 95 = .ok (.iinc 2 1, 3) := by decide +kernel
theorem dX7_raiseHeight_98 : decode cX7_raiseHeight 98 = .ok (.goto (-60), 3) := by decide +kernel
theorem dX7_raiseHeight_101 : decode cX7_raiseHeight 101 = .ok (.aload_n 0, 1) := by decide +kernel
theorem dX7_raiseHeight_102 : decode cX7_raiseHeight 102 = .ok (.getfield 40, 3) := by decide +kernel
theorem dX7_raiseHeight_105 : decode cX7_raiseHeight 105 = .ok (.invokevirtual 108, 3) := by decide +kernel
theorem dX7_raiseHeight_108 : decode cX7_raiseHeight 108 = .ok (.istore_n 2, 1) := by decide +kernel
theorem dX7_raiseHeight_109 : decode cX7_raiseHeight 109 = .ok (.aload_n 0, 1) := by decide +kernel
theorem dX7_raiseHeight_110 : decode cX7_raiseHeight 110 = .ok (.getfield 40, 3) := by decide +kernel
theorem dX7_raiseHeight_113 : decode cX7_raiseHeight 113 = .ok (.iload_n 2, 1) := by decide +kernel
theorem dX7_raiseHeight_114 : decode cX7_raiseHeight 114 = .ok (.invokevirtual 111, 3) := by decide +kernel
theorem dX7_raiseHeight_117 : decode cX7_raiseHeight 117 = .ok (.aload_n 0, 1) := by decide +kernel
theorem dX7_raiseHeight_118 : decode cX7_raiseHeight 118 = .ok (.getfield 30, 3) := by decide +kernel
theorem dX7_raiseHeight_121 : decode cX7_raiseHeight 121 = .ok (.iload_n 2, 1) := by decide +kernel
theorem dX7_raiseHeight_122 : decode cX7_raiseHeight 122 = .ok (.invokevirtual 111, 3) := by decide +kernel
theorem dX7_raiseHeight_125 : decode cX7_raiseHeight 125 = .ok (.aload_n 0, 1) := by decide +kernel
theorem dX7_raiseHeight_126 : decode cX7_raiseHeight 126 = .ok (.getfield 49, 3) := by decide +kernel
theorem dX7_raiseHeight_129 : decode cX7_raiseHeight 129 = .ok (.aload_n 0, 1) := by decide +kernel
theorem dX7_raiseHeight_130 : decode cX7_raiseHeight 130 = .ok (.getfield 30, 3) := by decide +kernel
theorem dX7_raiseHeight_133 : decode cX7_raiseHeight 133 = .ok (.aload_n 0, 1) := by decide +kernel
theorem dX7_raiseHeight_134 : decode cX7_raiseHeight 134 = .ok (.getfield 40, 3) := by decide +kernel
theorem dX7_raiseHeight_137 : decode cX7_raiseHeight 137 = .ok (.invokevirtual 114, 3) := by decide +kernel
theorem dX7_raiseHeight_140 : decode cX7_raiseHeight 140 = .ok (.return_, 1) := by decide +kernel
theorem dX7_lastDegree_0 : decode cX7_lastDegree 0 = .ok (.aload_n 0, 1) := by decide +kernel
theorem dX7_lastDegree_1 : decode cX7_lastDegree 1 = .ok (.getfield 56, 3) := by decide +kernel
theorem dX7_lastDegree_4 : decode cX7_lastDegree 4 = .ok (.ifCond .le 26, 3) := by decide +kernel
theorem dX7_lastDegree_7 : decode cX7_lastDegree 7 = .ok (.aload_n 0, 1) := by decide +kernel
theorem dX7_lastDegree_8 : decode cX7_lastDegree 8 = .ok (.getfield 56, 3) := by decide +kernel
theorem dX7_lastDegree_11 : decode cX7_lastDegree 11 = .ok (.bipush 10, 2) := by decide +kernel
theorem dX7_lastDegree_13 : decode cX7_lastDegree 13 = .ok (.if_icmp .gt 17, 3) := by decide +kernel
theorem dX7_lastDegree_16 : decode cX7_lastDegree 16 = .ok (.aload_n 0, 1) := by decide +kernel
theorem dX7_lastDegree_17 : decode cX7_lastDegree 17 = .ok (.getfield 17, 3) := by decide +kernel
theorem dX7_lastDegree_20 : decode cX7_lastDegree 20 = .ok (.aload_n 0, 1) := by decide +kernel
theorem dX7_lastDegree_21 : decode cX7_lastDegree 21 = .ok (.getfield 56, 3) := by decide +kernel
theorem dX7_lastDegree_24 : decode cX7_lastDegree 24 = .ok (.iconst 1, 1) := by decide +kernel
theorem dX7_lastDegree_25 : decode cX7_lastDegree 25 = .ok (.isub, 1) := by decide +kernel
theorem dX7_lastDegree_26 : decode cX7_lastDegree 26 = .ok (.iaload, 1) := by decide +kernel
theorem dX7_lastDegree_27 : decode cX7_lastDegree 27 = .ok (.goto 4, 3) := by decide +kernel
theorem dX7_lastDegree_30 : decode cX7_lastDegree 30 = .ok (.iconst (-1), 1) := by decide +kernel
theorem dX7_lastDegree_31 : decode cX7_lastDegree 31 = .ok (.ireturn, 1) := by decide +kernel
theorem dX7_changesBelow_0 : decode cX7_changesBelow 0 = .ok (.iconst 0, 1) := by decide +kernel
theorem dX7_changesBelow_1 : decode cX7_changesBelow 1 = .ok (.istore_n 1, 1) := by decide +kernel
theorem dX7_changesBelow_2 : decode cX7_changesBelow 2 = .ok (.iconst 1, 1) := by decide +kernel
theorem dX7_changesBelow_3 : decode cX7_changesBelow 3 = .ok (.istore_n 2, 1) := by decide +kernel
theorem dX7_changesBelow_4 : decode cX7_changesBelow 4 = .ok (.iload_n 2, 1) := by decide +kernel
theorem dX7_changesBelow_5 : decode cX7_changesBelow 5 = .ok (.aload_n 0, 1) := by decide +kernel
theorem dX7_changesBelow_6 : decode cX7_changesBelow 6 = .ok (.getfield 56, 3) := by decide +kernel
theorem dX7_changesBelow_9 : decode cX7_changesBelow 9 = .ok (.if_icmp .ge 74, 3) := by decide +kernel
theorem dX7_changesBelow_12 : decode cX7_changesBelow 12 = .ok (.iload_n 2, 1) := by decide +kernel
theorem dX7_changesBelow_13 : decode cX7_changesBelow 13 = .ok (.bipush 10, 2) := by decide +kernel
theorem dX7_changesBelow_15 : decode cX7_changesBelow 15 = .ok (.if_icmp .ge 68, 3) := by decide +kernel
theorem dX7_changesBelow_18 : decode cX7_changesBelow 18 = .ok (.aload_n 0, 1) := by decide +kernel
theorem dX7_changesBelow_19 : decode cX7_changesBelow 19 = .ok (.getfield 17, 3) := by decide +kernel
theorem dX7_changesBelow_22 : decode cX7_changesBelow 22 = .ok (.iload_n 2, 1) := by decide +kernel
theorem dX7_changesBelow_23 : decode cX7_changesBelow 23 = .ok (.iaload, 1) := by decide +kernel
theorem dX7_changesBelow_24 : decode cX7_changesBelow 24 = .ok (.aload_n 0, 1) := by decide +kernel
theorem dX7_changesBelow_25 : decode cX7_changesBelow 25 = .ok (.getfield 17, 3) := by decide +kernel
theorem dX7_changesBelow_28 : decode cX7_changesBelow 28 = .ok (.iload_n 2, 1) := by decide +kernel
theorem dX7_changesBelow_29 : decode cX7_changesBelow 29 = .ok (.iconst 1, 1) := by decide +kernel
theorem dX7_changesBelow_30 : decode cX7_changesBelow 30 = .ok (.isub, 1) := by decide +kernel
theorem dX7_changesBelow_31 : decode cX7_changesBelow 31 = .ok (.iaload, 1) := by decide +kernel
theorem dX7_changesBelow_32 : decode cX7_changesBelow 32 = .ok (.ixor, 1) := by decide +kernel
theorem dX7_changesBelow_33 : decode cX7_changesBelow 33 = .ok (.iconst 1, 1) := by decide +kernel
theorem dX7_changesBelow_34 : decode cX7_changesBelow 34 = .ok (.iand, 1) := by decide +kernel
theorem dX7_changesBelow_35 : decode cX7_changesBelow 35 = .ok (.ifCond .eq 7, 3) := by decide +kernel
theorem dX7_changesBelow_38 : decode cX7_changesBelow 38 = .ok (.iconst 1, 1) := by decide +kernel
theorem dX7_changesBelow_39 : decode cX7_changesBelow 39 = .ok (.goto 4, 3) := by decide +kernel
theorem dX7_changesBelow_42 : decode cX7_changesBelow 42 = .ok (.iconst 0, 1) := by decide +kernel
theorem dX7_changesBelow_43 : decode cX7_changesBelow 43 = .ok (.istore_n 3, 1) := by decide +kernel
theorem dX7_changesBelow_44 : decode cX7_changesBelow 44 = .ok (.aload_n 0, 1) := by decide +kernel
theorem dX7_changesBelow_45 : decode cX7_changesBelow 45 = .ok (.getfield 21, 3) := by decide +kernel
theorem dX7_changesBelow_48 : decode cX7_changesBelow 48 = .ok (.iload_n 2, 1) := by decide +kernel
theorem dX7_changesBelow_49 : decode cX7_changesBelow 49 = .ok (.iaload, 1) := by decide +kernel
theorem dX7_changesBelow_50 : decode cX7_changesBelow 50 = .ok (.aload_n 0, 1) := by decide +kernel
theorem dX7_changesBelow_51 : decode cX7_changesBelow 51 = .ok (.getfield 21, 3) := by decide +kernel
theorem dX7_changesBelow_54 : decode cX7_changesBelow 54 = .ok (.iload_n 2, 1) := by decide +kernel
theorem dX7_changesBelow_55 : decode cX7_changesBelow 55 = .ok (.iconst 1, 1) := by decide +kernel
theorem dX7_changesBelow_56 : decode cX7_changesBelow 56 = .ok (.isub, 1) := by decide +kernel
theorem dX7_changesBelow_57 : decode cX7_changesBelow 57 = .ok (.iaload, 1) := by decide +kernel
theorem dX7_changesBelow_58 : decode cX7_changesBelow 58 = .ok (.if_icmp .eq 7, 3) := by decide +kernel
theorem dX7_changesBelow_61 : decode cX7_changesBelow 61 = .ok (.iconst 1, 1) := by decide +kernel
theorem dX7_changesBelow_62 : decode cX7_changesBelow 62 = .ok (.goto 4, 3) := by decide +kernel
theorem dX7_changesBelow_65 : decode cX7_changesBelow 65 = .ok (.iconst 0, 1) := by decide +kernel
theorem dX7_changesBelow_66 : decode cX7_changesBelow 66 = .ok (.istore 4, 2) := by decide +kernel
theorem dX7_changesBelow_68 : decode cX7_changesBelow 68 = .ok (.iload_n 3, 1) := by decide +kernel
theorem dX7_changesBelow_69 : decode cX7_changesBelow 69 = .ok (.iload 4, 2) := by decide +kernel
theorem dX7_changesBelow_71 : decode cX7_changesBelow 71 = .ok (.if_icmp .eq 6, 3) := by decide +kernel
theorem dX7_changesBelow_74 : decode cX7_changesBelow 74 = .ok (.iinc 1 1, 3) := by decide +kernel
theorem dX7_changesBelow_77 : decode cX7_changesBelow 77 = .ok (.iinc 2 1, 3) := by decide +kernel
theorem dX7_changesBelow_80 : decode cX7_changesBelow 80 = .ok (.goto (-76), 3) := by decide +kernel
theorem dX7_changesBelow_83 : decode cX7_changesBelow 83 = .ok (.iload_n 1, 1) := by decide +kernel
theorem dX7_changesBelow_84 : decode cX7_changesBelow 84 = .ok (.ireturn, 1) := by decide +kernel
theorem dX7_jumps_0 : decode cX7_jumps 0 = .ok (.iconst 0, 1) := by decide +kernel
theorem dX7_jumps_1 : decode cX7_jumps 1 = .ok (.istore_n 1, 1) := by decide +kernel
theorem dX7_jumps_2 : decode cX7_jumps 2 = .ok (.iconst 1, 1) := by decide +kernel
theorem dX7_jumps_3 : decode cX7_jumps 3 = .ok (.istore_n 2, 1) := by decide +kernel
theorem dX7_jumps_4 : decode cX7_jumps 4 = .ok (.iload_n 2, 1) := by decide +kernel
theorem dX7_jumps_5 : decode cX7_jumps 5 = .ok (.aload_n 0, 1) := by decide +kernel
theorem dX7_jumps_6 : decode cX7_jumps 6 = .ok (.getfield 56, 3) := by decide +kernel
theorem dX7_jumps_9 : decode cX7_jumps 9 = .ok (.if_icmp .ge 35, 3) := by decide +kernel
theorem dX7_jumps_12 : decode cX7_jumps 12 = .ok (.iload_n 2, 1) := by decide +kernel
theorem dX7_jumps_13 : decode cX7_jumps 13 = .ok (.bipush 10, 2) := by decide +kernel
theorem dX7_jumps_15 : decode cX7_jumps 15 = .ok (.if_icmp .ge 29, 3) := by decide +kernel
theorem dX7_jumps_18 : decode cX7_jumps 18 = .ok (.aload_n 0, 1) := by decide +kernel
theorem dX7_jumps_19 : decode cX7_jumps 19 = .ok (.getfield 21, 3) := by decide +kernel
theorem dX7_jumps_22 : decode cX7_jumps 22 = .ok (.iload_n 2, 1) := by decide +kernel
theorem dX7_jumps_23 : decode cX7_jumps 23 = .ok (.iaload, 1) := by decide +kernel
theorem dX7_jumps_24 : decode cX7_jumps 24 = .ok (.aload_n 0, 1) := by decide +kernel
theorem dX7_jumps_25 : decode cX7_jumps 25 = .ok (.getfield 21, 3) := by decide +kernel
theorem dX7_jumps_28 : decode cX7_jumps 28 = .ok (.iload_n 2, 1) := by decide +kernel
theorem dX7_jumps_29 : decode cX7_jumps 29 = .ok (.iconst 1, 1) := by decide +kernel
theorem dX7_jumps_30 : decode cX7_jumps 30 = .ok (.isub, 1) := by decide +kernel
theorem dX7_jumps_31 : decode cX7_jumps 31 = .ok (.iaload, 1) := by decide +kernel
theorem dX7_jumps_32 : decode cX7_jumps 32 = .ok (.if_icmp .eq 6, 3) := by decide +kernel
theorem dX7_jumps_35 : decode cX7_jumps 35 = .ok (.iinc 1 1, 3) := by decide +kernel
theorem dX7_jumps_38 : decode cX7_jumps 38 = .ok (.iinc 2 1, 3) := by decide +kernel
theorem dX7_jumps_41 : decode cX7_jumps 41 = .ok (.goto (-37), 3) := by decide +kernel
theorem dX7_jumps_44 : decode cX7_jumps 44 = .ok (.aload_n 0, 1) := by decide +kernel
theorem dX7_jumps_45 : decode cX7_jumps 45 = .ok (.invokevirtual 117, 3) := by decide +kernel
theorem dX7_jumps_48 : decode cX7_jumps 48 = .ok (.iload_n 1, 1) := by decide +kernel
theorem dX7_jumps_49 : decode cX7_jumps 49 = .ok (.isub, 1) := by decide +kernel
theorem dX7_jumps_50 : decode cX7_jumps 50 = .ok (.ireturn, 1) := by decide +kernel
theorem dX7_copyDivisor_0 : decode cX7_copyDivisor 0 = .ok (.iconst 0, 1) := by decide +kernel
theorem dX7_copyDivisor_1 : decode cX7_copyDivisor 1 = .ok (.istore_n 2, 1) := by decide +kernel
theorem dX7_copyDivisor_2 : decode cX7_copyDivisor 2 = .ok (.iload_n 2, 1) := by decide +kernel
theorem dX7_copyDivisor_3 : decode cX7_copyDivisor 3 = .ok (.aload_n 1, 1) := by decide +kernel
theorem dX7_copyDivisor_4 : decode cX7_copyDivisor 4 = .ok (.arraylength, 1) := by decide +kernel
theorem dX7_copyDivisor_5 : decode cX7_copyDivisor 5 = .ok (.if_icmp .ge 13, 3) := by decide +kernel
theorem dX7_copyDivisor_8 : decode cX7_copyDivisor 8 = .ok (.aload_n 1, 1) := by decide +kernel
theorem dX7_copyDivisor_9 : decode cX7_copyDivisor 9 = .ok (.iload_n 2, 1) := by decide +kernel
theorem dX7_copyDivisor_10 : decode cX7_copyDivisor 10 = .ok (.lconst 0, 1) := by decide +kernel
theorem dX7_copyDivisor_11 : decode cX7_copyDivisor 11 = .ok (.lastore, 1) := by decide +kernel
theorem dX7_copyDivisor_12 : decode cX7_copyDivisor 12 = .ok (.iinc 2 1, 3) := by decide +kernel
theorem dX7_copyDivisor_15 : decode cX7_copyDivisor 15 = .ok (.goto (-13), 3) := by decide +kernel
theorem dX7_copyDivisor_18 : decode cX7_copyDivisor 18 = .ok (.aload_n 0, 1) := by decide +kernel
theorem dX7_copyDivisor_19 : decode cX7_copyDivisor 19 = .ok (.invokevirtual 120, 3) := by decide +kernel
theorem dX7_copyDivisor_22 : decode cX7_copyDivisor 22 = .ok (.istore_n 2, 1) := by decide +kernel
theorem dX7_copyDivisor_23 : decode cX7_copyDivisor 23 = .ok (.iload_n 2, 1) := by decide +kernel
theorem dX7_copyDivisor_24 : decode cX7_copyDivisor 24 = .ok (.ifCond .gt 8, 3) := by decide +kernel
theorem dX7_copyDivisor_27 : decode cX7_copyDivisor 27 = .ok (.aload_n 1, 1) := by decide +kernel
theorem dX7_copyDivisor_28 : decode cX7_copyDivisor 28 = .ok (.iconst 0, 1) := by decide +kernel
theorem dX7_copyDivisor_29 : decode cX7_copyDivisor 29 = .ok (.lconst 1, 1) := by decide +kernel
theorem dX7_copyDivisor_30 : decode cX7_copyDivisor 30 = .ok (.lastore, 1) := by decide +kernel
theorem dX7_copyDivisor_31 : decode cX7_copyDivisor 31 = .ok (.return_, 1) := by decide +kernel
theorem dX7_copyDivisor_32 : decode cX7_copyDivisor 32 = .ok (.aload_n 0, 1) := by decide +kernel
theorem dX7_copyDivisor_33 : decode cX7_copyDivisor 33 = .ok (.getfield 56, 3) := by decide +kernel
theorem dX7_copyDivisor_36 : decode cX7_copyDivisor 36 = .ok (.iconst 1, 1) := by decide +kernel
theorem dX7_copyDivisor_37 : decode cX7_copyDivisor 37 = .ok (.isub, 1) := by decide +kernel
theorem dX7_copyDivisor_38 : decode cX7_copyDivisor 38 = .ok (.bipush 9, 2) := by decide +kernel
theorem dX7_copyDivisor_40 : decode cX7_copyDivisor 40 = .ok (.imul, 1) := by decide +kernel
theorem dX7_copyDivisor_41 : decode cX7_copyDivisor 41 = .ok (.istore_n 3, 1) := by decide +kernel
theorem dX7_copyDivisor_42 : decode cX7_copyDivisor 42 = .ok (.aload_n 0, 1) := by decide +kernel
theorem dX7_copyDivisor_43 : decode cX7_copyDivisor 43 = .ok (.getfield 40, 3) := by decide +kernel
theorem dX7_copyDivisor_46 : decode cX7_copyDivisor 46 = .ok (.aload_n 0, 1) := by decide +kernel
theorem dX7_copyDivisor_47 : decode cX7_copyDivisor 47 = .ok (.getfield 13, 3) := by decide +kernel
theorem dX7_copyDivisor_50 : decode cX7_copyDivisor 50 = .ok (.iload_n 3, 1) := by decide +kernel
theorem dX7_copyDivisor_51 : decode cX7_copyDivisor 51 = .ok (.iload_n 2, 1) := by decide +kernel
theorem dX7_copyDivisor_52 : decode cX7_copyDivisor 52 = .ok (.iadd, 1) := by decide +kernel
theorem dX7_copyDivisor_53 : decode cX7_copyDivisor 53 = .ok (.aaload, 1) := by decide +kernel
theorem dX7_copyDivisor_54 : decode cX7_copyDivisor 54 = .ok (.invokevirtual 90, 3) := by decide +kernel
theorem dX7_copyDivisor_57 : decode cX7_copyDivisor 57 = .ok (.aload_n 0, 1) := by decide +kernel
theorem dX7_copyDivisor_58 : decode cX7_copyDivisor 58 = .ok (.getfield 40, 3) := by decide +kernel
theorem dX7_copyDivisor_61 : decode cX7_copyDivisor 61 = .ok (.invokevirtual 108, 3) := by decide +kernel
theorem dX7_copyDivisor_64 : decode cX7_copyDivisor 64 = .ok (.istore 4, 2) := by decide +kernel
theorem dX7_copyDivisor_66 : decode cX7_copyDivisor 66 = .ok (.aload_n 0, 1) := by decide +kernel
theorem dX7_copyDivisor_67 : decode cX7_copyDivisor 67 = .ok (.getfield 40, 3) := by decide +kernel
theorem dX7_copyDivisor_70 : decode cX7_copyDivisor 70 = .ok (.iload 4, 2) := by decide +kernel
theorem dX7_copyDivisor_72 : decode cX7_copyDivisor 72 = .ok (.invokevirtual 111, 3) := by decide +kernel
theorem dX7_copyDivisor_75 : decode cX7_copyDivisor 75 = .ok (.iconst 0, 1) := by decide +kernel
theorem dX7_copyDivisor_76 : decode cX7_copyDivisor 76 = .ok (.istore 5, 2) := by decide +kernel
theorem dX7_copyDivisor_78 : decode cX7_copyDivisor 78 = .ok (.iload 5, 2) := by decide +kernel
theorem dX7_copyDivisor_80 : decode cX7_copyDivisor 80 = .ok (.iload_n 2, 1) := by decide +kernel
theorem dX7_copyDivisor_81 : decode cX7_copyDivisor 81 = .ok (.if_icmp .gt 78, 3) := by decide +kernel
theorem dX7_copyDivisor_84 : decode cX7_copyDivisor 84 = .ok (.iload 5, 2) := by decide +kernel
theorem dX7_copyDivisor_86 : decode cX7_copyDivisor 86 = .ok (.aload_n 1, 1) := by decide +kernel
theorem dX7_copyDivisor_87 : decode cX7_copyDivisor 87 = .ok (.arraylength, 1) := by decide +kernel
theorem dX7_copyDivisor_88 : decode cX7_copyDivisor 88 = .ok (.if_icmp .ge 71, 3) := by decide +kernel
theorem dX7_copyDivisor_91 : decode cX7_copyDivisor 91 = .ok (.aload_n 0, 1) := by decide +kernel
theorem dX7_copyDivisor_92 : decode cX7_copyDivisor 92 = .ok (.getfield 30, 3) := by decide +kernel
theorem dX7_copyDivisor_95 : decode cX7_copyDivisor 95 = .ok (.aload_n 0, 1) := by decide +kernel
theorem dX7_copyDivisor_96 : decode cX7_copyDivisor 96 = .ok (.getfield 13, 3) := by decide +kernel
theorem dX7_copyDivisor_99 : decode cX7_copyDivisor 99 = .ok (.iload_n 3, 1) := by decide +kernel
theorem dX7_copyDivisor_100 : decode cX7_copyDivisor 100 = .ok (.iload 5, 2) := by decide +kernel
theorem dX7_copyDivisor_102 : decode cX7_copyDivisor 102 = .ok (.iadd, 1) := by decide +kernel
theorem dX7_copyDivisor_103 : decode cX7_copyDivisor 103 = .ok (.aaload, 1) := by decide +kernel
theorem dX7_copyDivisor_104 : decode cX7_copyDivisor 104 = .ok (.aload_n 0, 1) := by decide +kernel
theorem dX7_copyDivisor_105 : decode cX7_copyDivisor 105 = .ok (.getfield 13, 3) := by decide +kernel
theorem dX7_copyDivisor_108 : decode cX7_copyDivisor 108 = .ok (.aload_n 0, 1) := by decide +kernel
theorem dX7_copyDivisor_109 : decode cX7_copyDivisor 109 = .ok (.getfield 17, 3) := by decide +kernel
theorem dX7_copyDivisor_112 : decode cX7_copyDivisor 112 = .ok (.iconst 0, 1) := by decide +kernel
theorem dX7_copyDivisor_113 : decode cX7_copyDivisor 113 = .ok (.iaload, 1) := by decide +kernel
theorem dX7_copyDivisor_114 : decode cX7_copyDivisor 114 = .ok (.aaload, 1) := by decide +kernel
theorem dX7_copyDivisor_115 : decode cX7_copyDivisor 115 = .ok (.invokevirtual 97, 3) := by decide +kernel
theorem dX7_copyDivisor_118 : decode cX7_copyDivisor 118 = .ok (.aload_n 0, 1) := by decide +kernel
theorem dX7_copyDivisor_119 : decode cX7_copyDivisor 119 = .ok (.getfield 30, 3) := by decide +kernel
theorem dX7_copyDivisor_122 : decode cX7_copyDivisor 122 = .ok (.iload 4, 2) := by decide +kernel
theorem dX7_copyDivisor_124 : decode cX7_copyDivisor 124 = .ok (.invokevirtual 111, 3) := by decide +kernel
theorem dX7_copyDivisor_127 : decode cX7_copyDivisor 127 = .ok (.aload_n 0, 1) := by decide +kernel
theorem dX7_copyDivisor_128 : decode cX7_copyDivisor 128 = .ok (.getfield 34, 3) := by decide +kernel
theorem dX7_copyDivisor_131 : decode cX7_copyDivisor 131 = .ok (.aload_n 0, 1) := by decide +kernel
theorem dX7_copyDivisor_132 : decode cX7_copyDivisor 132 = .ok (.getfield 30, 3) := by decide +kernel
theorem dX7_copyDivisor_135 : decode cX7_copyDivisor 135 = .ok (.aload_n 0, 1) := by decide +kernel
theorem dX7_copyDivisor_136 : decode cX7_copyDivisor 136 = .ok (.getfield 40, 3) := by decide +kernel
theorem dX7_copyDivisor_139 : decode cX7_copyDivisor 139 = .ok (.invokevirtual 114, 3) := by decide +kernel
theorem dX7_copyDivisor_142 : decode cX7_copyDivisor 142 = .ok (.aload_n 1, 1) := by decide +kernel
theorem dX7_copyDivisor_143 : decode cX7_copyDivisor 143 = .ok (.iload 5, 2) := by decide +kernel
theorem dX7_copyDivisor_145 : decode cX7_copyDivisor 145 = .ok (.aload_n 0, 1) := by decide +kernel
theorem dX7_copyDivisor_146 : decode cX7_copyDivisor 146 = .ok (.getfield 34, 3) := by decide +kernel
theorem dX7_copyDivisor_149 : decode cX7_copyDivisor 149 = .ok (.invokevirtual 123, 3) := by decide +kernel
theorem dX7_copyDivisor_152 : decode cX7_copyDivisor 152 = .ok (.lastore, 1) := by decide +kernel
theorem dX7_copyDivisor_153 : decode cX7_copyDivisor 153 = .ok (.iinc 5 1, 3) := by decide +kernel
theorem dX7_copyDivisor_156 : decode cX7_copyDivisor 156 = .ok (.goto (-78), 3) := by decide +kernel
theorem dX7_copyDivisor_159 : decode cX7_copyDivisor 159 = .ok (.aload_n 1, 1) := by decide +kernel
theorem dX7_copyDivisor_160 : decode cX7_copyDivisor 160 = .ok (.invokestatic 127, 3) := by decide +kernel
theorem dX7_copyDivisor_163 : decode cX7_copyDivisor 163 = .ok (.return_, 1) := by decide +kernel
theorem dX8_init_0 : decode cX8_init 0 = .ok (.aload_n 0, 1) := by decide +kernel
theorem dX8_init_1 : decode cX8_init 1 = .ok (.invokespecial 3, 3) := by decide +kernel
theorem dX8_init_4 : decode cX8_init 4 = .ok (.aload_n 0, 1) := by decide +kernel
theorem dX8_init_5 : decode cX8_init 5 = .ok (.sipush 200, 3) := by decide +kernel
theorem dX8_init_8 : decode cX8_init 8 = .ok (.newarray .int, 2) := by decide +kernel
theorem dX8_init_10 : decode cX8_init 10 = .ok (.putfield 11, 3) := by decide +kernel
theorem dX8_init_13 : decode cX8_init 13 = .ok (.aload_n 0, 1) := by decide +kernel
theorem dX8_init_14 : decode cX8_init 14 = .ok (.bipush 9, 2) := by decide +kernel
theorem dX8_init_16 : decode cX8_init 16 = .ok (.newarray .long, 2) := by decide +kernel
theorem dX8_init_18 : decode cX8_init 18 = .ok (.putfield 15, 3) := by decide +kernel
theorem dX8_init_21 : decode cX8_init 21 = .ok (.return_, 1) := by decide +kernel
theorem dX8_hasRoom_0 : decode cX8_hasRoom 0 = .ok (.aload_n 0, 1) := by decide +kernel
theorem dX8_hasRoom_1 : decode cX8_hasRoom 1 = .ok (.getfield 19, 3) := by decide +kernel
theorem dX8_hasRoom_4 : decode cX8_hasRoom 4 = .ok (.bipush 20, 2) := by decide +kernel
theorem dX8_hasRoom_6 : decode cX8_hasRoom 6 = .ok (.iadd, 1) := by decide +kernel
theorem dX8_hasRoom_7 : decode cX8_hasRoom 7 = .ok (.sipush 200, 3) := by decide +kernel
theorem dX8_hasRoom_10 : decode cX8_hasRoom 10 = .ok (.if_icmp .gt 7, 3) := by decide +kernel
theorem dX8_hasRoom_13 : decode cX8_hasRoom 13 = .ok (.iconst 1, 1) := by decide +kernel
theorem dX8_hasRoom_14 : decode cX8_hasRoom 14 = .ok (.goto 4, 3) := by decide +kernel
theorem dX8_hasRoom_17 : decode cX8_hasRoom 17 = .ok (.iconst 0, 1) := by decide +kernel
theorem dX8_hasRoom_18 : decode cX8_hasRoom 18 = .ok (.ireturn, 1) := by decide +kernel
theorem dX8_append_0 : decode cX8_append 0 = .ok (.bipush 24, 2) := by decide +kernel
theorem dX8_append_2 : decode cX8_append 2 = .ok (.istore_n 2, 1) := by decide +kernel
theorem dX8_append_3 : decode cX8_append 3 = .ok (.iload_n 2, 1) := by decide +kernel
theorem dX8_append_4 : decode cX8_append 4 = .ok (.ifCond .lt 45, 3) := by decide +kernel
theorem dX8_append_7 : decode cX8_append 7 = .ok (.aload_n 0, 1) := by decide +kernel
theorem dX8_append_8 : decode cX8_append 8 = .ok (.getfield 19, 3) := by decide +kernel
theorem dX8_append_11 : decode cX8_append 11 = .ok (.sipush 200, 3) := by decide +kernel
theorem dX8_append_14 : decode cX8_append 14 = .ok (.if_icmp .ge 35, 3) := by decide +kernel
theorem dX8_append_17 : decode cX8_append 17 = .ok (.aload_n 0, 1) := by decide +kernel
theorem dX8_append_18 : decode cX8_append 18 = .ok (.getfield 11, 3) := by decide +kernel
theorem dX8_append_21 : decode cX8_append 21 = .ok (.aload_n 0, 1) := by decide +kernel
theorem dX8_append_22 : decode cX8_append 22 = .ok (.getfield 19, 3) := by decide +kernel
theorem dX8_append_25 : decode cX8_append 25 = .ok (.iload_n 1, 1) := by decide +kernel
theorem dX8_append_26 : decode cX8_append 26 = .ok (.iload_n 2, 1) := by decide +kernel
theorem dX8_append_27 : decode cX8_append 27 = .ok (.ishr, 1) := by decide +kernel
theorem dX8_append_28 : decode cX8_append 28 = .ok (.sipush 255, 3) := by decide +kernel
theorem dX8_append_31 : decode cX8_append 31 = .ok (.iand, 1) := by decide +kernel
theorem dX8_append_32 : decode cX8_append 32 = .ok (.iastore, 1) := by decide +kernel
theorem dX8_append_33 : decode cX8_append 33 = .ok (.aload_n 0, 1) := by decide +kernel
theorem dX8_append_34 : decode cX8_append 34 = .ok (.dup, 1) := by decide +kernel
theorem dX8_append_35 : decode cX8_append 35 = .ok (.getfield 19, 3) := by decide +kernel
theorem dX8_append_38 : decode cX8_append 38 = .ok (.iconst 1, 1) := by decide +kernel
theorem dX8_append_39 : decode cX8_append 39 = .ok (.iadd, 1) := by decide +kernel
theorem dX8_append_40 : decode cX8_append 40 = .ok (.putfield 19, 3) := by decide +kernel
theorem dX8_append_43 : decode cX8_append 43 = .ok (.iinc 2 (-8), 3) := by decide +kernel
theorem dX8_append_46 : decode cX8_append 46 = .ok (.goto (-43), 3) := by decide +kernel
theorem dX8_append_49 : decode cX8_append 49 = .ok (.return_, 1) := by decide +kernel
theorem dX8_parse_0 : decode cX8_parse 0 = .ok (.aload_n 0, 1) := by decide +kernel
theorem dX8_parse_1 : decode cX8_parse 1 = .ok (.invokevirtual 23, 3) := by decide +kernel
theorem dX8_parse_4 : decode cX8_parse 4 = .ok (.aload_n 0, 1) := by decide +kernel
theorem dX8_parse_5 : decode cX8_parse 5 = .ok (.aload_n 0, 1) := by decide +kernel
theorem dX8_parse_6 : decode cX8_parse 6 = .ok (.invokevirtual 26, 3) := by decide +kernel
theorem dX8_parse_9 : decode cX8_parse 9 = .ok (.putfield 30, 3) := by decide +kernel
theorem dX8_parse_12 : decode cX8_parse 12 = .ok (.aload_n 0, 1) := by decide +kernel
theorem dX8_parse_13 : decode cX8_parse 13 = .ok (.getfield 30, 3) := by decide +kernel
theorem dX8_parse_16 : decode cX8_parse 16 = .ok (.ifCond .ne 26, 3) := by decide +kernel
theorem dX8_parse_19 : decode cX8_parse 19 = .ok (.aload_n 0, 1) := by decide +kernel
theorem dX8_parse_20 : decode cX8_parse 20 = .ok (.getfield 15, 3) := by decide +kernel
theorem dX8_parse_23 : decode cX8_parse 23 = .ok (.invokestatic 33, 3) := by decide +kernel
theorem dX8_parse_26 : decode cX8_parse 26 = .ok (.ifCond .ne 16, 3) := by decide +kernel
theorem dX8_parse_29 : decode cX8_parse 29 = .ok (.aload_n 0, 1) := by decide +kernel
theorem dX8_parse_30 : decode cX8_parse 30 = .ok (.iconst 3, 1) := by decide +kernel
theorem dX8_parse_31 : decode cX8_parse 31 = .ok (.bipush 8, 2) := by decide +kernel
theorem dX8_parse_33 : decode cX8_parse 33 = .ok (.aload_n 0, 1) := by decide +kernel
theorem dX8_parse_34 : decode cX8_parse 34 = .ok (.getfield 19, 3) := by decide +kernel
theorem dX8_parse_37 : decode cX8_parse 37 = .ok (.imul, 1) := by decide +kernel
theorem dX8_parse_38 : decode cX8_parse 38 = .ok (.iadd, 1) := by decide +kernel
theorem dX8_parse_39 : decode cX8_parse 39 = .ok (.putfield 30, 3) := by decide +kernel
theorem dX8_parse_42 : decode cX8_parse 42 = .ok (.return_, 1) := by decide +kernel
theorem dX8_startText_0 : decode cX8_startText 0 = .ok (.iconst 0, 1) := by decide +kernel
theorem dX8_startText_1 : decode cX8_startText 1 = .ok (.istore_n 1, 1) := by decide +kernel
theorem dX8_startText_2 : decode cX8_startText 2 = .ok (.iload_n 1, 1) := by decide +kernel
theorem dX8_startText_3 : decode cX8_startText 3 = .ok (.bipush 9, 2) := by decide +kernel
theorem dX8_startText_5 : decode cX8_startText 5 = .ok (.if_icmp .ge 16, 3) := by decide +kernel
theorem dX8_startText_8 : decode cX8_startText 8 = .ok (.aload_n 0, 1) := by decide +kernel
theorem dX8_startText_9 : decode cX8_startText 9 = .ok (.getfield 15, 3) := by decide +kernel
theorem dX8_startText_12 : decode cX8_startText 12 = .ok (.iload_n 1, 1) := by decide +kernel
theorem dX8_startText_13 : decode cX8_startText 13 = .ok (.lconst 0, 1) := by decide +kernel
theorem dX8_startText_14 : decode cX8_startText 14 = .ok (.lastore, 1) := by decide +kernel
theorem dX8_startText_15 : decode cX8_startText 15 = .ok (.iinc 1 1, 3) := by decide +kernel
theorem dX8_startText_18 : decode cX8_startText 18 = .ok (.goto (-16), 3) := by decide +kernel
theorem dX8_startText_21 : decode cX8_startText 21 = .ok (.aload_n 0, 1) := by decide +kernel
theorem dX8_startText_22 : decode cX8_startText 22 = .ok (.iconst 0, 1) := by decide +kernel
theorem dX8_startText_23 : decode cX8_startText 23 = .ok (.invokevirtual 39, 3) := by decide +kernel
theorem dX8_startText_26 : decode cX8_startText 26 = .ok (.aload_n 0, 1) := by decide +kernel
theorem dX8_startText_27 : decode cX8_startText 27 = .ok (.iconst 0, 1) := by decide +kernel
theorem dX8_startText_28 : decode cX8_startText 28 = .ok (.putfield 43, 3) := by decide +kernel
theorem dX8_startText_31 : decode cX8_startText 31 = .ok (.return_, 1) := by decide +kernel
theorem dX8_parseTokens_0 : decode cX8_parseTokens 0 = .ok (.iconst 0, 1) := by decide +kernel
theorem dX8_parseTokens_1 : decode cX8_parseTokens 1 = .ok (.istore_n 1, 1) := by decide +kernel
theorem dX8_parseTokens_2 : decode cX8_parseTokens 2 = .ok (.iconst 0, 1) := by decide +kernel
theorem dX8_parseTokens_3 : decode cX8_parseTokens 3 = .ok (.istore_n 2, 1) := by decide +kernel
theorem dX8_parseTokens_4 : decode cX8_parseTokens 4 = .ok (.iload_n 2, 1) := by decide +kernel
theorem dX8_parseTokens_5 : decode cX8_parseTokens 5 = .ok (.sipush 200, 3) := by decide +kernel
theorem dX8_parseTokens_8 : decode cX8_parseTokens 8 = .ok (.if_icmp .ge 112, 3) := by decide +kernel
theorem dX8_parseTokens_11 : decode cX8_parseTokens 11 = .ok (.iload_n 1, 1) := by decide +kernel
theorem dX8_parseTokens_12 : decode cX8_parseTokens 12 = .ok (.aload_n 0, 1) := by decide +kernel
theorem dX8_parseTokens_13 : decode cX8_parseTokens 13 = .ok (.getfield 19, 3) := by decide +kernel
theorem dX8_parseTokens_16 : decode cX8_parseTokens 16 = .ok (.if_icmp .ge 104, 3) := by decide +kernel
theorem dX8_parseTokens_19 : decode cX8_parseTokens 19 = .ok (.iload_n 1, 1) := by decide +kernel
theorem dX8_parseTokens_20 : decode cX8_parseTokens 20 = .ok (.sipush 200, 3) := by decide +kernel
theorem dX8_parseTokens_23 : decode cX8_parseTokens 23 = .ok (.if_icmp .ge 97, 3) := by decide +kernel
theorem dX8_parseTokens_26 : decode cX8_parseTokens 26 = .ok (.aload_n 0, 1) := by decide +kernel
theorem dX8_parseTokens_27 : decode cX8_parseTokens 27 = .ok (.getfield 11, 3) := by decide +kernel
theorem dX8_parseTokens_30 : decode cX8_parseTokens 30 = .ok (.iload_n 1, 1) := by decide +kernel
theorem dX8_parseTokens_31 : decode cX8_parseTokens 31 = .ok (.iaload, 1) := by decide +kernel
theorem dX8_parseTokens_32 : decode cX8_parseTokens 32 = .ok (.istore_n 3, 1) := by decide +kernel
theorem dX8_parseTokens_33 : decode cX8_parseTokens 33 = .ok (.iload_n 3, 1) := by decide +kernel
theorem dX8_parseTokens_34 : decode cX8_parseTokens 34 = .ok (.invokestatic 46, 3) := by decide +kernel
theorem dX8_parseTokens_37 : decode cX8_parseTokens 37 = .ok (.ifCond .eq 11, 3) := by decide +kernel
theorem dX8_parseTokens_40 : decode cX8_parseTokens 40 = .ok (.aload_n 0, 1) := by decide +kernel
theorem dX8_parseTokens_41 : decode cX8_parseTokens 41 = .ok (.iload_n 1, 1) := by decide +kernel
theorem dX8_parseTokens_42 : decode cX8_parseTokens 42 = .ok (.invokevirtual 50, 3) := by decide +kernel
theorem dX8_parseTokens_45 : decode cX8_parseTokens 45 = .ok (.goto 6, 3) := by decide +kernel
theorem dX8_parseTokens_48 : decode cX8_parseTokens 48 = .ok (.iload_n 1, 1) := by decide +kernel
theorem dX8_parseTokens_49 : decode cX8_parseTokens 49 = .ok (.iconst 1, 1) := by decide +kernel
theorem dX8_parseTokens_50 : decode cX8_parseTokens 50 = .ok (.iadd, 1) := by decide +kernel
theorem dX8_parseTokens_51 : decode cX8_parseTokens 51 = .ok (.istore 4, 2) := by decide +kernel
theorem dX8_parseTokens_53 : decode cX8_parseTokens 53 = .ok (.iconst 0, 1) := by decide +kernel
theorem dX8_parseTokens_54 : decode cX8_parseTokens 54 = .ok (.istore 5, 2) := by decide +kernel
theorem dX8_parseTokens_56 : decode cX8_parseTokens 56 = .ok (.iload_n 3, 1) := by decide +kernel
theorem dX8_parseTokens_57 : decode cX8_parseTokens 57 = .ok (.invokestatic 46, 3) := by decide +kernel
theorem dX8_parseTokens_60 : decode cX8_parseTokens 60 = .ok (.ifCond .eq 19, 3) := by decide +kernel
theorem dX8_parseTokens_63 : decode cX8_parseTokens 63 = .ok (.aload_n 0, 1) := by decide +kernel
theorem dX8_parseTokens_64 : decode cX8_parseTokens 64 = .ok (.aload_n 0, 1) := by decide +kernel
theorem dX8_parseTokens_65 : decode cX8_parseTokens 65 = .ok (.iload_n 1, 1) := by decide +kernel
theorem dX8_parseTokens_66 : decode cX8_parseTokens 66 = .ok (.iload 4, 2) := by decide +kernel
theorem dX8_parseTokens_68 : decode cX8_parseTokens 68 = .ok (.invokevirtual 54, 3) := by decide +kernel
theorem dX8_parseTokens_71 : decode cX8_parseTokens 71 = .ok (.invokevirtual 58, 3) := by decide +kernel
theorem dX8_parseTokens_74 : decode cX8_parseTokens 74 = .ok (.istore 5, 2) := by decide +kernel
theorem dX8_parseTokens_76 : decode cX8_parseTokens 76 = .ok (.goto 22, 3) := by decide +kernel
theorem dX8_parseTokens_79 : decode cX8_parseTokens 79 = .ok (.iload_n 3, 1) := by decide +kernel
theorem dX8_parseTokens_80 : decode cX8_parseTokens 80 = .ok (.bipush 32, 2) := by decide +kernel
theorem dX8_parseTokens_82 : decode cX8_parseTokens 82 = .ok (.if_icmp .eq 16, 3) := by decide +kernel
theorem dX8_parseTokens_85 : decode cX8_parseTokens 85 = .ok (.iload_n 3, 1) := by decide +kernel
theorem dX8_parseTokens_86 : decode cX8_parseTokens 86 = .ok (.bipush 10, 2) := by decide +kernel
theorem dX8_parseTokens_88 : decode cX8_parseTokens 88 = .ok (.if_icmp .eq 10, 3) := by decide +kernel
theorem dX8_parseTokens_91 : decode cX8_parseTokens 91 = .ok (.aload_n 0, 1) := by decide +kernel
theorem dX8_parseTokens_92 : decode cX8_parseTokens 92 = .ok (.iload_n 3, 1) := by decide +kernel
theorem dX8_parseTokens_93 : decode cX8_parseTokens 93 = .ok (.invokevirtual 62, 3) := by decide +kernel
theorem dX8_parseTokens_96 : decode cX8_parseTokens 96 = .ok (.istore 5, 2) := by decide +kernel
theorem dX8_parseTokens_98 : decode cX8_parseTokens 98 = .ok (.iload 5, 2) := by decide +kernel
theorem dX8_parseTokens_100 : decode cX8_parseTokens 100 = .ok (.ifCond .eq 11, 3) := by decide +kernel
theorem dX8_parseTokens_103 : decode cX8_parseTokens 103 = .ok (.iload 5, 2) := by decide +kernel
theorem dX8_parseTokens_105 : decode cX8_parseTokens 105 = .ok (.bipush 8, 2) := by decide +kernel
theorem dX8_parseTokens_107 : decode cX8_parseTokens 107 = .ok (.iload_n 1, 1) := by decide +kernel
theorem dX8_parseTokens_108 : decode cX8_parseTokens 108 = .ok (.imul, 1) := by decide +kernel
theorem dX8_parseTokens_109 : decode cX8_parseTokens 109 = .ok (.iadd, 1) := by decide +kernel
theorem dX8_parseTokens_110 : decode cX8_parseTokens 110 = .ok (.ireturn, 1) := by decide +kernel
theorem dX8_parseTokens_111 : decode cX8_parseTokens 111 = .ok (.iload 4, 2) := by decide +kernel
theorem dX8_parseTokens_113 : decode cX8_parseTokens 113 = .ok (.istore_n 1, 1) := by decide +kernel
theorem dX8_parseTokens_114 : decode cX8_parseTokens 114 = .ok (.iinc 2 1, 3) := by decide +kernel
theorem dX8_parseTokens_117 : decode cX8_parseTokens 117 = .ok (.goto (-113), 3) := by decide +kernel
theorem dX8_parseTokens_120 : decode cX8_parseTokens 120 = .ok (.aload_n 0, 1) := by decide +kernel
theorem dX8_parseTokens_121 : decode cX8_parseTokens 121 = .ok (.invokevirtual 65, 3) := by decide +kernel
theorem dX8_parseTokens_124 : decode cX8_parseTokens 124 = .ok (.ifCond .ne 13, 3) := by decide +kernel
theorem dX8_parseTokens_127 : decode cX8_parseTokens 127 = .ok (.iconst 1, 1) := by decide +kernel
theorem dX8_parseTokens_128 : decode cX8_parseTokens 128 = .ok (.bipush 8, 2) := by decide +kernel
theorem dX8_parseTokens_130 : decode cX8_parseTokens 130 = .ok (.aload_n 0, 1) := by decide +kernel
theorem dX8_parseTokens_131 : decode cX8_parseTokens 131 = .ok (.getfield 19, 3) := by decide +kernel
theorem dX8_parseTokens_134 : decode cX8_parseTokens 134 = .ok (.imul, 1) := by decide +kernel
theorem dX8_parseTokens_135 : decode cX8_parseTokens 135 = .ok (.iadd, 1) := by decide +kernel
theorem dX8_parseTokens_136 : decode cX8_parseTokens 136 = .ok (.ireturn, 1) := by decide +kernel
theorem dX8_parseTokens_137 : decode cX8_parseTokens 137 = .ok (.aload_n 0, 1) := by decide +kernel
theorem dX8_parseTokens_138 : decode cX8_parseTokens 138 = .ok (.invokevirtual 69, 3) := by decide +kernel
theorem dX8_parseTokens_141 : decode cX8_parseTokens 141 = .ok (.iconst 0, 1) := by decide +kernel
theorem dX8_parseTokens_142 : decode cX8_parseTokens 142 = .ok (.ireturn, 1) := by decide +kernel
theorem dX8_isDigit_0 : decode cX8_isDigit 0 = .ok (.iload_n 0, 1) := by decide +kernel
theorem dX8_isDigit_1 : decode cX8_isDigit 1 = .ok (.bipush 48, 2) := by decide +kernel
theorem dX8_isDigit_3 : decode cX8_isDigit 3 = .ok (.if_icmp .lt 13, 3) := by decide +kernel
theorem dX8_isDigit_6 : decode cX8_isDigit 6 = .ok (.iload_n 0, 1) := by decide +kernel
theorem dX8_isDigit_7 : decode cX8_isDigit 7 = .ok (.bipush 57, 2) := by decide +kernel
theorem dX8_isDigit_9 : decode cX8_isDigit 9 = .ok (.if_icmp .gt 7, 3) := by decide +kernel
theorem dX8_isDigit_12 : decode cX8_isDigit 12 = .ok (.iconst 1, 1) := by decide +kernel
theorem dX8_isDigit_13 : decode cX8_isDigit 13 = .ok (.goto 4, 3) := by decide +kernel
theorem dX8_isDigit_16 : decode cX8_isDigit 16 = .ok (.iconst 0, 1) := by decide +kernel
theorem dX8_isDigit_17 : decode cX8_isDigit 17 = .ok (.ireturn, 1) := by decide +kernel
theorem dX8_numberEnd_0 : decode cX8_numberEnd 0 = .ok (.iload_n 1, 1) := by decide +kernel
theorem dX8_numberEnd_1 : decode cX8_numberEnd 1 = .ok (.iconst 1, 1) := by decide +kernel
theorem dX8_numberEnd_2 : decode cX8_numberEnd 2 = .ok (.iadd, 1) := by decide +kernel
theorem dX8_numberEnd_3 : decode cX8_numberEnd 3 = .ok (.istore_n 2, 1) := by decide +kernel
theorem dX8_numberEnd_4 : decode cX8_numberEnd 4 = .ok (.iload_n 2, 1) := by decide +kernel
theorem dX8_numberEnd_5 : decode cX8_numberEnd 5 = .ok (.aload_n 0, 1) := by decide +kernel
theorem dX8_numberEnd_6 : decode cX8_numberEnd 6 = .ok (.getfield 19, 3) := by decide +kernel
theorem dX8_numberEnd_9 : decode cX8_numberEnd 9 = .ok (.if_icmp .ge 28, 3) := by decide +kernel
theorem dX8_numberEnd_12 : decode cX8_numberEnd 12 = .ok (.iload_n 2, 1) := by decide +kernel
theorem dX8_numberEnd_13 : decode cX8_numberEnd 13 = .ok (.sipush 200, 3) := by decide +kernel
theorem dX8_numberEnd_16 : decode cX8_numberEnd 16 = .ok (.if_icmp .ge 21, 3) := by decide +kernel
theorem dX8_numberEnd_19 : decode cX8_numberEnd 19 = .ok (.aload_n 0, 1) := by decide +kernel
theorem dX8_numberEnd_20 : decode cX8_numberEnd 20 = .ok (.getfield 11, 3) := by decide +kernel
theorem dX8_numberEnd_23 : decode cX8_numberEnd 23 = .ok (.iload_n 2, 1) := by decide +kernel
theorem dX8_numberEnd_24 : decode cX8_numberEnd 24 = .ok (.iaload, 1) := by decide +kernel
theorem dX8_numberEnd_25 : decode cX8_numberEnd 25 = .ok (.invokestatic 46, 3) := by decide +kernel
theorem dX8_numberEnd_28 : decode cX8_numberEnd 28 = .ok (.ifCond .eq 9, 3) := by decide +kernel
theorem dX8_numberEnd_31 : decode cX8_numberEnd 31 = .ok (.iinc 2 1, 3) := by decide +kernel
theorem dX8_numberEnd_34 : decode cX8_numberEnd 34 = .ok (.goto (-30), 3) := by decide +kernel
theorem dX8_numberEnd_37 : decode cX8_numberEnd 37 = .ok (.iload_n 2, 1) := by decide +kernel
theorem dX8_numberEnd_38 : decode cX8_numberEnd 38 = .ok (.ireturn, 1) := by decide +kernel
theorem dX8_valueOf_0 : decode cX8_valueOf 0 = .ok (.lconst 0, 1) := by decide +kernel
theorem dX8_valueOf_1 : decode cX8_valueOf 1 = .ok (.lstore_n 3, 1) := by decide +kernel
theorem dX8_valueOf_2 : decode cX8_valueOf 2 = .ok (.iload_n 1, 1) := by decide +kernel
theorem dX8_valueOf_3 : decode cX8_valueOf 3 = .ok (.istore 5, 2) := by decide +kernel
theorem dX8_valueOf_5 : decode cX8_valueOf 5 = .ok (.iload 5, 2) := by decide +kernel
theorem dX8_valueOf_7 : decode cX8_valueOf 7 = .ok (.iload_n 2, 1) := by decide +kernel
theorem dX8_valueOf_8 : decode cX8_valueOf 8 = .ok (.if_icmp .ge 42, 3) := by decide +kernel
theorem dX8_valueOf_11 : decode cX8_valueOf 11 = .ok (.iload 5, 2) := by decide +kernel
theorem dX8_valueOf_13 : decode cX8_valueOf 13 = .ok (.sipush 200, 3) := by decide +kernel
theorem dX8_valueOf_16 : decode cX8_valueOf 16 = .ok (.if_icmp .ge 34, 3) := by decide +kernel
theorem dX8_valueOf_19 : decode cX8_valueOf 19 = .ok (.lload_n 3, 1) := by decide +kernel
theorem dX8_valueOf_20 : decode cX8_valueOf 20 = .ok (.ldc2_w 72, 3) := by decide +kernel
theorem dX8_valueOf_23 : decode cX8_valueOf 23 = .ok (.lmul, 1) := by decide +kernel
theorem dX8_valueOf_24 : decode cX8_valueOf 24 = .ok (.aload_n 0, 1) := by decide +kernel
theorem dX8_valueOf_25 : decode cX8_valueOf 25 = .ok (.getfield 11, 3) := by decide +kernel
theorem dX8_valueOf_28 : decode cX8_valueOf 28 = .ok (.iload 5, 2) := by decide +kernel
theorem dX8_valueOf_30 : decode cX8_valueOf 30 = .ok (.iaload, 1) := by decide +kernel
theorem dX8_valueOf_31 : decode cX8_valueOf 31 = .ok (.i2l, 1) := by decide +kernel
theorem dX8_valueOf_32 : decode cX8_valueOf 32 = .ok (.ladd, 1) := by decide +kernel
theorem dX8_valueOf_33 : decode cX8_valueOf 33 = .ok (.ldc2_w 74, 3) := by decide +kernel
theorem dX8_valueOf_36 : decode cX8_valueOf 36 = .ok (.lsub, 1) := by decide +kernel
theorem dX8_valueOf_37 : decode cX8_valueOf 37 = .ok (.ldc2_w 76, 3) := by decide +kernel
theorem dX8_valueOf_40 : decode cX8_valueOf 40 = .ok (.invokestatic 78, 3) := by decide +kernel
theorem dX8_valueOf_43 : decode cX8_valueOf 43 = .ok (.lstore_n 3, 1) := by decide +kernel
theorem dX8_valueOf_44 : decode cX8_valueOf 44 = .ok (.iinc 5 1, 3) := by decide +kernel
theorem dX8_valueOf_47 : decode cX8_valueOf 47 = .ok (.goto (-42), 3) := by decide +kernel
theorem dX8_valueOf_50 : decode cX8_valueOf 50 = .ok (.lload_n 3, 1) := by decide +kernel
theorem dX8_valueOf_51 : decode cX8_valueOf 51 = .ok (.lreturn, 1) := by decide +kernel
theorem dX8_takeNumber_0 : decode cX8_takeNumber 0 = .ok (.aload_n 0, 1) := by decide +kernel
theorem dX8_takeNumber_1 : decode cX8_takeNumber 1 = .ok (.getfield 43, 3) := by decide +kernel
theorem dX8_takeNumber_4 : decode cX8_takeNumber 4 = .ok (.ifCond .eq 11, 3) := by decide +kernel
theorem dX8_takeNumber_7 : decode cX8_takeNumber 7 = .ok (.aload_n 0, 1) := by decide +kernel
theorem dX8_takeNumber_8 : decode cX8_takeNumber 8 = .ok (.getfield 43, 3) := by decide +kernel
theorem dX8_takeNumber_11 : decode cX8_takeNumber 11 = .ok (.iconst 1, 1) := by decide +kernel
theorem dX8_takeNumber_12 : decode cX8_takeNumber 12 = .ok (.if_icmp .ne 27, 3) := by decide +kernel
theorem dX8_takeNumber_15 : decode cX8_takeNumber 15 = .ok (.aload_n 0, 1) := by decide +kernel
theorem dX8_takeNumber_16 : decode cX8_takeNumber 16 = .ok (.lload_n 1, 1) := by decide +kernel
theorem dX8_takeNumber_17 : decode cX8_takeNumber 17 = .ok (.putfield 84, 3) := by decide +kernel
theorem dX8_takeNumber_20 : decode cX8_takeNumber 20 = .ok (.aload_n 0, 1) := by decide +kernel
theorem dX8_takeNumber_21 : decode cX8_takeNumber 21 = .ok (.iconst 2, 1) := by decide +kernel
theorem dX8_takeNumber_22 : decode cX8_takeNumber 22 = .ok (.putfield 43, 3) := by decide +kernel
theorem dX8_takeNumber_25 : decode cX8_takeNumber 25 = .ok (.lload_n 1, 1) := by decide +kernel
theorem dX8_takeNumber_26 : decode cX8_takeNumber 26 = .ok (.ldc2_w 88, 3) := by decide +kernel
theorem dX8_takeNumber_29 : decode cX8_takeNumber 29 = .ok (.lcmp, 1) := by decide +kernel
theorem dX8_takeNumber_30 : decode cX8_takeNumber 30 = .ok (.ifCond .le 7, 3) := by decide +kernel
theorem dX8_takeNumber_33 : decode cX8_takeNumber 33 = .ok (.iconst 2, 1) := by decide +kernel
theorem dX8_takeNumber_34 : decode cX8_takeNumber 34 = .ok (.goto 4, 3) := by decide +kernel
theorem dX8_takeNumber_37 : decode cX8_takeNumber 37 = .ok (.iconst 0, 1) := by decide +kernel
theorem dX8_takeNumber_38 : decode cX8_takeNumber 38 = .ok (.ireturn, 1) := by decide +kernel
theorem dX8_takeNumber_39 : decode cX8_takeNumber 39 = .ok (.aload_n 0, 1) := by decide +kernel
theorem dX8_takeNumber_40 : decode cX8_takeNumber 40 = .ok (.getfield 43, 3) := by decide +kernel
theorem dX8_takeNumber_43 : decode cX8_takeNumber 43 = .ok (.iconst 4, 1) := by decide +kernel
theorem dX8_takeNumber_44 : decode cX8_takeNumber 44 = .ok (.if_icmp .ne 34, 3) := by decide +kernel
theorem dX8_takeNumber_47 : decode cX8_takeNumber 47 = .ok (.aload_n 0, 1) := by decide +kernel
theorem dX8_takeNumber_48 : decode cX8_takeNumber 48 = .ok (.lload_n 1, 1) := by decide +kernel
theorem dX8_takeNumber_49 : decode cX8_takeNumber 49 = .ok (.ldc2_w 90, 3) := by decide +kernel
theorem dX8_takeNumber_52 : decode cX8_takeNumber 52 = .ok (.invokestatic 78, 3) := by decide +kernel
theorem dX8_takeNumber_55 : decode cX8_takeNumber 55 = .ok (.l2i, 1) := by decide +kernel
theorem dX8_takeNumber_56 : decode cX8_takeNumber 56 = .ok (.putfield 92, 3) := by decide +kernel
theorem dX8_takeNumber_59 : decode cX8_takeNumber 59 = .ok (.aload_n 0, 1) := by decide +kernel
theorem dX8_takeNumber_60 : decode cX8_takeNumber 60 = .ok (.iconst 5, 1) := by decide +kernel
theorem dX8_takeNumber_61 : decode cX8_takeNumber 61 = .ok (.putfield 43, 3) := by decide +kernel
theorem dX8_takeNumber_64 : decode cX8_takeNumber 64 = .ok (.lload_n 1, 1) := by decide +kernel
theorem dX8_takeNumber_65 : decode cX8_takeNumber 65 = .ok (.ldc2_w 90, 3) := by decide +kernel
theorem dX8_takeNumber_68 : decode cX8_takeNumber 68 = .ok (.lcmp, 1) := by decide +kernel
theorem dX8_takeNumber_69 : decode cX8_takeNumber 69 = .ok (.ifCond .le 7, 3) := by decide +kernel
theorem dX8_takeNumber_72 : decode cX8_takeNumber 72 = .ok (.iconst 2, 1) := by decide +kernel
theorem dX8_takeNumber_73 : decode cX8_takeNumber 73 = .ok (.goto 4, 3) := by decide +kernel
theorem dX8_takeNumber_76 : decode cX8_takeNumber 76 = .ok (.iconst 0, 1) := by decide +kernel
theorem dX8_takeNumber_77 : decode cX8_takeNumber 77 = .ok (.ireturn, 1) := by decide +kernel
theorem dX8_takeNumber_78 : decode cX8_takeNumber 78 = .ok (.iconst 1, 1) := by decide +kernel
theorem dX8_takeNumber_79 : decode cX8_takeNumber 79 = .ok (.ireturn, 1) := by decide +kernel
theorem dX8_takeByte_0 : decode cX8_takeByte 0 = .ok (.iload_n 1, 1) := by decide +kernel
theorem dX8_takeByte_1 : decode cX8_takeByte 1 = .ok (.bipush 120, 2) := by decide +kernel
theorem dX8_takeByte_3 : decode cX8_takeByte 3 = .ok (.if_icmp .ne 23, 3) := by decide +kernel
theorem dX8_takeByte_6 : decode cX8_takeByte 6 = .ok (.aload_n 0, 1) := by decide +kernel
theorem dX8_takeByte_7 : decode cX8_takeByte 7 = .ok (.getfield 43, 3) := by decide +kernel
theorem dX8_takeByte_10 : decode cX8_takeByte 10 = .ok (.iconst 2, 1) := by decide +kernel
theorem dX8_takeByte_11 : decode cX8_takeByte 11 = .ok (.if_icmp .gt 15, 3) := by decide +kernel
theorem dX8_takeByte_14 : decode cX8_takeByte 14 = .ok (.aload_n 0, 1) := by decide +kernel
theorem dX8_takeByte_15 : decode cX8_takeByte 15 = .ok (.iconst 1, 1) := by decide +kernel
theorem dX8_takeByte_16 : decode cX8_takeByte 16 = .ok (.putfield 92, 3) := by decide +kernel
theorem dX8_takeByte_19 : decode cX8_takeByte 19 = .ok (.aload_n 0, 1) := by decide +kernel
theorem dX8_takeByte_20 : decode cX8_takeByte 20 = .ok (.iconst 3, 1) := by decide +kernel
theorem dX8_takeByte_21 : decode cX8_takeByte 21 = .ok (.putfield 43, 3) := by decide +kernel
theorem dX8_takeByte_24 : decode cX8_takeByte 24 = .ok (.iconst 0, 1) := by decide +kernel
theorem dX8_takeByte_25 : decode cX8_takeByte 25 = .ok (.ireturn, 1) := by decide +kernel
theorem dX8_takeByte_26 : decode cX8_takeByte 26 = .ok (.iload_n 1, 1) := by decide +kernel
theorem dX8_takeByte_27 : decode cX8_takeByte 27 = .ok (.bipush 94, 2) := by decide +kernel
theorem dX8_takeByte_29 : decode cX8_takeByte 29 = .ok (.if_icmp .ne 18, 3) := by decide +kernel
theorem dX8_takeByte_32 : decode cX8_takeByte 32 = .ok (.aload_n 0, 1) := by decide +kernel
theorem dX8_takeByte_33 : decode cX8_takeByte 33 = .ok (.getfield 43, 3) := by decide +kernel
theorem dX8_takeByte_36 : decode cX8_takeByte 36 = .ok (.iconst 3, 1) := by decide +kernel
theorem dX8_takeByte_37 : decode cX8_takeByte 37 = .ok (.if_icmp .ne 10, 3) := by decide +kernel
theorem dX8_takeByte_40 : decode cX8_takeByte 40 = .ok (.aload_n 0, 1) := by decide +kernel
theorem dX8_takeByte_41 : decode cX8_takeByte 41 = .ok (.iconst 4, 1) := by decide +kernel
theorem dX8_takeByte_42 : decode cX8_takeByte 42 = .ok (.putfield 43, 3) := by decide +kernel
theorem dX8_takeByte_45 : decode cX8_takeByte 45 = .ok (.iconst 0, 1) := by decide +kernel
theorem dX8_takeByte_46 : decode cX8_takeByte 46 = .ok (.ireturn, 1) := by decide +kernel
theorem dX8_takeByte_47 : decode cX8_takeByte 47 = .ok (.iload_n 1, 1) := by decide +kernel
theorem dX8_takeByte_48 : decode cX8_takeByte 48 = .ok (.bipush 45, 2) := by decide +kernel
theorem dX8_takeByte_50 : decode cX8_takeByte 50 = .ok (.if_icmp .ne 17, 3) := by decide +kernel
theorem dX8_takeByte_53 : decode cX8_takeByte 53 = .ok (.aload_n 0, 1) := by decide +kernel
theorem dX8_takeByte_54 : decode cX8_takeByte 54 = .ok (.getfield 43, 3) := by decide +kernel
theorem dX8_takeByte_57 : decode cX8_takeByte 57 = .ok (.ifCond .ne 10, 3) := by decide +kernel
theorem dX8_takeByte_60 : decode cX8_takeByte 60 = .ok (.aload_n 0, 1) := by decide +kernel
theorem dX8_takeByte_61 : decode cX8_takeByte 61 = .ok (.iconst 1, 1) := by decide +kernel
theorem dX8_takeByte_62 : decode cX8_takeByte 62 = .ok (.invokevirtual 39, 3) := by decide +kernel
theorem dX8_takeByte_65 : decode cX8_takeByte 65 = .ok (.iconst 0, 1) := by decide +kernel
theorem dX8_takeByte_66 : decode cX8_takeByte 66 = .ok (.ireturn, 1) := by decide +kernel
theorem dX8_takeByte_67 : decode cX8_takeByte 67 = .ok (.iload_n 1, 1) := by decide +kernel
theorem dX8_takeByte_68 : decode cX8_takeByte 68 = .ok (.bipush 43, 2) := by decide +kernel
theorem dX8_takeByte_70 : decode cX8_takeByte 70 = .ok (.if_icmp .eq 9, 3) := by decide +kernel
theorem dX8_takeByte_73 : decode cX8_takeByte 73 = .ok (.iload_n 1, 1) := by decide +kernel
theorem dX8_takeByte_74 : decode cX8_takeByte 74 = .ok (.bipush 45, 2) := by decide +kernel
theorem dX8_takeByte_76 : decode cX8_takeByte 76 = .ok (.if_icmp .ne 31, 3) := by decide +kernel
theorem dX8_takeByte_79 : decode cX8_takeByte 79 = .ok (.aload_n 0, 1) := by decide +kernel
theorem dX8_takeByte_80 : decode cX8_takeByte 80 = .ok (.invokevirtual 65, 3) := by decide +kernel
theorem dX8_takeByte_83 : decode cX8_takeByte 83 = .ok (.ifCond .eq 24, 3) := by decide +kernel
theorem dX8_takeByte_86 : decode cX8_takeByte 86 = .ok (.aload_n 0, 1) := by decide +kernel
theorem dX8_takeByte_87 : decode cX8_takeByte 87 = .ok (.invokevirtual 69, 3) := by decide +kernel
theorem dX8_takeByte_90 : decode cX8_takeByte 90 = .ok (.aload_n 0, 1) := by decide +kernel
theorem dX8_takeByte_91 : decode cX8_takeByte 91 = .ok (.iload_n 1, 1) := by decide +kernel
theorem dX8_takeByte_92 : decode cX8_takeByte 92 = .ok (.bipush 45, 2) := by decide +kernel
theorem dX8_takeByte_94 : decode cX8_takeByte 94 = .ok (.if_icmp .ne 7, 3) := by decide +kernel
theorem dX8_takeByte_97 : decode cX8_takeByte 97 = .ok (.iconst 1, 1) := by decide +kernel
theorem dX8_takeByte_98 : decode cX8_takeByte 98 = .ok (.goto 4, 3) := by decide +kernel
theorem dX8_takeByte_101 : decode cX8_takeByte 101 = .ok (.iconst 0, 1) := by decide +kernel
theorem dX8_takeByte_102 : decode cX8_takeByte 102 = .ok (.invokevirtual 39, 3) := by decide +kernel
theorem dX8_takeByte_105 : decode cX8_takeByte 105 = .ok (.iconst 0, 1) := by decide +kernel
theorem dX8_takeByte_106 : decode cX8_takeByte 106 = .ok (.ireturn, 1) := by decide +kernel
theorem dX8_takeByte_107 : decode cX8_takeByte 107 = .ok (.iconst 1, 1) := by decide +kernel
theorem dX8_takeByte_108 : decode cX8_takeByte 108 = .ok (.ireturn, 1) := by decide +kernel
theorem dX8_isTermWhole_0 : decode cX8_isTermWhole 0 = .ok (.aload_n 0, 1) := by decide +kernel
theorem dX8_isTermWhole_1 : decode cX8_isTermWhole 1 = .ok (.getfield 43, 3) := by decide +kernel
theorem dX8_isTermWhole_4 : decode cX8_isTermWhole 4 = .ok (.iconst 2, 1) := by decide +kernel
theorem dX8_isTermWhole_5 : decode cX8_isTermWhole 5 = .ok (.if_icmp .eq 19, 3) := by decide +kernel
theorem dX8_isTermWhole_8 : decode cX8_isTermWhole 8 = .ok (.aload_n 0, 1) := by decide +kernel
theorem dX8_isTermWhole_9 : decode cX8_isTermWhole 9 = .ok (.getfield 43, 3) := by decide +kernel
theorem dX8_isTermWhole_12 : decode cX8_isTermWhole 12 = .ok (.iconst 3, 1) := by decide +kernel
theorem dX8_isTermWhole_13 : decode cX8_isTermWhole 13 = .ok (.if_icmp .eq 11, 3) := by decide +kernel
theorem dX8_isTermWhole_16 : decode cX8_isTermWhole 16 = .ok (.aload_n 0, 1) := by decide +kernel
theorem dX8_isTermWhole_17 : decode cX8_isTermWhole 17 = .ok (.getfield 43, 3) := by decide +kernel
theorem dX8_isTermWhole_20 : decode cX8_isTermWhole 20 = .ok (.iconst 5, 1) := by decide +kernel
theorem dX8_isTermWhole_21 : decode cX8_isTermWhole 21 = .ok (.if_icmp .ne 7, 3) := by decide +kernel
theorem dX8_isTermWhole_24 : decode cX8_isTermWhole 24 = .ok (.iconst 1, 1) := by decide +kernel
theorem dX8_isTermWhole_25 : decode cX8_isTermWhole 25 = .ok (.goto 4, 3) := by decide +kernel
theorem dX8_isTermWhole_28 : decode cX8_isTermWhole 28 = .ok (.iconst 0, 1) := by decide +kernel
theorem dX8_isTermWhole_29 : decode cX8_isTermWhole 29 = .ok (.ireturn, 1) := by decide +kernel
theorem dX8_startTerm_0 : decode cX8_startTerm 0 = .ok (.aload_n 0, 1) := by decide +kernel
theorem dX8_startTerm_1 : decode cX8_startTerm 1 = .ok (.iload_n 1, 1) := by decide +kernel
theorem dX8_startTerm_2 : decode cX8_startTerm 2 = .ok (.putfield 95, 3) := by decide +kernel
theorem dX8_startTerm_5 : decode cX8_startTerm 5 = .ok (.aload_n 0, 1) := by decide +kernel
theorem dX8_startTerm_6 : decode cX8_startTerm 6 = .ok (.lconst 1, 1) := by decide +kernel
theorem dX8_startTerm_7 : decode cX8_startTerm 7 = .ok (.putfield 84, 3) := by decide +kernel
theorem dX8_startTerm_10 : decode cX8_startTerm 10 = .ok (.aload_n 0, 1) := by decide +kernel
theorem dX8_startTerm_11 : decode cX8_startTerm 11 = .ok (.iconst 0, 1) := by decide +kernel
theorem dX8_startTerm_12 : decode cX8_startTerm 12 = .ok (.putfield 92, 3) := by decide +kernel
theorem dX8_startTerm_15 : decode cX8_startTerm 15 = .ok (.aload_n 0, 1) := by decide +kernel
theorem dX8_startTerm_16 : decode cX8_startTerm 16 = .ok (.iconst 1, 1) := by decide +kernel
theorem dX8_startTerm_17 : decode cX8_startTerm 17 = .ok (.putfield 43, 3) := by decide +kernel
theorem dX8_startTerm_20 : decode cX8_startTerm 20 = .ok (.return_, 1) := by decide +kernel
theorem dX8_addTerm_0 : decode cX8_addTerm 0 = .ok (.aload_n 0, 1) := by decide +kernel
theorem dX8_addTerm_1 : decode cX8_addTerm 1 = .ok (.getfield 92, 3) := by decide +kernel
theorem dX8_addTerm_4 : decode cX8_addTerm 4 = .ok (.ifCond .lt 43, 3) := by decide +kernel
theorem dX8_addTerm_7 : decode cX8_addTerm 7 = .ok (.aload_n 0, 1) := by decide +kernel
theorem dX8_addTerm_8 : decode cX8_addTerm 8 = .ok (.getfield 92, 3) := by decide +kernel
theorem dX8_addTerm_11 : decode cX8_addTerm 11 = .ok (.bipush 9, 2) := by decide +kernel
theorem dX8_addTerm_13 : decode cX8_addTerm 13 = .ok (.if_icmp .ge 34, 3) := by decide +kernel
theorem dX8_addTerm_16 : decode cX8_addTerm 16 = .ok (.aload_n 0, 1) := by decide +kernel
theorem dX8_addTerm_17 : decode cX8_addTerm 17 = .ok (.getfield 15, 3) := by decide +kernel
theorem dX8_addTerm_20 : decode cX8_addTerm 20 = .ok (.aload_n 0, 1) := by decide +kernel
theorem dX8_addTerm_21 : decode cX8_addTerm 21 = .ok (.getfield 92, 3) := by decide +kernel
theorem dX8_addTerm_24 : decode cX8_addTerm 24 = .ok (.dup2, 1) := by decide +kernel
theorem dX8_addTerm_25 : decode cX8_addTerm 25 = .ok (.laload, 1) := by decide +kernel
theorem dX8_addTerm_26 : decode cX8_addTerm 26 = .ok (.aload_n 0, 1) := by decide +kernel
theorem dX8_addTerm_27 : decode cX8_addTerm 27 = .ok (.getfield 95, 3) := by decide +kernel
theorem dX8_addTerm_30 : decode cX8_addTerm 30 = .ok (.ifCond .eq 11, 3) := by decide +kernel
theorem dX8_addTerm_33 : decode cX8_addTerm 33 = .ok (.aload_n 0, 1) := by decide +kernel
theorem dX8_addTerm_34 : decode cX8_addTerm 34 = .ok (.getfield 84, 3) := by decide +kernel
theorem dX8_addTerm_37 : decode cX8_addTerm 37 = .ok (.lneg, 1) := by decide +kernel
theorem dX8_addTerm_38 : decode cX8_addTerm 38 = .ok (.goto 7, 3) := by decide +kernel
theorem dX8_addTerm_41 : decode cX8_addTerm 41 = .ok (.aload_n 0, 1) := by decide +kernel
theorem dX8_addTerm_42 : decode cX8_addTerm 42 = .ok (.getfield 84, 3) := by decide +kernel
theorem dX8_addTerm_45 : decode cX8_addTerm 45 = .ok (.ladd, 1) := by decide +kernel
theorem dX8_addTerm_46 : decode cX8_addTerm 46 = .ok (.lastore, 1) := by decide +kernel
theorem dX8_addTerm_47 : decode cX8_addTerm 47 = .ok (.return_, 1) := by decide +kernel
theorem dX9_init_0 : decode cX9_init 0 = .ok (.aload_n 0, 1) := by decide +kernel
theorem dX9_init_1 : decode cX9_init 1 = .ok (.invokespecial 3, 3) := by decide +kernel
theorem dX9_init_4 : decode cX9_init 4 = .ok (.aload_n 0, 1) := by decide +kernel
theorem dX9_init_5 : decode cX9_init 5 = .ok (.bipush 9, 2) := by decide +kernel
theorem dX9_init_7 : decode cX9_init 7 = .ok (.newarray .long, 2) := by decide +kernel
theorem dX9_init_9 : decode cX9_init 9 = .ok (.putfield 9, 3) := by decide +kernel
theorem dX9_init_12 : decode cX9_init 12 = .ok (.aload_n 0, 1) := by decide +kernel
theorem dX9_init_13 : decode cX9_init 13 = .ok (.bipush 10, 2) := by decide +kernel
theorem dX9_init_15 : decode cX9_init 15 = .ok (.newarray .int, 2) := by decide +kernel
theorem dX9_init_17 : decode cX9_init 17 = .ok (.putfield 17, 3) := by decide +kernel
theorem dX9_init_20 : decode cX9_init 20 = .ok (.aload_n 0, 1) := by decide +kernel
theorem dX9_init_21 : decode cX9_init 21 = .ok (.bipush 10, 2) := by decide +kernel
theorem dX9_init_23 : decode cX9_init 23 = .ok (.newarray .int, 2) := by decide +kernel
theorem dX9_init_25 : decode cX9_init 25 = .ok (.putfield 21, 3) := by decide +kernel
theorem dX9_init_28 : decode cX9_init 28 = .ok (.aload_n 0, 1) := by decide +kernel
theorem dX9_init_29 : decode cX9_init 29 = .ok (.bipush 8, 2) := by decide +kernel
theorem dX9_init_31 : decode cX9_init 31 = .ok (.newarray .long, 2) := by decide +kernel
theorem dX9_init_33 : decode cX9_init 33 = .ok (.putfield 24, 3) := by decide +kernel
theorem dX9_init_36 : decode cX9_init 36 = .ok (.aload_n 0, 1) := by decide +kernel
theorem dX9_init_37 : decode cX9_init 37 = .ok (.bipush 8, 2) := by decide +kernel
theorem dX9_init_39 : decode cX9_init 39 = .ok (.newarray .boolean, 2) := by decide +kernel
theorem dX9_init_41 : decode cX9_init 41 = .ok (.putfield 27, 3) := by decide +kernel
theorem dX9_init_44 : decode cX9_init 44 = .ok (.aload_n 0, 1) := by decide +kernel
theorem dX9_init_45 : decode cX9_init 45 = .ok (.bipush 8, 2) := by decide +kernel
theorem dX9_init_47 : decode cX9_init 47 = .ok (.newarray .int, 2) := by decide +kernel
theorem dX9_init_49 : decode cX9_init 49 = .ok (.putfield 31, 3) := by decide +kernel
theorem dX9_init_52 : decode cX9_init 52 = .ok (.return_, 1) := by decide +kernel
theorem dX9_take_0 : decode cX9_take 0 = .ok (.iconst 0, 1) := by decide +kernel
theorem dX9_take_1 : decode cX9_take 1 = .ok (.istore_n 2, 1) := by decide +kernel
theorem dX9_take_2 : decode cX9_take 2 = .ok (.iload_n 2, 1) := by decide +kernel
theorem dX9_take_3 : decode cX9_take 3 = .ok (.bipush 9, 2) := by decide +kernel
theorem dX9_take_5 : decode cX9_take 5 = .ok (.if_icmp .ge 24, 3) := by decide +kernel
theorem dX9_take_8 : decode cX9_take 8 = .ok (.iload_n 2, 1) := by decide +kernel
theorem dX9_take_9 : decode cX9_take 9 = .ok (.aload_n 1, 1) := by decide +kernel
theorem dX9_take_10 : decode cX9_take 10 = .ok (.arraylength, 1) := by decide +kernel
theorem dX9_take_11 : decode cX9_take 11 = .ok (.if_icmp .ge 18, 3) := by decide +kernel
theorem dX9_take_14 : decode cX9_take 14 = .ok (.aload_n 0, 1) := by decide +kernel
theorem dX9_take_15 : decode cX9_take 15 = .ok (.getfield 9, 3) := by decide +kernel
theorem dX9_take_18 : decode cX9_take 18 = .ok (.iload_n 2, 1) := by decide +kernel
theorem dX9_take_19 : decode cX9_take 19 = .ok (.aload_n 1, 1) := by decide +kernel
theorem dX9_take_20 : decode cX9_take 20 = .ok (.iload_n 2, 1) := by decide +kernel
theorem dX9_take_21 : decode cX9_take 21 = .ok (.laload, 1) := by decide +kernel
theorem dX9_take_22 : decode cX9_take 22 = .ok (.lastore, 1) := by decide +kernel
theorem dX9_take_23 : decode cX9_take 23 = .ok (.iinc 2 1, 3) := by decide +kernel
theorem dX9_take_26 : decode cX9_take 26 = .ok (.goto (-24), 3) := by decide +kernel
theorem dX9_take_29 : decode cX9_take 29 = .ok (.aload_n 0, 1) := by decide +kernel
theorem dX9_take_30 : decode cX9_take 30 = .ok (.invokevirtual 34, 3) := by decide +kernel
theorem dX9_take_33 : decode cX9_take 33 = .ok (.return_, 1) := by decide +kernel
theorem dX9_change_0 : decode cX9_change 0 = .ok (.iload_n 1, 1) := by decide +kernel
theorem dX9_change_1 : decode cX9_change 1 = .ok (.ifCond .lt 20, 3) := by decide +kernel
theorem dX9_change_4 : decode cX9_change 4 = .ok (.iload_n 1, 1) := by decide +kernel
theorem dX9_change_5 : decode cX9_change 5 = .ok (.bipush 9, 2) := by decide +kernel
theorem dX9_change_7 : decode cX9_change 7 = .ok (.if_icmp .ge 14, 3) := by decide +kernel
theorem dX9_change_10 : decode cX9_change 10 = .ok (.aload_n 0, 1) := by decide +kernel
theorem dX9_change_11 : decode cX9_change 11 = .ok (.getfield 9, 3) := by decide +kernel
theorem dX9_change_14 : decode cX9_change 14 = .ok (.iload_n 1, 1) := by decide +kernel
theorem dX9_change_15 : decode cX9_change 15 = .ok (.lload_n 2, 1) := by decide +kernel
theorem dX9_change_16 : decode cX9_change 16 = .ok (.lastore, 1) := by decide +kernel
theorem dX9_change_17 : decode cX9_change 17 = .ok (.aload_n 0, 1) := by decide +kernel
theorem dX9_change_18 : decode cX9_change 18 = .ok (.invokevirtual 34, 3) := by decide +kernel
theorem dX9_change_21 : decode cX9_change 21 = .ok (.return_, 1) := by decide +kernel
theorem dX9_forget_0 : decode cX9_forget 0 = .ok (.aload_n 0, 1) := by decide +kernel
theorem dX9_forget_1 : decode cX9_forget 1 = .ok (.iconst 0, 1) := by decide +kernel
theorem dX9_forget_2 : decode cX9_forget 2 = .ok (.putfield 37, 3) := by decide +kernel
theorem dX9_forget_5 : decode cX9_forget 5 = .ok (.aload_n 0, 1) := by decide +kernel
theorem dX9_forget_6 : decode cX9_forget 6 = .ok (.iconst 0, 1) := by decide +kernel
theorem dX9_forget_7 : decode cX9_forget 7 = .ok (.putfield 41, 3) := by decide +kernel
theorem dX9_forget_10 : decode cX9_forget 10 = .ok (.return_, 1) := by decide +kernel
theorem dX9_floorOf_0 : decode cX9_floorOf 0 = .ok (.iload_n 1, 1) := by decide +kernel
theorem dX9_floorOf_1 : decode cX9_floorOf 1 = .ok (.ifCond .lt 9, 3) := by decide +kernel
theorem dX9_floorOf_4 : decode cX9_floorOf 4 = .ok (.iload_n 1, 1) := by decide +kernel
theorem dX9_floorOf_5 : decode cX9_floorOf 5 = .ok (.bipush 8, 2) := by decide +kernel
theorem dX9_floorOf_7 : decode cX9_floorOf 7 = .ok (.if_icmp .lt 7, 3) := by decide +kernel
theorem dX9_floorOf_10 : decode cX9_floorOf 10 = .ok (.ldc2_w 44, 3) := by decide +kernel
theorem dX9_floorOf_13 : decode cX9_floorOf 13 = .ok (.lreturn, 1) := by decide +kernel
theorem dX9_floorOf_14 : decode cX9_floorOf 14 = .ok (.aload_n 0, 1) := by decide +kernel
theorem dX9_floorOf_15 : decode cX9_floorOf 15 = .ok (.getfield 27, 3) := by decide +kernel
theorem dX9_floorOf_18 : decode cX9_floorOf 18 = .ok (.iload_n 1, 1) := by decide +kernel
theorem dX9_floorOf_19 : decode cX9_floorOf 19 = .ok (.baload, 1) := by decide +kernel
theorem dX9_floorOf_20 : decode cX9_floorOf 20 = .ok (.ifCond .eq 12, 3) := by decide +kernel
theorem dX9_floorOf_23 : decode cX9_floorOf 23 = .ok (.aload_n 0, 1) := by decide +kernel
theorem dX9_floorOf_24 : decode cX9_floorOf 24 = .ok (.getfield 24, 3) := by decide +kernel
theorem dX9_floorOf_27 : decode cX9_floorOf 27 = .ok (.iload_n 1, 1) := by decide +kernel
theorem dX9_floorOf_28 : decode cX9_floorOf 28 = .ok (.laload, 1) := by decide +kernel
theorem dX9_floorOf_29 : decode cX9_floorOf 29 = .ok (.goto 11, 3) := by decide +kernel
theorem dX9_floorOf_32 : decode cX9_floorOf 32 = .ok (.aload_n 0, 1) := by decide +kernel
theorem dX9_floorOf_33 : decode cX9_floorOf 33 = .ok (.getfield 24, 3) := by decide +kernel
theorem dX9_floorOf_36 : decode cX9_floorOf 36 = .ok (.iload_n 1, 1) := by decide +kernel
theorem dX9_floorOf_37 : decode cX9_floorOf 37 = .ok (.laload, 1) := by decide +kernel
theorem dX9_floorOf_38 : decode cX9_floorOf 38 = .ok (.lconst 1, 1) := by decide +kernel
theorem dX9_floorOf_39 : decode cX9_floorOf 39 = .ok (.lsub, 1) := by decide +kernel
theorem dX9_floorOf_40 : decode cX9_floorOf 40 = .ok (.lreturn, 1) := by decide +kernel
theorem dX9_placeOfRoot_0 : decode cX9_placeOfRoot 0 = .ok (.iload_n 1, 1) := by decide +kernel
theorem dX9_placeOfRoot_1 : decode cX9_placeOfRoot 1 = .ok (.ifCond .ge 5, 3) := by decide +kernel
theorem dX9_placeOfRoot_4 : decode cX9_placeOfRoot 4 = .ok (.iconst (-1), 1) := by decide +kernel
theorem dX9_placeOfRoot_5 : decode cX9_placeOfRoot 5 = .ok (.ireturn, 1) := by decide +kernel
theorem dX9_placeOfRoot_6 : decode cX9_placeOfRoot 6 = .ok (.iconst 0, 1) := by decide +kernel
theorem dX9_placeOfRoot_7 : decode cX9_placeOfRoot 7 = .ok (.istore_n 2, 1) := by decide +kernel
theorem dX9_placeOfRoot_8 : decode cX9_placeOfRoot 8 = .ok (.iconst 0, 1) := by decide +kernel
theorem dX9_placeOfRoot_9 : decode cX9_placeOfRoot 9 = .ok (.istore_n 3, 1) := by decide +kernel
theorem dX9_placeOfRoot_10 : decode cX9_placeOfRoot 10 = .ok (.iload_n 3, 1) := by decide +kernel
theorem dX9_placeOfRoot_11 : decode cX9_placeOfRoot 11 = .ok (.aload_n 0, 1) := by decide +kernel
theorem dX9_placeOfRoot_12 : decode cX9_placeOfRoot 12 = .ok (.getfield 46, 3) := by decide +kernel
theorem dX9_placeOfRoot_15 : decode cX9_placeOfRoot 15 = .ok (.if_icmp .ge 31, 3) := by decide +kernel
theorem dX9_placeOfRoot_18 : decode cX9_placeOfRoot 18 = .ok (.iload_n 3, 1) := by decide +kernel
theorem dX9_placeOfRoot_19 : decode cX9_placeOfRoot 19 = .ok (.bipush 8, 2) := by decide +kernel
theorem dX9_placeOfRoot_21 : decode cX9_placeOfRoot 21 = .ok (.if_icmp .ge 25, 3) := by decide +kernel
theorem dX9_placeOfRoot_24 : decode cX9_placeOfRoot 24 = .ok (.iload_n 2, 1) := by decide +kernel
theorem dX9_placeOfRoot_25 : decode cX9_placeOfRoot 25 = .ok (.aload_n 0, 1) := by decide +kernel
theorem dX9_placeOfRoot_26 : decode cX9_placeOfRoot 26 = .ok (.getfield 31, 3) := by decide +kernel
theorem dX9_placeOfRoot_29 : decode cX9_placeOfRoot 29 = .ok (.iload_n 3, 1) := by decide +kernel
theorem dX9_placeOfRoot_30 : decode cX9_placeOfRoot 30 = .ok (.iaload, 1) := by decide +kernel
theorem dX9_placeOfRoot_31 : decode cX9_placeOfRoot 31 = .ok (.iadd, 1) := by decide +kernel
theorem dX9_placeOfRoot_32 : decode cX9_placeOfRoot 32 = .ok (.istore_n 2, 1) := by decide +kernel
theorem dX9_placeOfRoot_33 : decode cX9_placeOfRoot 33 = .ok (.iload_n 1, 1) := by decide +kernel
theorem dX9_placeOfRoot_34 : decode cX9_placeOfRoot 34 = .ok (.iload_n 2, 1) := by decide +kernel
theorem dX9_placeOfRoot_35 : decode cX9_placeOfRoot 35 = .ok (.if_icmp .ge 5, 3) := by decide +kernel
theorem dX9_placeOfRoot_38 : decode cX9_placeOfRoot 38 = .ok (.iload_n 3, 1) := by decide +kernel
theorem dX9_placeOfRoot_39 : decode cX9_placeOfRoot 39 = .ok (.ireturn, 1) := by decide +kernel
theorem dX9_placeOfRoot_40 : decode cX9_placeOfRoot 40 = .ok (.iinc 3 1, 3) := by decide +kernel
theorem dX9_placeOfRoot_43 : decode cX9_placeOfRoot 43 = .ok (.goto (-33), 3) := by decide +kernel
theorem dX9_placeOfRoot_46 : decode cX9_placeOfRoot 46 = .ok (.iconst (-1), 1) := by decide +kernel
theorem dX9_placeOfRoot_47 : decode cX9_placeOfRoot 47 = .ok (.ireturn, 1) := by decide +kernel
theorem dX9_rootsUpTo_0 : decode cX9_rootsUpTo 0 = .ok (.iload_n 1, 1) := by decide +kernel
theorem dX9_rootsUpTo_1 : decode cX9_rootsUpTo 1 = .ok (.i2l, 1) := by decide +kernel
theorem dX9_rootsUpTo_2 : decode cX9_rootsUpTo 2 = .ok (.bipush 12, 2) := by decide +kernel
theorem dX9_rootsUpTo_4 : decode cX9_rootsUpTo 4 = .ok (.lshl, 1) := by decide +kernel
theorem dX9_rootsUpTo_5 : decode cX9_rootsUpTo 5 = .ok (.lstore_n 2, 1) := by decide +kernel
theorem dX9_rootsUpTo_6 : decode cX9_rootsUpTo 6 = .ok (.iconst 0, 1) := by decide +kernel
theorem dX9_rootsUpTo_7 : decode cX9_rootsUpTo 7 = .ok (.istore 4, 2) := by decide +kernel
theorem dX9_rootsUpTo_9 : decode cX9_rootsUpTo 9 = .ok (.iconst 0, 1) := by decide +kernel
theorem dX9_rootsUpTo_10 : decode cX9_rootsUpTo 10 = .ok (.istore 5, 2) := by decide +kernel
theorem dX9_rootsUpTo_12 : decode cX9_rootsUpTo 12 = .ok (.iload 5, 2) := by decide +kernel
theorem dX9_rootsUpTo_14 : decode cX9_rootsUpTo 14 = .ok (.aload_n 0, 1) := by decide +kernel
theorem dX9_rootsUpTo_15 : decode cX9_rootsUpTo 15 = .ok (.getfield 46, 3) := by decide +kernel
theorem dX9_rootsUpTo_18 : decode cX9_rootsUpTo 18 = .ok (.if_icmp .ge 40, 3) := by decide +kernel
theorem dX9_rootsUpTo_21 : decode cX9_rootsUpTo 21 = .ok (.iload 5, 2) := by decide +kernel
theorem dX9_rootsUpTo_23 : decode cX9_rootsUpTo 23 = .ok (.bipush 8, 2) := by decide +kernel
theorem dX9_rootsUpTo_25 : decode cX9_rootsUpTo 25 = .ok (.if_icmp .ge 33, 3) := by decide +kernel
theorem dX9_rootsUpTo_28 : decode cX9_rootsUpTo 28 = .ok (.aload_n 0, 1) := by decide +kernel
theorem dX9_rootsUpTo_29 : decode cX9_rootsUpTo 29 = .ok (.getfield 24, 3) := by decide +kernel
theorem dX9_rootsUpTo_32 : decode cX9_rootsUpTo 32 = .ok (.iload 5, 2) := by decide +kernel
theorem dX9_rootsUpTo_34 : decode cX9_rootsUpTo 34 = .ok (.laload, 1) := by decide +kernel
theorem dX9_rootsUpTo_35 : decode cX9_rootsUpTo 35 = .ok (.lload_n 2, 1) := by decide +kernel
theorem dX9_rootsUpTo_36 : decode cX9_rootsUpTo 36 = .ok (.lcmp, 1) := by decide +kernel
theorem dX9_rootsUpTo_37 : decode cX9_rootsUpTo 37 = .ok (.ifCond .gt 15, 3) := by decide +kernel
theorem dX9_rootsUpTo_40 : decode cX9_rootsUpTo 40 = .ok (.iload 4, 2) := by decide +kernel
theorem dX9_rootsUpTo_42 : decode cX9_rootsUpTo 42 = .ok (.aload_n 0, 1) := by decide +kernel
theorem dX9_rootsUpTo_43 : decode cX9_rootsUpTo 43 = .ok (.getfield 31, 3) := by decide +kernel
theorem dX9_rootsUpTo_46 : decode cX9_rootsUpTo 46 = .ok (.iload 5, 2) := by decide +kernel
theorem dX9_rootsUpTo_48 : decode cX9_rootsUpTo 48 = .ok (.iaload, 1) := by decide +kernel
theorem dX9_rootsUpTo_49 : decode cX9_rootsUpTo 49 = .ok (.iadd, 1) := by decide +kernel
theorem dX9_rootsUpTo_50 : decode cX9_rootsUpTo 50 = .ok (.istore 4, 2) := by decide +kernel
theorem dX9_rootsUpTo_52 : decode cX9_rootsUpTo 52 = .ok (.iinc 5 1, 3) := by decide +kernel
theorem dX9_rootsUpTo_55 : decode cX9_rootsUpTo 55 = .ok (.goto (-43), 3) := by decide +kernel
theorem dX9_rootsUpTo_58 : decode cX9_rootsUpTo 58 = .ok (.iload 4, 2) := by decide +kernel
theorem dX9_rootsUpTo_60 : decode cX9_rootsUpTo 60 = .ok (.ireturn, 1) := by decide +kernel
theorem dX9_firstFailure_0 : decode cX9_firstFailure 0 = .ok (.aload_n 0, 1) := by decide +kernel
theorem dX9_firstFailure_1 : decode cX9_firstFailure 1 = .ok (.getfield 50, 3) := by decide +kernel
theorem dX9_firstFailure_4 : decode cX9_firstFailure 4 = .ok (.bipush 10, 2) := by decide +kernel
theorem dX9_firstFailure_6 : decode cX9_firstFailure 6 = .ok (.invokestatic 53, 3) := by decide +kernel
theorem dX9_firstFailure_9 : decode cX9_firstFailure 9 = .ok (.iconst 1, 1) := by decide +kernel
theorem dX9_firstFailure_10 : decode cX9_firstFailure 10 = .ok (.isub, 1) := by decide +kernel
theorem dX9_firstFailure_11 : decode cX9_firstFailure 11 = .ok (.istore_n 1, 1) := by decide +kernel
theorem dX9_firstFailure_12 : decode cX9_firstFailure 12 = .ok (.iconst 1, 1) := by decide +kernel
theorem dX9_firstFailure_13 : decode cX9_firstFailure 13 = .ok (.istore_n 2, 1) := by decide +kernel
theorem dX9_firstFailure_14 : decode cX9_firstFailure 14 = .ok (.iload_n 2, 1) := by decide +kernel
theorem dX9_firstFailure_15 : decode cX9_firstFailure 15 = .ok (.iload_n 1, 1) := by decide +kernel
theorem dX9_firstFailure_16 : decode cX9_firstFailure 16 = .ok (.if_icmp .gt 45, 3) := by decide +kernel
theorem dX9_firstFailure_19 : decode cX9_firstFailure 19 = .ok (.aload_n 0, 1) := by decide +kernel
theorem dX9_firstFailure_20 : decode cX9_firstFailure 20 = .ok (.getfield 17, 3) := by decide +kernel
theorem dX9_firstFailure_23 : decode cX9_firstFailure 23 = .ok (.iload_n 2, 1) := by decide +kernel
theorem dX9_firstFailure_24 : decode cX9_firstFailure 24 = .ok (.iaload, 1) := by decide +kernel
theorem dX9_firstFailure_25 : decode cX9_firstFailure 25 = .ok (.aload_n 0, 1) := by decide +kernel
theorem dX9_firstFailure_26 : decode cX9_firstFailure 26 = .ok (.getfield 17, 3) := by decide +kernel
theorem dX9_firstFailure_29 : decode cX9_firstFailure 29 = .ok (.iload_n 2, 1) := by decide +kernel
theorem dX9_firstFailure_30 : decode cX9_firstFailure 30 = .ok (.iconst 1, 1) := by decide +kernel
theorem dX9_firstFailure_31 : decode cX9_firstFailure 31 = .ok (.isub, 1) := by decide +kernel
theorem dX9_firstFailure_32 : decode cX9_firstFailure 32 = .ok (.iaload, 1) := by decide +kernel
theorem dX9_firstFailure_33 : decode cX9_firstFailure 33 = .ok (.iconst 1, 1) := by decide +kernel
theorem dX9_firstFailure_34 : decode cX9_firstFailure 34 = .ok (.isub, 1) := by decide +kernel
theorem dX9_firstFailure_35 : decode cX9_firstFailure 35 = .ok (.if_icmp .ne 18, 3) := by decide +kernel
theorem dX9_firstFailure_38 : decode cX9_firstFailure 38 = .ok (.aload_n 0, 1) := by decide +kernel
theorem dX9_firstFailure_39 : decode cX9_firstFailure 39 = .ok (.getfield 21, 3) := by decide +kernel
theorem dX9_firstFailure_42 : decode cX9_firstFailure 42 = .ok (.iload_n 2, 1) := by decide +kernel
theorem dX9_firstFailure_43 : decode cX9_firstFailure 43 = .ok (.iaload, 1) := by decide +kernel
theorem dX9_firstFailure_44 : decode cX9_firstFailure 44 = .ok (.aload_n 0, 1) := by decide +kernel
theorem dX9_firstFailure_45 : decode cX9_firstFailure 45 = .ok (.getfield 21, 3) := by decide +kernel
theorem dX9_firstFailure_48 : decode cX9_firstFailure 48 = .ok (.iconst 0, 1) := by decide +kernel
theorem dX9_firstFailure_49 : decode cX9_firstFailure 49 = .ok (.iaload, 1) := by decide +kernel
theorem dX9_firstFailure_50 : decode cX9_firstFailure 50 = .ok (.if_icmp .eq 5, 3) := by decide +kernel
theorem dX9_firstFailure_53 : decode cX9_firstFailure 53 = .ok (.iload_n 2, 1) := by decide +kernel
theorem dX9_firstFailure_54 : decode cX9_firstFailure 54 = .ok (.ireturn, 1) := by decide +kernel
theorem dX9_firstFailure_55 : decode cX9_firstFailure 55 = .ok (.iinc 2 1, 3) := by decide +kernel
theorem dX9_firstFailure_58 : decode cX9_firstFailure 58 = .ok (.goto (-44), 3) := by decide +kernel
theorem dX9_firstFailure_61 : decode cX9_firstFailure 61 = .ok (.iload_n 1, 1) := by decide +kernel
theorem dX9_firstFailure_62 : decode cX9_firstFailure 62 = .ok (.ifCond .lt 19, 3) := by decide +kernel
theorem dX9_firstFailure_65 : decode cX9_firstFailure 65 = .ok (.aload_n 0, 1) := by decide +kernel
theorem dX9_firstFailure_66 : decode cX9_firstFailure 66 = .ok (.getfield 17, 3) := by decide +kernel
theorem dX9_firstFailure_69 : decode cX9_firstFailure 69 = .ok (.iload_n 1, 1) := by decide +kernel
theorem dX9_firstFailure_70 : decode cX9_firstFailure 70 = .ok (.iaload, 1) := by decide +kernel
theorem dX9_firstFailure_71 : decode cX9_firstFailure 71 = .ok (.ifCond .le 10, 3) := by decide +kernel
theorem dX9_firstFailure_74 : decode cX9_firstFailure 74 = .ok (.aload_n 0, 1) := by decide +kernel
theorem dX9_firstFailure_75 : decode cX9_firstFailure 75 = .ok (.getfield 50, 3) := by decide +kernel
theorem dX9_firstFailure_78 : decode cX9_firstFailure 78 = .ok (.goto 4, 3) := by decide +kernel
theorem dX9_firstFailure_81 : decode cX9_firstFailure 81 = .ok (.iconst (-1), 1) := by decide +kernel
theorem dX9_firstFailure_82 : decode cX9_firstFailure 82 = .ok (.ireturn, 1) := by decide +kernel
theorem dX10_init_0 : decode cX10_init 0 = .ok (.aload_n 0, 1) := by decide +kernel
theorem dX10_init_1 : decode cX10_init 1 = .ok (.invokespecial 1, 3) := by decide +kernel
theorem dX10_init_4 : decode cX10_init 4 = .ok (.aload_n 0, 1) := by decide +kernel
theorem dX10_init_5 : decode cX10_init 5 = .ok (.bipush 8, 2) := by decide +kernel
theorem dX10_init_7 : decode cX10_init 7 = .ok (.anewarray 9, 3) := by decide +kernel
theorem dX10_init_10 : decode cX10_init 10 = .ok (.putfield 11, 3) := by decide +kernel
theorem dX10_init_13 : decode cX10_init 13 = .ok (.iconst 0, 1) := by decide +kernel
theorem dX10_init_14 : decode cX10_init 14 = .ok (.istore_n 1, 1) := by decide +kernel
theorem dX10_init_15 : decode cX10_init 15 = .ok (.iload_n 1, 1) := by decide +kernel
theorem dX10_init_16 : decode cX10_init 16 = .ok (.bipush 8, 2) := by decide +kernel
theorem dX10_init_18 : decode cX10_init 18 = .ok (.if_icmp .ge 22, 3) := by decide +kernel
