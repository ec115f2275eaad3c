theorem dX11_count_75 : decode cX11_count 75 = .ok (.aload_n 0, 1) := by decide +kernel
theorem dX11_count_76 : decode cX11_count 76 = .ok (.invokevirtual 256, 3) := by decide +kernel
theorem dX11_count_79 : decode cX11_count 79 = .ok (.ireturn, 1) := by decide +kernel
theorem dX11_count_80 : decode cX11_count 80 = .ok (.aload_n 0, 1) := by decide +kernel
theorem dX11_count_81 : decode cX11_count 81 = .ok (.iload_n 1, 1) := by decide +kernel
theorem dX11_count_82 : decode cX11_count 82 = .ok (.invokevirtual 253, 3) := by decide +kernel
theorem dX11_count_85 : decode cX11_count 85 = .ok (.iload_n 3, 1) := by decide +kernel
theorem dX11_count_86 : decode cX11_count 86 = .ok (.ifCond .ge 7, 3) := by decide +kernel
theorem dX11_count_89 : decode cX11_count 89 = .ok (.iconst (-1), 1) := by decide +kernel
theorem dX11_count_90 : decode cX11_count 90 = .ok (.goto 9, 3) := by decide +kernel
theorem dX11_count_93 : decode cX11_count 93 = .ok (.iload_n 3, 1) := by decide +kernel
theorem dX11_count_94 : decode cX11_count 94 = .ok (.aload_n 0, 1) := by decide +kernel
theorem dX11_count_95 : decode cX11_count 95 = .ok (.invokevirtual 256, 3) := by decide +kernel
theorem dX11_count_98 : decode cX11_count 98 = .ok (.isub, 1) := by decide +kernel
theorem dX11_count_99 : decode cX11_count 99 = .ok (.ireturn, 1) := by decide +kernel
theorem dX11_count_100 : decode cX11_count 100 = .ok (.aload_n 0, 1) := by decide +kernel
theorem dX11_count_101 : decode cX11_count 101 = .ok (.iload_n 1, 1) := by decide +kernel
theorem dX11_count_102 : decode cX11_count 102 = .ok (.invokevirtual 253, 3) := by decide +kernel
theorem dX11_count_105 : decode cX11_count 105 = .ok (.aload_n 0, 1) := by decide +kernel
theorem dX11_count_106 : decode cX11_count 106 = .ok (.getfield 134, 3) := by decide +kernel
theorem dX11_count_109 : decode cX11_count 109 = .ok (.ifCond .ne 7, 3) := by decide +kernel
theorem dX11_count_112 : decode cX11_count 112 = .ok (.iconst 0, 1) := by decide +kernel
theorem dX11_count_113 : decode cX11_count 113 = .ok (.goto 8, 3) := by decide +kernel
theorem dX11_count_116 : decode cX11_count 116 = .ok (.aload_n 0, 1) := by decide +kernel
theorem dX11_count_117 : decode cX11_count 117 = .ok (.iconst 0, 1) := by decide +kernel
theorem dX11_count_118 : decode cX11_count 118 = .ok (.invokevirtual 159, 3) := by decide +kernel
theorem dX11_count_121 : decode cX11_count 121 = .ok (.ireturn, 1) := by decide +kernel
theorem dX11_count_122 : decode cX11_count 122 = .ok (.aload_n 0, 1) := by decide +kernel
theorem dX11_count_123 : decode cX11_count 123 = .ok (.iload_n 1, 1) := by decide +kernel
theorem dX11_count_124 : decode cX11_count 124 = .ok (.invokevirtual 259, 3) := by decide +kernel
theorem dX11_count_127 : decode cX11_count 127 = .ok (.ireturn, 1) := by decide +kernel
theorem dX11_count_128 : decode cX11_count 128 = .ok (.aload_n 0, 1) := by decide +kernel
theorem dX11_count_129 : decode cX11_count 129 = .ok (.iload_n 1, 1) := by decide +kernel
theorem dX11_count_130 : decode cX11_count 130 = .ok (.invokevirtual 262, 3) := by decide +kernel
theorem dX11_count_133 : decode cX11_count 133 = .ok (.ifCond .eq 7, 3) := by decide +kernel
theorem dX11_count_136 : decode cX11_count 136 = .ok (.iconst 1, 1) := by decide +kernel
theorem dX11_count_137 : decode cX11_count 137 = .ok (.goto 4, 3) := by decide +kernel
theorem dX11_count_140 : decode cX11_count 140 = .ok (.iconst 0, 1) := by decide +kernel
theorem dX11_count_141 : decode cX11_count 141 = .ok (.ireturn, 1) := by decide +kernel
theorem dX11_count_142 : decode cX11_count 142 = .ok (.iload_n 3, 1) := by decide +kernel
theorem dX11_count_143 : decode cX11_count 143 = .ok (.iconst 1, 1) := by decide +kernel
theorem dX11_count_144 : decode cX11_count 144 = .ok (.if_icmp .ge 7, 3) := by decide +kernel
theorem dX11_count_147 : decode cX11_count 147 = .ok (.iconst 0, 1) := by decide +kernel
theorem dX11_count_148 : decode cX11_count 148 = .ok (.goto 10, 3) := by decide +kernel
theorem dX11_count_151 : decode cX11_count 151 = .ok (.aload_n 0, 1) := by decide +kernel
theorem dX11_count_152 : decode cX11_count 152 = .ok (.bipush 36, 2) := by decide +kernel
theorem dX11_count_154 : decode cX11_count 154 = .ok (.iload_n 1, 1) := by decide +kernel
theorem dX11_count_155 : decode cX11_count 155 = .ok (.invokevirtual 137, 3) := by decide +kernel
theorem dX11_count_158 : decode cX11_count 158 = .ok (.ireturn, 1) := by decide +kernel
theorem dX11_count_159 : decode cX11_count 159 = .ok (.aload_n 0, 1) := by decide +kernel
theorem dX11_count_160 : decode cX11_count 160 = .ok (.iload_n 1, 1) := by decide +kernel
theorem dX11_count_161 : decode cX11_count 161 = .ok (.invokevirtual 265, 3) := by decide +kernel
theorem dX11_count_164 : decode cX11_count 164 = .ok (.ifCond .eq 7, 3) := by decide +kernel
theorem dX11_count_167 : decode cX11_count 167 = .ok (.iconst 1, 1) := by decide +kernel
theorem dX11_count_168 : decode cX11_count 168 = .ok (.goto 4, 3) := by decide +kernel
theorem dX11_count_171 : decode cX11_count 171 = .ok (.iconst 0, 1) := by decide +kernel
theorem dX11_count_172 : decode cX11_count 172 = .ok (.ireturn, 1) := by decide +kernel
theorem dX11_count_173 : decode cX11_count 173 = .ok (.iconst (-1), 1) := by decide +kernel
theorem dX11_count_174 : decode cX11_count 174 = .ok (.ireturn, 1) := by decide +kernel
theorem dX11_mostOften_0 : decode cX11_mostOften 0 = .ok (.aload_n 0, 1) := by decide +kernel
theorem dX11_mostOften_1 : decode cX11_mostOften 1 = .ok (.iload_n 1, 1) := by decide +kernel
theorem dX11_mostOften_2 : decode cX11_mostOften 2 = .ok (.invokevirtual 253, 3) := by decide +kernel
theorem dX11_mostOften_5 : decode cX11_mostOften 5 = .ok (.iconst 0, 1) := by decide +kernel
theorem dX11_mostOften_6 : decode cX11_mostOften 6 = .ok (.istore_n 2, 1) := by decide +kernel
theorem dX11_mostOften_7 : decode cX11_mostOften 7 = .ok (.iconst 0, 1) := by decide +kernel
theorem dX11_mostOften_8 : decode cX11_mostOften 8 = .ok (.istore_n 3, 1) := by decide +kernel
theorem dX11_mostOften_9 : decode cX11_mostOften 9 = .ok (.iload_n 3, 1) := by decide +kernel
theorem dX11_mostOften_10 : decode cX11_mostOften 10 = .ok (.aload_n 0, 1) := by decide +kernel
theorem dX11_mostOften_11 : decode cX11_mostOften 11 = .ok (.getfield 134, 3) := by decide +kernel
theorem dX11_mostOften_14 : decode cX11_mostOften 14 = .ok (.if_icmp .ge 25, 3) := by decide +kernel
theorem dX11_mostOften_17 : decode cX11_mostOften 17 = .ok (.aload_n 0, 1) := by decide +kernel
theorem dX11_mostOften_18 : decode cX11_mostOften 18 = .ok (.iload_n 3, 1) := by decide +kernel
theorem dX11_mostOften_19 : decode cX11_mostOften 19 = .ok (.invokevirtual 159, 3) := by decide +kernel
theorem dX11_mostOften_22 : decode cX11_mostOften 22 = .ok (.ifCond .le 9, 3) := by decide +kernel
theorem dX11_mostOften_25 : decode cX11_mostOften 25 = .ok (.iload_n 3, 1) := by decide +kernel
theorem dX11_mostOften_26 : decode cX11_mostOften 26 = .ok (.iconst 1, 1) := by decide +kernel
theorem dX11_mostOften_27 : decode cX11_mostOften 27 = .ok (.iadd, 1) := by decide +kernel
theorem dX11_mostOften_28 : decode cX11_mostOften 28 = .ok (.goto 4, 3) := by decide +kernel
theorem dX11_mostOften_31 : decode cX11_mostOften 31 = .ok (.iload_n 2, 1) := by decide +kernel
theorem dX11_mostOften_32 : decode cX11_mostOften 32 = .ok (.istore_n 2, 1) := by decide +kernel
theorem dX11_mostOften_33 : decode cX11_mostOften 33 = .ok (.iinc 3 1, 3) := by decide +kernel
theorem dX11_mostOften_36 : decode cX11_mostOften 36 = .ok (.goto (-27), 3) := by decide +kernel
theorem dX11_mostOften_39 : decode cX11_mostOften 39 = .ok (.iload_n 2, 1) := by decide +kernel
theorem dX11_mostOften_40 : decode cX11_mostOften 40 = .ok (.ireturn, 1) := by decide +kernel
theorem dX11_floorOf_0 : decode cX11_floorOf 0 = .ok (.lconst 1, 1) := by decide +kernel
theorem dX11_floorOf_1 : decode cX11_floorOf 1 = .ok (.bipush 28, 2) := by decide +kernel
theorem dX11_floorOf_3 : decode cX11_floorOf 3 = .ok (.iload_n 2, 1) := by decide +kernel
theorem dX11_floorOf_4 : decode cX11_floorOf 4 = .ok (.iadd, 1) := by decide +kernel
theorem dX11_floorOf_5 : decode cX11_floorOf 5 = .ok (.lshl, 1) := by decide +kernel
theorem dX11_floorOf_6 : decode cX11_floorOf 6 = .ok (.lneg, 1) := by decide +kernel
theorem dX11_floorOf_7 : decode cX11_floorOf 7 = .ok (.lstore_n 3, 1) := by decide +kernel
theorem dX11_floorOf_8 : decode cX11_floorOf 8 = .ok (.lconst 1, 1) := by decide +kernel
theorem dX11_floorOf_9 : decode cX11_floorOf 9 = .ok (.bipush 28, 2) := by decide +kernel
theorem dX11_floorOf_11 : decode cX11_floorOf 11 = .ok (.iload_n 2, 1) := by decide +kernel
theorem dX11_floorOf_12 : decode cX11_floorOf 12 = .ok (.iadd, 1) := by decide +kernel
theorem dX11_floorOf_13 : decode cX11_floorOf 13 = .ok (.lshl, 1) := by decide +kernel
theorem dX11_floorOf_14 : decode cX11_floorOf 14 = .ok (.lstore 5, 2) := by decide +kernel
theorem dX11_floorOf_16 : decode cX11_floorOf 16 = .ok (.lload 5, 2) := by decide +kernel
theorem dX11_floorOf_18 : decode cX11_floorOf 18 = .ok (.lload_n 3, 1) := by decide +kernel
theorem dX11_floorOf_19 : decode cX11_floorOf 19 = .ok (.lsub, 1) := by decide +kernel
theorem dX11_floorOf_20 : decode cX11_floorOf 20 = .ok (.lconst 1, 1) := by decide +kernel
theorem dX11_floorOf_21 : decode cX11_floorOf 21 = .ok (.lcmp, 1) := by decide +kernel
theorem dX11_floorOf_22 : decode cX11_floorOf 22 = .ok (.ifCond .le 37, 3) := by decide +kernel
theorem dX11_floorOf_25 : decode cX11_floorOf 25 = .ok (.lload_n 3, 1) := by decide +kernel
theorem dX11_floorOf_26 : decode cX11_floorOf 26 = .ok (.lload 5, 2) := by decide +kernel
theorem dX11_floorOf_28 : decode cX11_floorOf 28 = .ok (.ladd, 1) := by decide +kernel
theorem dX11_floorOf_29 : decode cX11_floorOf 29 = .ok (.ldc2_w 268, 3) := by decide +kernel
theorem dX11_floorOf_32 : decode cX11_floorOf 32 = .ok (.ldiv, 1) := by decide +kernel
theorem dX11_floorOf_33 : decode cX11_floorOf 33 = .ok (.lstore 7, 2) := by decide +kernel
theorem dX11_floorOf_35 : decode cX11_floorOf 35 = .ok (.aload_n 0, 1) := by decide +kernel
theorem dX11_floorOf_36 : decode cX11_floorOf 36 = .ok (.lload 7, 2) := by decide +kernel
theorem dX11_floorOf_38 : decode cX11_floorOf 38 = .ok (.iload_n 2, 1) := by decide +kernel
theorem dX11_floorOf_39 : decode cX11_floorOf 39 = .ok (.invokevirtual 270, 3) := by decide +kernel
theorem dX11_floorOf_42 : decode cX11_floorOf 42 = .ok (.iload_n 1, 1) := by decide +kernel
theorem dX11_floorOf_43 : decode cX11_floorOf 43 = .ok (.if_icmp .gt 9, 3) := by decide +kernel
theorem dX11_floorOf_46 : decode cX11_floorOf 46 = .ok (.lload 7, 2) := by decide +kernel
theorem dX11_floorOf_48 : decode cX11_floorOf 48 = .ok (.lstore_n 3, 1) := by decide +kernel
theorem dX11_floorOf_49 : decode cX11_floorOf 49 = .ok (.goto 7, 3) := by decide +kernel
theorem dX11_floorOf_52 : decode cX11_floorOf 52 = .ok (.lload 7, 2) := by decide +kernel
theorem dX11_floorOf_54 : decode cX11_floorOf 54 = .ok (.lstore 5, 2) := by decide +kernel
theorem dX11_floorOf_56 : decode cX11_floorOf 56 = .ok (.goto (-40), 3) := by decide +kernel
theorem dX11_floorOf_59 : decode cX11_floorOf 59 = .ok (.lload_n 3, 1) := by decide +kernel
theorem dX11_floorOf_60 : decode cX11_floorOf 60 = .ok (.lreturn, 1) := by decide +kernel
theorem dX11_isRoot_0 : decode cX11_isRoot 0 = .ok (.aload_n 0, 1) := by decide +kernel
theorem dX11_isRoot_1 : decode cX11_isRoot 1 = .ok (.iload_n 1, 1) := by decide +kernel
theorem dX11_isRoot_2 : decode cX11_isRoot 2 = .ok (.invokevirtual 214, 3) := by decide +kernel
theorem dX11_isRoot_5 : decode cX11_isRoot 5 = .ok (.ifCond .eq 7, 3) := by decide +kernel
theorem dX11_isRoot_8 : decode cX11_isRoot 8 = .ok (.iload_n 2, 1) := by decide +kernel
theorem dX11_isRoot_9 : decode cX11_isRoot 9 = .ok (.ifCond .ge 5, 3) := by decide +kernel
theorem dX11_isRoot_12 : decode cX11_isRoot 12 = .ok (.iconst 0, 1) := by decide +kernel
theorem dX11_isRoot_13 : decode cX11_isRoot 13 = .ok (.ireturn, 1) := by decide +kernel
theorem dX11_isRoot_14 : decode cX11_isRoot 14 = .ok (.aload_n 0, 1) := by decide +kernel
theorem dX11_isRoot_15 : decode cX11_isRoot 15 = .ok (.iload_n 1, 1) := by decide +kernel
theorem dX11_isRoot_16 : decode cX11_isRoot 16 = .ok (.invokevirtual 253, 3) := by decide +kernel
theorem dX11_isRoot_19 : decode cX11_isRoot 19 = .ok (.iload_n 2, 1) := by decide +kernel
theorem dX11_isRoot_20 : decode cX11_isRoot 20 = .ok (.aload_n 0, 1) := by decide +kernel
theorem dX11_isRoot_21 : decode cX11_isRoot 21 = .ok (.invokevirtual 256, 3) := by decide +kernel
theorem dX11_isRoot_24 : decode cX11_isRoot 24 = .ok (.if_icmp .ge 7, 3) := by decide +kernel
theorem dX11_isRoot_27 : decode cX11_isRoot 27 = .ok (.iconst 1, 1) := by decide +kernel
theorem dX11_isRoot_28 : decode cX11_isRoot 28 = .ok (.goto 4, 3) := by decide +kernel
theorem dX11_isRoot_31 : decode cX11_isRoot 31 = .ok (.iconst 0, 1) := by decide +kernel
theorem dX11_isRoot_32 : decode cX11_isRoot 32 = .ok (.ireturn, 1) := by decide +kernel
theorem dX11_root_0 : decode cX11_root 0 = .ok (.aload_n 0, 1) := by decide +kernel
theorem dX11_root_1 : decode cX11_root 1 = .ok (.iconst 0, 1) := by decide +kernel
theorem dX11_root_2 : decode cX11_root 2 = .ok (.putfield 49, 3) := by decide +kernel
theorem dX11_root_5 : decode cX11_root 5 = .ok (.iload_n 3, 1) := by decide +kernel
theorem dX11_root_6 : decode cX11_root 6 = .ok (.i2l, 1) := by decide +kernel
theorem dX11_root_7 : decode cX11_root 7 = .ok (.lconst 0, 1) := by decide +kernel
theorem dX11_root_8 : decode cX11_root 8 = .ok (.ldc2_w 273, 3) := by decide +kernel
theorem dX11_root_11 : decode cX11_root 11 = .ok (.invokestatic 171, 3) := by decide +kernel
theorem dX11_root_14 : decode cX11_root 14 = .ok (.ifCond .eq 21, 3) := by decide +kernel
theorem dX11_root_17 : decode cX11_root 17 = .ok (.aload_n 0, 1) := by decide +kernel
theorem dX11_root_18 : decode cX11_root 18 = .ok (.iload_n 1, 1) := by decide +kernel
theorem dX11_root_19 : decode cX11_root 19 = .ok (.iload_n 2, 1) := by decide +kernel
theorem dX11_root_20 : decode cX11_root 20 = .ok (.invokevirtual 275, 3) := by decide +kernel
theorem dX11_root_23 : decode cX11_root 23 = .ok (.ifCond .eq 12, 3) := by decide +kernel
theorem dX11_root_26 : decode cX11_root 26 = .ok (.aload_n 0, 1) := by decide +kernel
theorem dX11_root_27 : decode cX11_root 27 = .ok (.iload_n 2, 1) := by decide +kernel
theorem dX11_root_28 : decode cX11_root 28 = .ok (.iload_n 3, 1) := by decide +kernel
theorem dX11_root_29 : decode cX11_root 29 = .ok (.invokevirtual 278, 3) := by decide +kernel
theorem dX11_root_32 : decode cX11_root 32 = .ok (.goto 6, 3) := by decide +kernel
theorem dX11_root_35 : decode cX11_root 35 = .ok (.ldc2_w 251, 3) := by decide +kernel
theorem dX11_root_38 : decode cX11_root 38 = .ok (.lreturn, 1) := by decide +kernel
theorem dX11_often_0 : decode cX11_often 0 = .ok (.aload_n 0, 1) := by decide +kernel
theorem dX11_often_1 : decode cX11_often 1 = .ok (.iconst 0, 1) := by decide +kernel
theorem dX11_often_2 : decode cX11_often 2 = .ok (.putfield 49, 3) := by decide +kernel
theorem dX11_often_5 : decode cX11_often 5 = .ok (.aload_n 0, 1) := by decide +kernel
theorem dX11_often_6 : decode cX11_often 6 = .ok (.iload_n 1, 1) := by decide +kernel
theorem dX11_often_7 : decode cX11_often 7 = .ok (.iload_n 2, 1) := by decide +kernel
theorem dX11_often_8 : decode cX11_often 8 = .ok (.invokevirtual 275, 3) := by decide +kernel
theorem dX11_often_11 : decode cX11_often 11 = .ok (.ifCond .ne 5, 3) := by decide +kernel
theorem dX11_often_14 : decode cX11_often 14 = .ok (.iconst (-1), 1) := by decide +kernel
theorem dX11_often_15 : decode cX11_often 15 = .ok (.ireturn, 1) := by decide +kernel
theorem dX11_often_16 : decode cX11_often 16 = .ok (.iconst 0, 1) := by decide +kernel
theorem dX11_often_17 : decode cX11_often 17 = .ok (.istore_n 3, 1) := by decide +kernel
theorem dX11_often_18 : decode cX11_often 18 = .ok (.iconst 0, 1) := by decide +kernel
theorem dX11_often_19 : decode cX11_often 19 = .ok (.istore 4, 2) := by decide +kernel
theorem dX11_often_21 : decode cX11_often 21 = .ok (.iload 4, 2) := by decide +kernel
theorem dX11_often_23 : decode cX11_often 23 = .ok (.aload_n 0, 1) := by decide +kernel
theorem dX11_often_24 : decode cX11_often 24 = .ok (.iconst 0, 1) := by decide +kernel
theorem dX11_often_25 : decode cX11_often 25 = .ok (.invokevirtual 159, 3) := by decide +kernel
theorem dX11_often_28 : decode cX11_often 28 = .ok (.if_icmp .ge 33, 3) := by decide +kernel
theorem dX11_often_31 : decode cX11_often 31 = .ok (.aload_n 0, 1) := by decide +kernel
theorem dX11_often_32 : decode cX11_often 32 = .ok (.iload 4, 2) := by decide +kernel
theorem dX11_often_34 : decode cX11_often 34 = .ok (.invokevirtual 281, 3) := by decide +kernel
theorem dX11_often_37 : decode cX11_often 37 = .ok (.istore 5, 2) := by decide +kernel
theorem dX11_often_39 : decode cX11_often 39 = .ok (.iload_n 3, 1) := by decide +kernel
theorem dX11_often_40 : decode cX11_often 40 = .ok (.iload 5, 2) := by decide +kernel
theorem dX11_often_42 : decode cX11_often 42 = .ok (.iadd, 1) := by decide +kernel
theorem dX11_often_43 : decode cX11_often 43 = .ok (.iload_n 2, 1) := by decide +kernel
theorem dX11_often_44 : decode cX11_often 44 = .ok (.if_icmp .le 6, 3) := by decide +kernel
theorem dX11_often_47 : decode cX11_often 47 = .ok (.iload 5, 2) := by decide +kernel
theorem dX11_often_49 : decode cX11_often 49 = .ok (.ireturn, 1) := by decide +kernel
theorem dX11_often_50 : decode cX11_often 50 = .ok (.iload_n 3, 1) := by decide +kernel
theorem dX11_often_51 : decode cX11_often 51 = .ok (.iload 5, 2) := by decide +kernel
theorem dX11_often_53 : decode cX11_often 53 = .ok (.iadd, 1) := by decide +kernel
theorem dX11_often_54 : decode cX11_often 54 = .ok (.istore_n 3, 1) := by decide +kernel
theorem dX11_often_55 : decode cX11_often 55 = .ok (.iinc 4 1, 3) := by decide +kernel
theorem dX11_often_58 : decode cX11_often 58 = .ok (.goto (-37), 3) := by decide +kernel
theorem dX11_often_61 : decode cX11_often 61 = .ok (.iconst (-1), 1) := by decide +kernel
theorem dX11_often_62 : decode cX11_often 62 = .ok (.ireturn, 1) := by decide +kernel
theorem dX11_countOf_0 : decode cX11_countOf 0 = .ok (.aload_n 0, 1) := by decide +kernel
theorem dX11_countOf_1 : decode cX11_countOf 1 = .ok (.aload_n 0, 1) := by decide +kernel
theorem dX11_countOf_2 : decode cX11_countOf 2 = .ok (.getfield 36, 3) := by decide +kernel
theorem dX11_countOf_5 : decode cX11_countOf 5 = .ok (.iload_n 1, 1) := by decide +kernel
theorem dX11_countOf_6 : decode cX11_countOf 6 = .ok (.iaload, 1) := by decide +kernel
theorem dX11_countOf_7 : decode cX11_countOf 7 = .ok (.aload_n 0, 1) := by decide +kernel
theorem dX11_countOf_8 : decode cX11_countOf 8 = .ok (.getfield 39, 3) := by decide +kernel
theorem dX11_countOf_11 : decode cX11_countOf 11 = .ok (.iload_n 1, 1) := by decide +kernel
theorem dX11_countOf_12 : decode cX11_countOf 12 = .ok (.iaload, 1) := by decide +kernel
theorem dX11_countOf_13 : decode cX11_countOf 13 = .ok (.iconst 1, 1) := by decide +kernel
theorem dX11_countOf_14 : decode cX11_countOf 14 = .ok (.invokevirtual 155, 3) := by decide +kernel
theorem dX11_countOf_17 : decode cX11_countOf 17 = .ok (.aload_n 0, 1) := by decide +kernel
theorem dX11_countOf_18 : decode cX11_countOf 18 = .ok (.aload_n 0, 1) := by decide +kernel
theorem dX11_countOf_19 : decode cX11_countOf 19 = .ok (.getfield 36, 3) := by decide +kernel
theorem dX11_countOf_22 : decode cX11_countOf 22 = .ok (.iload_n 1, 1) := by decide +kernel
theorem dX11_countOf_23 : decode cX11_countOf 23 = .ok (.iaload, 1) := by decide +kernel
theorem dX11_countOf_24 : decode cX11_countOf 24 = .ok (.aload_n 0, 1) := by decide +kernel
theorem dX11_countOf_25 : decode cX11_countOf 25 = .ok (.getfield 39, 3) := by decide +kernel
theorem dX11_countOf_28 : decode cX11_countOf 28 = .ok (.iload_n 1, 1) := by decide +kernel
theorem dX11_countOf_29 : decode cX11_countOf 29 = .ok (.iaload, 1) := by decide +kernel
theorem dX11_countOf_30 : decode cX11_countOf 30 = .ok (.iload_n 2, 1) := by decide +kernel
theorem dX11_countOf_31 : decode cX11_countOf 31 = .ok (.invokevirtual 284, 3) := by decide +kernel
theorem dX11_countOf_34 : decode cX11_countOf 34 = .ok (.isub, 1) := by decide +kernel
theorem dX11_countOf_35 : decode cX11_countOf 35 = .ok (.ireturn, 1) := by decide +kernel
theorem dX11_oftenOf_0 : decode cX11_oftenOf 0 = .ok (.aload_n 0, 1) := by decide +kernel
theorem dX11_oftenOf_1 : decode cX11_oftenOf 1 = .ok (.sipush 452, 3) := by decide +kernel
theorem dX11_oftenOf_4 : decode cX11_oftenOf 4 = .ok (.ldc2_w 288, 3) := by decide +kernel
theorem dX11_oftenOf_7 : decode cX11_oftenOf 7 = .ok (.invokevirtual 74, 3) := by decide +kernel
theorem dX11_oftenOf_10 : decode cX11_oftenOf 10 = .ok (.aload_n 0, 1) := by decide +kernel
theorem dX11_oftenOf_11 : decode cX11_oftenOf 11 = .ok (.sipush 453, 3) := by decide +kernel
theorem dX11_oftenOf_14 : decode cX11_oftenOf 14 = .ok (.ldc2_w 290, 3) := by decide +kernel
theorem dX11_oftenOf_17 : decode cX11_oftenOf 17 = .ok (.invokevirtual 74, 3) := by decide +kernel
theorem dX11_oftenOf_20 : decode cX11_oftenOf 20 = .ok (.iconst 0, 1) := by decide +kernel
theorem dX11_oftenOf_21 : decode cX11_oftenOf 21 = .ok (.istore_n 2, 1) := by decide +kernel
theorem dX11_oftenOf_22 : decode cX11_oftenOf 22 = .ok (.iconst 0, 1) := by decide +kernel
theorem dX11_oftenOf_23 : decode cX11_oftenOf 23 = .ok (.istore_n 3, 1) := by decide +kernel
theorem dX11_oftenOf_24 : decode cX11_oftenOf 24 = .ok (.aload_n 0, 1) := by decide +kernel
theorem dX11_oftenOf_25 : decode cX11_oftenOf 25 = .ok (.iconst 0, 1) := by decide +kernel
theorem dX11_oftenOf_26 : decode cX11_oftenOf 26 = .ok (.invokevirtual 159, 3) := by decide +kernel
theorem dX11_oftenOf_29 : decode cX11_oftenOf 29 = .ok (.istore 4, 2) := by decide +kernel
theorem dX11_oftenOf_31 : decode cX11_oftenOf 31 = .ok (.iload 4, 2) := by decide +kernel
theorem dX11_oftenOf_33 : decode cX11_oftenOf 33 = .ok (.iload_n 3, 1) := by decide +kernel
theorem dX11_oftenOf_34 : decode cX11_oftenOf 34 = .ok (.isub, 1) := by decide +kernel
theorem dX11_oftenOf_35 : decode cX11_oftenOf 35 = .ok (.iconst 1, 1) := by decide +kernel
theorem dX11_oftenOf_36 : decode cX11_oftenOf 36 = .ok (.if_icmp .le 104, 3) := by decide +kernel
theorem dX11_oftenOf_39 : decode cX11_oftenOf 39 = .ok (.aload_n 0, 1) := by decide +kernel
theorem dX11_oftenOf_40 : decode cX11_oftenOf 40 = .ok (.sipush 454, 3) := by decide +kernel
theorem dX11_oftenOf_43 : decode cX11_oftenOf 43 = .ok (.sipush 452, 3) := by decide +kernel
theorem dX11_oftenOf_46 : decode cX11_oftenOf 46 = .ok (.sipush 453, 3) := by decide +kernel
theorem dX11_oftenOf_49 : decode cX11_oftenOf 49 = .ok (.iconst 1, 1) := by decide +kernel
theorem dX11_oftenOf_50 : decode cX11_oftenOf 50 = .ok (.invokevirtual 88, 3) := by decide +kernel
theorem dX11_oftenOf_53 : decode cX11_oftenOf 53 = .ok (.aload_n 0, 1) := by decide +kernel
theorem dX11_oftenOf_54 : decode cX11_oftenOf 54 = .ok (.sipush 452, 3) := by decide +kernel
theorem dX11_oftenOf_57 : decode cX11_oftenOf 57 = .ok (.sipush 452, 3) := by decide +kernel
theorem dX11_oftenOf_60 : decode cX11_oftenOf 60 = .ok (.sipush 452, 3) := by decide +kernel
theorem dX11_oftenOf_63 : decode cX11_oftenOf 63 = .ok (.iconst 1, 1) := by decide +kernel
theorem dX11_oftenOf_64 : decode cX11_oftenOf 64 = .ok (.invokevirtual 88, 3) := by decide +kernel
theorem dX11_oftenOf_67 : decode cX11_oftenOf 67 = .ok (.aload_n 0, 1) := by decide +kernel
theorem dX11_oftenOf_68 : decode cX11_oftenOf 68 = .ok (.sipush 453, 3) := by decide +kernel
theorem dX11_oftenOf_71 : decode cX11_oftenOf 71 = .ok (.sipush 453, 3) := by decide +kernel
theorem dX11_oftenOf_74 : decode cX11_oftenOf 74 = .ok (.sipush 453, 3) := by decide +kernel
theorem dX11_oftenOf_77 : decode cX11_oftenOf 77 = .ok (.iconst 1, 1) := by decide +kernel
theorem dX11_oftenOf_78 : decode cX11_oftenOf 78 = .ok (.invokevirtual 88, 3) := by decide +kernel
theorem dX11_oftenOf_81 : decode cX11_oftenOf 81 = .ok (.iinc 2 1, 3) := by decide +kernel
theorem dX11_oftenOf_84 : decode cX11_oftenOf 84 = .ok (.aload_n 0, 1) := by decide +kernel
theorem dX11_oftenOf_85 : decode cX11_oftenOf 85 = .ok (.bipush 15, 2) := by decide +kernel
theorem dX11_oftenOf_87 : decode cX11_oftenOf 87 = .ok (.sipush 454, 3) := by decide +kernel
theorem dX11_oftenOf_90 : decode cX11_oftenOf 90 = .ok (.invokevirtual 63, 3) := by decide +kernel
theorem dX11_oftenOf_93 : decode cX11_oftenOf 93 = .ok (.aload_n 0, 1) := by decide +kernel
theorem dX11_oftenOf_94 : decode cX11_oftenOf 94 = .ok (.iconst 0, 1) := by decide +kernel
theorem dX11_oftenOf_95 : decode cX11_oftenOf 95 = .ok (.iload_n 2, 1) := by decide +kernel
theorem dX11_oftenOf_96 : decode cX11_oftenOf 96 = .ok (.invokevirtual 162, 3) := by decide +kernel
theorem dX11_oftenOf_99 : decode cX11_oftenOf 99 = .ok (.istore 5, 2) := by decide +kernel
theorem dX11_oftenOf_101 : decode cX11_oftenOf 101 = .ok (.iload 5, 2) := by decide +kernel
theorem dX11_oftenOf_103 : decode cX11_oftenOf 103 = .ok (.iload_n 1, 1) := by decide +kernel
theorem dX11_oftenOf_104 : decode cX11_oftenOf 104 = .ok (.if_icmp .gt 19, 3) := by decide +kernel
theorem dX11_oftenOf_107 : decode cX11_oftenOf 107 = .ok (.aload_n 0, 1) := by decide +kernel
theorem dX11_oftenOf_108 : decode cX11_oftenOf 108 = .ok (.sipush 452, 3) := by decide +kernel
theorem dX11_oftenOf_111 : decode cX11_oftenOf 111 = .ok (.sipush 454, 3) := by decide +kernel
theorem dX11_oftenOf_114 : decode cX11_oftenOf 114 = .ok (.invokevirtual 63, 3) := by decide +kernel
theorem dX11_oftenOf_117 : decode cX11_oftenOf 117 = .ok (.iload 5, 2) := by decide +kernel
theorem dX11_oftenOf_119 : decode cX11_oftenOf 119 = .ok (.istore_n 3, 1) := by decide +kernel
theorem dX11_oftenOf_120 : decode cX11_oftenOf 120 = .ok (.goto 17, 3) := by decide +kernel
theorem dX11_oftenOf_123 : decode cX11_oftenOf 123 = .ok (.aload_n 0, 1) := by decide +kernel
theorem dX11_oftenOf_124 : decode cX11_oftenOf 124 = .ok (.sipush 453, 3) := by decide +kernel
theorem dX11_oftenOf_127 : decode cX11_oftenOf 127 = .ok (.sipush 454, 3) := by decide +kernel
theorem dX11_oftenOf_130 : decode cX11_oftenOf 130 = .ok (.invokevirtual 63, 3) := by decide +kernel
theorem dX11_oftenOf_133 : decode cX11_oftenOf 133 = .ok (.iload 5, 2) := by decide +kernel
theorem dX11_oftenOf_135 : decode cX11_oftenOf 135 = .ok (.istore 4, 2) := by decide +kernel
theorem dX11_oftenOf_137 : decode cX11_oftenOf 137 = .ok (.goto (-106), 3) := by decide +kernel
theorem dX11_oftenOf_140 : decode cX11_oftenOf 140 = .ok (.iconst 0, 1) := by decide +kernel
theorem dX11_oftenOf_141 : decode cX11_oftenOf 141 = .ok (.istore 5, 2) := by decide +kernel
theorem dX11_oftenOf_143 : decode cX11_oftenOf 143 = .ok (.aload_n 0, 1) := by decide +kernel
theorem dX11_oftenOf_144 : decode cX11_oftenOf 144 = .ok (.bipush 15, 2) := by decide +kernel
theorem dX11_oftenOf_146 : decode cX11_oftenOf 146 = .ok (.sipush 453, 3) := by decide +kernel
theorem dX11_oftenOf_149 : decode cX11_oftenOf 149 = .ok (.invokevirtual 63, 3) := by decide +kernel
theorem dX11_oftenOf_152 : decode cX11_oftenOf 152 = .ok (.iconst 0, 1) := by decide +kernel
theorem dX11_oftenOf_153 : decode cX11_oftenOf 153 = .ok (.istore 6, 2) := by decide +kernel
theorem dX11_oftenOf_155 : decode cX11_oftenOf 155 = .ok (.iload 6, 2) := by decide +kernel
theorem dX11_oftenOf_157 : decode cX11_oftenOf 157 = .ok (.aload_n 0, 1) := by decide +kernel
theorem dX11_oftenOf_158 : decode cX11_oftenOf 158 = .ok (.getfield 134, 3) := by decide +kernel
theorem dX11_oftenOf_161 : decode cX11_oftenOf 161 = .ok (.if_icmp .ge 21, 3) := by decide +kernel
theorem dX11_oftenOf_164 : decode cX11_oftenOf 164 = .ok (.iload 5, 2) := by decide +kernel
theorem dX11_oftenOf_166 : decode cX11_oftenOf 166 = .ok (.aload_n 0, 1) := by decide +kernel
theorem dX11_oftenOf_167 : decode cX11_oftenOf 167 = .ok (.iload 6, 2) := by decide +kernel
theorem dX11_oftenOf_169 : decode cX11_oftenOf 169 = .ok (.iload_n 2, 1) := by decide +kernel
theorem dX11_oftenOf_170 : decode cX11_oftenOf 170 = .ok (.invokevirtual 162, 3) := by decide +kernel
theorem dX11_oftenOf_173 : decode cX11_oftenOf 173 = .ok (.iadd, 1) := by decide +kernel
theorem dX11_oftenOf_174 : decode cX11_oftenOf 174 = .ok (.istore 5, 2) := by decide +kernel
theorem dX11_oftenOf_176 : decode cX11_oftenOf 176 = .ok (.iinc 6 1, 3) := by decide +kernel
theorem dX11_oftenOf_179 : decode cX11_oftenOf 179 = .ok (.goto (-24), 3) := by decide +kernel
theorem dX11_oftenOf_182 : decode cX11_oftenOf 182 = .ok (.aload_n 0, 1) := by decide +kernel
theorem dX11_oftenOf_183 : decode cX11_oftenOf 183 = .ok (.bipush 15, 2) := by decide +kernel
theorem dX11_oftenOf_185 : decode cX11_oftenOf 185 = .ok (.sipush 452, 3) := by decide +kernel
theorem dX11_oftenOf_188 : decode cX11_oftenOf 188 = .ok (.invokevirtual 63, 3) := by decide +kernel
theorem dX11_oftenOf_191 : decode cX11_oftenOf 191 = .ok (.iconst 0, 1) := by decide +kernel
theorem dX11_oftenOf_192 : decode cX11_oftenOf 192 = .ok (.istore 6, 2) := by decide +kernel
theorem dX11_oftenOf_194 : decode cX11_oftenOf 194 = .ok (.iload 6, 2) := by decide +kernel
theorem dX11_oftenOf_196 : decode cX11_oftenOf 196 = .ok (.aload_n 0, 1) := by decide +kernel
theorem dX11_oftenOf_197 : decode cX11_oftenOf 197 = .ok (.getfield 134, 3) := by decide +kernel
theorem dX11_oftenOf_200 : decode cX11_oftenOf 200 = .ok (.if_icmp .ge 21, 3) := by decide +kernel
theorem dX11_oftenOf_203 : decode cX11_oftenOf 203 = .ok (.iload 5, 2) := by decide +kernel
theorem dX11_oftenOf_205 : decode cX11_oftenOf 205 = .ok (.aload_n 0, 1) := by decide +kernel
theorem dX11_oftenOf_206 : decode cX11_oftenOf 206 = .ok (.iload 6, 2) := by decide +kernel
theorem dX11_oftenOf_208 : decode cX11_oftenOf 208 = .ok (.iload_n 2, 1) := by decide +kernel
theorem dX11_oftenOf_209 : decode cX11_oftenOf 209 = .ok (.invokevirtual 162, 3) := by decide +kernel
theorem dX11_oftenOf_212 : decode cX11_oftenOf 212 = .ok (.isub, 1) := by decide +kernel
theorem dX11_oftenOf_213 : decode cX11_oftenOf 213 = .ok (.istore 5, 2) := by decide +kernel
theorem dX11_oftenOf_215 : decode cX11_oftenOf 215 = .ok (.iinc 6 1, 3) := by decide +kernel
theorem dX11_oftenOf_218 : decode cX11_oftenOf 218 = .ok (.goto (-24), 3) := by decide +kernel
theorem dX11_oftenOf_221 : decode cX11_oftenOf 221 = .ok (.iload 5, 2) := by decide +kernel
theorem dX11_oftenOf_223 : decode cX11_oftenOf 223 = .ok (.ireturn, 1) := by decide +kernel
theorem dX11_between_0 : decode cX11_between 0 = .ok (.aload_n 0, 1) := by decide +kernel
theorem dX11_between_1 : decode cX11_between 1 = .ok (.iconst 0, 1) := by decide +kernel
theorem dX11_between_2 : decode cX11_between 2 = .ok (.putfield 49, 3) := by decide +kernel
theorem dX11_between_5 : decode cX11_between 5 = .ok (.aload_n 0, 1) := by decide +kernel
theorem dX11_between_6 : decode cX11_between 6 = .ok (.iload_n 1, 1) := by decide +kernel
theorem dX11_between_7 : decode cX11_between 7 = .ok (.invokevirtual 214, 3) := by decide +kernel
theorem dX11_between_10 : decode cX11_between 10 = .ok (.ifCond .eq 8, 3) := by decide +kernel
theorem dX11_between_13 : decode cX11_between 13 = .ok (.iload_n 2, 1) := by decide +kernel
theorem dX11_between_14 : decode cX11_between 14 = .ok (.iload_n 3, 1) := by decide +kernel
theorem dX11_between_15 : decode cX11_between 15 = .ok (.if_icmp .le 5, 3) := by decide +kernel
theorem dX11_between_18 : decode cX11_between 18 = .ok (.iconst (-1), 1) := by decide +kernel
theorem dX11_between_19 : decode cX11_between 19 = .ok (.ireturn, 1) := by decide +kernel
theorem dX11_between_20 : decode cX11_between 20 = .ok (.aload_n 0, 1) := by decide +kernel
theorem dX11_between_21 : decode cX11_between 21 = .ok (.iload_n 1, 1) := by decide +kernel
theorem dX11_between_22 : decode cX11_between 22 = .ok (.invokevirtual 253, 3) := by decide +kernel
theorem dX11_between_25 : decode cX11_between 25 = .ok (.aload_n 0, 1) := by decide +kernel
theorem dX11_between_26 : decode cX11_between 26 = .ok (.iload_n 3, 1) := by decide +kernel
theorem dX11_between_27 : decode cX11_between 27 = .ok (.i2l, 1) := by decide +kernel
theorem dX11_between_28 : decode cX11_between 28 = .ok (.iconst 0, 1) := by decide +kernel
theorem dX11_between_29 : decode cX11_between 29 = .ok (.invokevirtual 165, 3) := by decide +kernel
theorem dX11_between_32 : decode cX11_between 32 = .ok (.aload_n 0, 1) := by decide +kernel
theorem dX11_between_33 : decode cX11_between 33 = .ok (.iload_n 2, 1) := by decide +kernel
theorem dX11_between_34 : decode cX11_between 34 = .ok (.i2l, 1) := by decide +kernel
theorem dX11_between_35 : decode cX11_between 35 = .ok (.iconst 0, 1) := by decide +kernel
theorem dX11_between_36 : decode cX11_between 36 = .ok (.invokevirtual 165, 3) := by decide +kernel
theorem dX11_between_39 : decode cX11_between 39 = .ok (.isub, 1) := by decide +kernel
theorem dX11_between_40 : decode cX11_between 40 = .ok (.ireturn, 1) := by decide +kernel
theorem dX11_sign_0 : decode cX11_sign 0 = .ok (.aload_n 0, 1) := by decide +kernel
theorem dX11_sign_1 : decode cX11_sign 1 = .ok (.iconst 0, 1) := by decide +kernel
theorem dX11_sign_2 : decode cX11_sign 2 = .ok (.putfield 49, 3) := by decide +kernel
theorem dX11_sign_5 : decode cX11_sign 5 = .ok (.aload_n 0, 1) := by decide +kernel
theorem dX11_sign_6 : decode cX11_sign 6 = .ok (.iload_n 1, 1) := by decide +kernel
theorem dX11_sign_7 : decode cX11_sign 7 = .ok (.invokevirtual 214, 3) := by decide +kernel
theorem dX11_sign_10 : decode cX11_sign 10 = .ok (.ifCond .eq 15, 3) := by decide +kernel
theorem dX11_sign_13 : decode cX11_sign 13 = .ok (.iload_n 3, 1) := by decide +kernel
theorem dX11_sign_14 : decode cX11_sign 14 = .ok (.i2l, 1) := by decide +kernel
theorem dX11_sign_15 : decode cX11_sign 15 = .ok (.lconst 0, 1) := by decide +kernel
theorem dX11_sign_16 : decode cX11_sign 16 = .ok (.ldc2_w 273, 3) := by decide +kernel
theorem dX11_sign_19 : decode cX11_sign 19 = .ok (.invokestatic 171, 3) := by decide +kernel
theorem dX11_sign_22 : decode cX11_sign 22 = .ok (.ifCond .ne 6, 3) := by decide +kernel
theorem dX11_sign_25 : decode cX11_sign 25 = .ok (.bipush (-2), 2) := by decide +kernel
theorem dX11_sign_27 : decode cX11_sign 27 = .ok (.ireturn, 1) := by decide +kernel
theorem dX11_sign_28 : decode cX11_sign 28 = .ok (.aload_n 0, 1) := by decide +kernel
theorem dX11_sign_29 : decode cX11_sign 29 = .ok (.iload_n 1, 1) := by decide +kernel
theorem dX11_sign_30 : decode cX11_sign 30 = .ok (.invokevirtual 110, 3) := by decide +kernel
theorem dX11_sign_33 : decode cX11_sign 33 = .ok (.ifCond .ge 5, 3) := by decide +kernel
theorem dX11_sign_36 : decode cX11_sign 36 = .ok (.iconst 0, 1) := by decide +kernel
theorem dX11_sign_37 : decode cX11_sign 37 = .ok (.ireturn, 1) := by decide +kernel
theorem dX11_sign_38 : decode cX11_sign 38 = .ok (.aload_n 0, 1) := by decide +kernel
theorem dX11_sign_39 : decode cX11_sign 39 = .ok (.bipush 36, 2) := by decide +kernel
theorem dX11_sign_41 : decode cX11_sign 41 = .ok (.iload_n 1, 1) := by decide +kernel
theorem dX11_sign_42 : decode cX11_sign 42 = .ok (.invokevirtual 114, 3) := by decide +kernel
theorem dX11_sign_45 : decode cX11_sign 45 = .ok (.aload_n 0, 1) := by decide +kernel
theorem dX11_sign_46 : decode cX11_sign 46 = .ok (.getfield 30, 3) := by decide +kernel
theorem dX11_sign_49 : decode cX11_sign 49 = .ok (.bipush 36, 2) := by decide +kernel
theorem dX11_sign_51 : decode cX11_sign 51 = .ok (.iconst 1, 1) := by decide +kernel
theorem dX11_sign_52 : decode cX11_sign 52 = .ok (.iastore, 1) := by decide +kernel
theorem dX11_sign_53 : decode cX11_sign 53 = .ok (.aload_n 0, 1) := by decide +kernel
theorem dX11_sign_54 : decode cX11_sign 54 = .ok (.bipush 15, 2) := by decide +kernel
theorem dX11_sign_56 : decode cX11_sign 56 = .ok (.iload_n 2, 1) := by decide +kernel
theorem dX11_sign_57 : decode cX11_sign 57 = .ok (.i2l, 1) := by decide +kernel
theorem dX11_sign_58 : decode cX11_sign 58 = .ok (.invokevirtual 74, 3) := by decide +kernel
theorem dX11_sign_61 : decode cX11_sign 61 = .ok (.aload_n 0, 1) := by decide +kernel
theorem dX11_sign_62 : decode cX11_sign 62 = .ok (.bipush 36, 2) := by decide +kernel
theorem dX11_sign_64 : decode cX11_sign 64 = .ok (.iload_n 3, 1) := by decide +kernel
theorem dX11_sign_65 : decode cX11_sign 65 = .ok (.invokevirtual 149, 3) := by decide +kernel
theorem dX11_sign_68 : decode cX11_sign 68 = .ok (.ireturn, 1) := by decide +kernel
theorem dX11_areLaced_0 : decode cX11_areLaced 0 = .ok (.aload_n 0, 1) := by decide +kernel
theorem dX11_areLaced_1 : decode cX11_areLaced 1 = .ok (.iload_n 1, 1) := by decide +kernel
theorem dX11_areLaced_2 : decode cX11_areLaced 2 = .ok (.invokevirtual 110, 3) := by decide +kernel
theorem dX11_areLaced_5 : decode cX11_areLaced 5 = .ok (.istore_n 3, 1) := by decide +kernel
theorem dX11_areLaced_6 : decode cX11_areLaced 6 = .ok (.aload_n 0, 1) := by decide +kernel
theorem dX11_areLaced_7 : decode cX11_areLaced 7 = .ok (.iload_n 2, 1) := by decide +kernel
theorem dX11_areLaced_8 : decode cX11_areLaced 8 = .ok (.invokevirtual 110, 3) := by decide +kernel
theorem dX11_areLaced_11 : decode cX11_areLaced 11 = .ok (.istore 4, 2) := by decide +kernel
theorem dX11_areLaced_13 : decode cX11_areLaced 13 = .ok (.iload_n 3, 1) := by decide +kernel
theorem dX11_areLaced_14 : decode cX11_areLaced 14 = .ok (.ifCond .lt 38, 3) := by decide +kernel
theorem dX11_areLaced_17 : decode cX11_areLaced 17 = .ok (.iload 4, 2) := by decide +kernel
theorem dX11_areLaced_19 : decode cX11_areLaced 19 = .ok (.ifCond .lt 33, 3) := by decide +kernel
theorem dX11_areLaced_22 : decode cX11_areLaced 22 = .ok (.iload 4, 2) := by decide +kernel
theorem dX11_areLaced_24 : decode cX11_areLaced 24 = .ok (.iload_n 3, 1) := by decide +kernel
theorem dX11_areLaced_25 : decode cX11_areLaced 25 = .ok (.if_icmp .eq 11, 3) := by decide +kernel
theorem dX11_areLaced_28 : decode cX11_areLaced 28 = .ok (.iload 4, 2) := by decide +kernel
theorem dX11_areLaced_30 : decode cX11_areLaced 30 = .ok (.iload_n 3, 1) := by decide +kernel
theorem dX11_areLaced_31 : decode cX11_areLaced 31 = .ok (.iconst 1, 1) := by decide +kernel
theorem dX11_areLaced_32 : decode cX11_areLaced 32 = .ok (.isub, 1) := by decide +kernel
theorem dX11_areLaced_33 : decode cX11_areLaced 33 = .ok (.if_icmp .ne 19, 3) := by decide +kernel
theorem dX11_areLaced_36 : decode cX11_areLaced 36 = .ok (.aload_n 0, 1) := by decide +kernel
theorem dX11_areLaced_37 : decode cX11_areLaced 37 = .ok (.iload_n 1, 1) := by decide +kernel
theorem dX11_areLaced_38 : decode cX11_areLaced 38 = .ok (.invokevirtual 262, 3) := by decide +kernel
theorem dX11_areLaced_41 : decode cX11_areLaced 41 = .ok (.ifCond .eq 11, 3) := by decide +kernel
theorem dX11_areLaced_44 : decode cX11_areLaced 44 = .ok (.aload_n 0, 1) := by decide +kernel
theorem dX11_areLaced_45 : decode cX11_areLaced 45 = .ok (.iload_n 2, 1) := by decide +kernel
theorem dX11_areLaced_46 : decode cX11_areLaced 46 = .ok (.invokevirtual 262, 3) := by decide +kernel
theorem dX11_areLaced_49 : decode cX11_areLaced 49 = .ok (.ifCond .ne 5, 3) := by decide +kernel
theorem dX11_areLaced_52 : decode cX11_areLaced 52 = .ok (.iconst 0, 1) := by decide +kernel
theorem dX11_areLaced_53 : decode cX11_areLaced 53 = .ok (.ireturn, 1) := by decide +kernel
theorem dX11_areLaced_54 : decode cX11_areLaced 54 = .ok (.aload_n 0, 1) := by decide +kernel
theorem dX11_areLaced_55 : decode cX11_areLaced 55 = .ok (.bipush 36, 2) := by decide +kernel
theorem dX11_areLaced_57 : decode cX11_areLaced 57 = .ok (.iload_n 1, 1) := by decide +kernel
theorem dX11_areLaced_58 : decode cX11_areLaced 58 = .ok (.invokevirtual 114, 3) := by decide +kernel
theorem dX11_areLaced_61 : decode cX11_areLaced 61 = .ok (.aload_n 0, 1) := by decide +kernel
theorem dX11_areLaced_62 : decode cX11_areLaced 62 = .ok (.bipush 37, 2) := by decide +kernel
theorem dX11_areLaced_64 : decode cX11_areLaced 64 = .ok (.iload_n 2, 1) := by decide +kernel
theorem dX11_areLaced_65 : decode cX11_areLaced 65 = .ok (.invokevirtual 114, 3) := by decide +kernel
theorem dX11_areLaced_68 : decode cX11_areLaced 68 = .ok (.bipush 36, 2) := by decide +kernel
theorem dX11_areLaced_70 : decode cX11_areLaced 70 = .ok (.istore 5, 2) := by decide +kernel
theorem dX11_areLaced_72 : decode cX11_areLaced 72 = .ok (.iload 5, 2) := by decide +kernel
theorem dX11_areLaced_74 : decode cX11_areLaced 74 = .ok (.bipush 38, 2) := by decide +kernel
theorem dX11_areLaced_76 : decode cX11_areLaced 76 = .ok (.if_icmp .ge 61, 3) := by decide +kernel
theorem dX11_areLaced_79 : decode cX11_areLaced 79 = .ok (.aload_n 0, 1) := by decide +kernel
theorem dX11_areLaced_80 : decode cX11_areLaced 80 = .ok (.getfield 17, 3) := by decide +kernel
theorem dX11_areLaced_83 : decode cX11_areLaced 83 = .ok (.iload 5, 2) := by decide +kernel
theorem dX11_areLaced_85 : decode cX11_areLaced 85 = .ok (.aload_n 0, 1) := by decide +kernel
theorem dX11_areLaced_86 : decode cX11_areLaced 86 = .ok (.getfield 27, 3) := by decide +kernel
theorem dX11_areLaced_89 : decode cX11_areLaced 89 = .ok (.iload 5, 2) := by decide +kernel
theorem dX11_areLaced_91 : decode cX11_areLaced 91 = .ok (.iaload, 1) := by decide +kernel
theorem dX11_areLaced_92 : decode cX11_areLaced 92 = .ok (.invokestatic 81, 3) := by decide +kernel
theorem dX11_areLaced_95 : decode cX11_areLaced 95 = .ok (.iaload, 1) := by decide +kernel
theorem dX11_areLaced_96 : decode cX11_areLaced 96 = .ok (.istore 6, 2) := by decide +kernel
theorem dX11_areLaced_98 : decode cX11_areLaced 98 = .ok (.iconst 0, 1) := by decide +kernel
theorem dX11_areLaced_99 : decode cX11_areLaced 99 = .ok (.istore 7, 2) := by decide +kernel
theorem dX11_areLaced_101 : decode cX11_areLaced 101 = .ok (.iload 7, 2) := by decide +kernel
theorem dX11_areLaced_103 : decode cX11_areLaced 103 = .ok (.bipush 9, 2) := by decide +kernel
theorem dX11_areLaced_105 : decode cX11_areLaced 105 = .ok (.if_icmp .ge 26, 3) := by decide +kernel
theorem dX11_areLaced_108 : decode cX11_areLaced 108 = .ok (.aload_n 0, 1) := by decide +kernel
theorem dX11_areLaced_109 : decode cX11_areLaced 109 = .ok (.getfield 17, 3) := by decide +kernel
theorem dX11_areLaced_112 : decode cX11_areLaced 112 = .ok (.iload 5, 2) := by decide +kernel
theorem dX11_areLaced_114 : decode cX11_areLaced 114 = .ok (.iload 7, 2) := by decide +kernel
theorem dX11_areLaced_116 : decode cX11_areLaced 116 = .ok (.invokestatic 81, 3) := by decide +kernel
theorem dX11_areLaced_119 : decode cX11_areLaced 119 = .ok (.dup2, 1) := by decide +kernel
theorem dX11_areLaced_120 : decode cX11_areLaced 120 = .ok (.iaload, 1) := by decide +kernel
theorem dX11_areLaced_121 : decode cX11_areLaced 121 = .ok (.iload 6, 2) := by decide +kernel
theorem dX11_areLaced_123 : decode cX11_areLaced 123 = .ok (.imul, 1) := by decide +kernel
theorem dX11_areLaced_124 : decode cX11_areLaced 124 = .ok (.iastore, 1) := by decide +kernel
theorem dX11_areLaced_125 : decode cX11_areLaced 125 = .ok (.iinc 7 1, 3) := by decide +kernel
theorem dX11_areLaced_128 : decode cX11_areLaced 128 = .ok (.goto (-27), 3) := by decide +kernel
theorem dX11_areLaced_131 : decode cX11_areLaced 131 = .ok (.iinc 5 1, 3) := by decide +kernel
theorem dX11_areLaced_134 : decode cX11_areLaced 134 = .ok (.goto (-62), 3) := by decide +kernel
theorem dX11_areLaced_137 : decode cX11_areLaced 137 = .ok (.aload_n 0, 1) := by decide +kernel
theorem dX11_areLaced_138 : decode cX11_areLaced 138 = .ok (.bipush 36, 2) := by decide +kernel
theorem dX11_areLaced_140 : decode cX11_areLaced 140 = .ok (.invokevirtual 120, 3) := by decide +kernel
theorem dX11_areLaced_143 : decode cX11_areLaced 143 = .ok (.istore 5, 2) := by decide +kernel
theorem dX11_areLaced_145 : decode cX11_areLaced 145 = .ok (.aload_n 0, 1) := by decide +kernel
theorem dX11_areLaced_146 : decode cX11_areLaced 146 = .ok (.bipush 36, 2) := by decide +kernel
theorem dX11_areLaced_148 : decode cX11_areLaced 148 = .ok (.iload 5, 2) := by decide +kernel
theorem dX11_areLaced_150 : decode cX11_areLaced 150 = .ok (.iconst 1, 1) := by decide +kernel
theorem dX11_areLaced_151 : decode cX11_areLaced 151 = .ok (.invokevirtual 155, 3) := by decide +kernel
theorem dX11_areLaced_154 : decode cX11_areLaced 154 = .ok (.aload_n 0, 1) := by decide +kernel
theorem dX11_areLaced_155 : decode cX11_areLaced 155 = .ok (.bipush 36, 2) := by decide +kernel
theorem dX11_areLaced_157 : decode cX11_areLaced 157 = .ok (.iload 5, 2) := by decide +kernel
theorem dX11_areLaced_159 : decode cX11_areLaced 159 = .ok (.iconst 0, 1) := by decide +kernel
theorem dX11_areLaced_160 : decode cX11_areLaced 160 = .ok (.invokevirtual 155, 3) := by decide +kernel
theorem dX11_areLaced_163 : decode cX11_areLaced 163 = .ok (.isub, 1) := by decide +kernel
theorem dX11_areLaced_164 : decode cX11_areLaced 164 = .ok (.iload_n 3, 1) := by decide +kernel
theorem dX11_areLaced_165 : decode cX11_areLaced 165 = .ok (.aload_n 0, 1) := by decide +kernel
theorem dX11_areLaced_166 : decode cX11_areLaced 166 = .ok (.getfield 27, 3) := by decide +kernel
theorem dX11_areLaced_169 : decode cX11_areLaced 169 = .ok (.bipush 36, 2) := by decide +kernel
theorem dX11_areLaced_171 : decode cX11_areLaced 171 = .ok (.iload 5, 2) := by decide +kernel
theorem dX11_areLaced_173 : decode cX11_areLaced 173 = .ok (.iadd, 1) := by decide +kernel
theorem dX11_areLaced_174 : decode cX11_areLaced 174 = .ok (.iconst 1, 1) := by decide +kernel
theorem dX11_areLaced_175 : decode cX11_areLaced 175 = .ok (.isub, 1) := by decide +kernel
theorem dX11_areLaced_176 : decode cX11_areLaced 176 = .ok (.iaload, 1) := by decide +kernel
theorem dX11_areLaced_177 : decode cX11_areLaced 177 = .ok (.isub, 1) := by decide +kernel
theorem dX11_areLaced_178 : decode cX11_areLaced 178 = .ok (.if_icmp .ne 7, 3) := by decide +kernel
theorem dX11_areLaced_181 : decode cX11_areLaced 181 = .ok (.iconst 1, 1) := by decide +kernel
theorem dX11_areLaced_182 : decode cX11_areLaced 182 = .ok (.goto 4, 3) := by decide +kernel
theorem dX11_areLaced_185 : decode cX11_areLaced 185 = .ok (.iconst 0, 1) := by decide +kernel
theorem dX11_areLaced_186 : decode cX11_areLaced 186 = .ok (.ireturn, 1) := by decide +kernel
theorem dX11_laced_0 : decode cX11_laced 0 = .ok (.aload_n 0, 1) := by decide +kernel
theorem dX11_laced_1 : decode cX11_laced 1 = .ok (.iconst 0, 1) := by decide +kernel
theorem dX11_laced_2 : decode cX11_laced 2 = .ok (.putfield 49, 3) := by decide +kernel
theorem dX11_laced_5 : decode cX11_laced 5 = .ok (.aload_n 0, 1) := by decide +kernel
theorem dX11_laced_6 : decode cX11_laced 6 = .ok (.iload_n 1, 1) := by decide +kernel
theorem dX11_laced_7 : decode cX11_laced 7 = .ok (.invokevirtual 214, 3) := by decide +kernel
theorem dX11_laced_10 : decode cX11_laced 10 = .ok (.ifCond .eq 28, 3) := by decide +kernel
theorem dX11_laced_13 : decode cX11_laced 13 = .ok (.aload_n 0, 1) := by decide +kernel
theorem dX11_laced_14 : decode cX11_laced 14 = .ok (.iload_n 2, 1) := by decide +kernel
theorem dX11_laced_15 : decode cX11_laced 15 = .ok (.invokevirtual 214, 3) := by decide +kernel
theorem dX11_laced_18 : decode cX11_laced 18 = .ok (.ifCond .eq 20, 3) := by decide +kernel
theorem dX11_laced_21 : decode cX11_laced 21 = .ok (.aload_n 0, 1) := by decide +kernel
theorem dX11_laced_22 : decode cX11_laced 22 = .ok (.iload_n 1, 1) := by decide +kernel
theorem dX11_laced_23 : decode cX11_laced 23 = .ok (.iload_n 2, 1) := by decide +kernel
theorem dX11_laced_24 : decode cX11_laced 24 = .ok (.invokevirtual 292, 3) := by decide +kernel
theorem dX11_laced_27 : decode cX11_laced 27 = .ok (.ifCond .eq 7, 3) := by decide +kernel
theorem dX11_laced_30 : decode cX11_laced 30 = .ok (.iconst 1, 1) := by decide +kernel
theorem dX11_laced_31 : decode cX11_laced 31 = .ok (.goto 8, 3) := by decide +kernel
theorem dX11_laced_34 : decode cX11_laced 34 = .ok (.iconst 0, 1) := by decide +kernel
theorem dX11_laced_35 : decode cX11_laced 35 = .ok (.goto 4, 3) := by decide +kernel
theorem dX11_laced_38 : decode cX11_laced 38 = .ok (.iconst (-1), 1) := by decide +kernel
theorem dX11_laced_39 : decode cX11_laced 39 = .ok (.ireturn, 1) := by decide +kernel
theorem dX11_chain_0 : decode cX11_chain 0 = .ok (.aload_n 0, 1) := by decide +kernel
theorem dX11_chain_1 : decode cX11_chain 1 = .ok (.iconst 0, 1) := by decide +kernel
theorem dX11_chain_2 : decode cX11_chain 2 = .ok (.putfield 49, 3) := by decide +kernel
theorem dX11_chain_5 : decode cX11_chain 5 = .ok (.aload_n 0, 1) := by decide +kernel
theorem dX11_chain_6 : decode cX11_chain 6 = .ok (.iload_n 1, 1) := by decide +kernel
theorem dX11_chain_7 : decode cX11_chain 7 = .ok (.invokevirtual 214, 3) := by decide +kernel
theorem dX11_chain_10 : decode cX11_chain 10 = .ok (.ifCond .eq 11, 3) := by decide +kernel
theorem dX11_chain_13 : decode cX11_chain 13 = .ok (.aload_n 0, 1) := by decide +kernel
theorem dX11_chain_14 : decode cX11_chain 14 = .ok (.iload_n 2, 1) := by decide +kernel
theorem dX11_chain_15 : decode cX11_chain 15 = .ok (.invokevirtual 214, 3) := by decide +kernel
theorem dX11_chain_18 : decode cX11_chain 18 = .ok (.ifCond .ne 6, 3) := by decide +kernel
theorem dX11_chain_21 : decode cX11_chain 21 = .ok (.bipush (-2), 2) := by decide +kernel
theorem dX11_chain_23 : decode cX11_chain 23 = .ok (.ireturn, 1) := by decide +kernel
theorem dX11_chain_24 : decode cX11_chain 24 = .ok (.iload_n 1, 1) := by decide +kernel
theorem dX11_chain_25 : decode cX11_chain 25 = .ok (.istore_n 3, 1) := by decide +kernel
theorem dX11_chain_26 : decode cX11_chain 26 = .ok (.iload_n 3, 1) := by decide +kernel
theorem dX11_chain_27 : decode cX11_chain 27 = .ok (.iload_n 2, 1) := by decide +kernel
theorem dX11_chain_28 : decode cX11_chain 28 = .ok (.if_icmp .ge 22, 3) := by decide +kernel
theorem dX11_chain_31 : decode cX11_chain 31 = .ok (.aload_n 0, 1) := by decide +kernel
theorem dX11_chain_32 : decode cX11_chain 32 = .ok (.iload_n 3, 1) := by decide +kernel
theorem dX11_chain_33 : decode cX11_chain 33 = .ok (.iconst 1, 1) := by decide +kernel
theorem dX11_chain_34 : decode cX11_chain 34 = .ok (.iadd, 1) := by decide +kernel
theorem dX11_chain_35 : decode cX11_chain 35 = .ok (.iload_n 3, 1) := by decide +kernel
theorem dX11_chain_36 : decode cX11_chain 36 = .ok (.invokevirtual 292, 3) := by decide +kernel
theorem dX11_chain_39 : decode cX11_chain 39 = .ok (.ifCond .ne 5, 3) := by decide +kernel
theorem dX11_chain_42 : decode cX11_chain 42 = .ok (.iload_n 3, 1) := by decide +kernel
theorem dX11_chain_43 : decode cX11_chain 43 = .ok (.ireturn, 1) := by decide +kernel
theorem dX11_chain_44 : decode cX11_chain 44 = .ok (.iinc 3 1, 3) := by decide +kernel
theorem dX11_chain_47 : decode cX11_chain 47 = .ok (.goto (-21), 3) := by decide +kernel
theorem dX11_chain_50 : decode cX11_chain 50 = .ok (.iconst (-1), 1) := by decide +kernel
theorem dX11_chain_51 : decode cX11_chain 51 = .ok (.ireturn, 1) := by decide +kernel
theorem dX11_member_0 : decode cX11_member 0 = .ok (.aload_n 0, 1) := by decide +kernel
theorem dX11_member_1 : decode cX11_member 1 = .ok (.iconst 0, 1) := by decide +kernel
theorem dX11_member_2 : decode cX11_member 2 = .ok (.putfield 49, 3) := by decide +kernel
theorem dX11_member_5 : decode cX11_member 5 = .ok (.aload_n 0, 1) := by decide +kernel
theorem dX11_member_6 : decode cX11_member 6 = .ok (.iload_n 1, 1) := by decide +kernel
theorem dX11_member_7 : decode cX11_member 7 = .ok (.invokevirtual 214, 3) := by decide +kernel
theorem dX11_member_10 : decode cX11_member 10 = .ok (.ifCond .eq 22, 3) := by decide +kernel
theorem dX11_member_13 : decode cX11_member 13 = .ok (.aload_n 0, 1) := by decide +kernel
theorem dX11_member_14 : decode cX11_member 14 = .ok (.iload_n 1, 1) := by decide +kernel
theorem dX11_member_15 : decode cX11_member 15 = .ok (.invokevirtual 110, 3) := by decide +kernel
theorem dX11_member_18 : decode cX11_member 18 = .ok (.iconst 1, 1) := by decide +kernel
theorem dX11_member_19 : decode cX11_member 19 = .ok (.if_icmp .lt 13, 3) := by decide +kernel
theorem dX11_member_22 : decode cX11_member 22 = .ok (.iload_n 3, 1) := by decide +kernel
theorem dX11_member_23 : decode cX11_member 23 = .ok (.i2l, 1) := by decide +kernel
theorem dX11_member_24 : decode cX11_member 24 = .ok (.lconst 0, 1) := by decide +kernel
theorem dX11_member_25 : decode cX11_member 25 = .ok (.lconst 1, 1) := by decide +kernel
theorem dX11_member_26 : decode cX11_member 26 = .ok (.invokestatic 171, 3) := by decide +kernel
theorem dX11_member_29 : decode cX11_member 29 = .ok (.ifCond .ne 5, 3) := by decide +kernel
theorem dX11_member_32 : decode cX11_member 32 = .ok (.iconst (-1), 1) := by decide +kernel
theorem dX11_member_33 : decode cX11_member 33 = .ok (.ireturn, 1) := by decide +kernel
theorem dX11_member_34 : decode cX11_member 34 = .ok (.aload_n 0, 1) := by decide +kernel
theorem dX11_member_35 : decode cX11_member 35 = .ok (.bipush 36, 2) := by decide +kernel
theorem dX11_member_37 : decode cX11_member 37 = .ok (.iload_n 1, 1) := by decide +kernel
theorem dX11_member_38 : decode cX11_member 38 = .ok (.invokevirtual 137, 3) := by decide +kernel
theorem dX11_member_41 : decode cX11_member 41 = .ok (.istore 4, 2) := by decide +kernel
theorem dX11_member_43 : decode cX11_member 43 = .ok (.iload_n 2, 1) := by decide +kernel
theorem dX11_member_44 : decode cX11_member 44 = .ok (.i2l, 1) := by decide +kernel
theorem dX11_member_45 : decode cX11_member 45 = .ok (.lconst 0, 1) := by decide +kernel
theorem dX11_member_46 : decode cX11_member 46 = .ok (.iload 4, 2) := by decide +kernel
theorem dX11_member_48 : decode cX11_member 48 = .ok (.iconst 1, 1) := by decide +kernel
theorem dX11_member_49 : decode cX11_member 49 = .ok (.isub, 1) := by decide +kernel
theorem dX11_member_50 : decode cX11_member 50 = .ok (.i2l, 1) := by decide +kernel
theorem dX11_member_51 : decode cX11_member 51 = .ok (.invokestatic 171, 3) := by decide +kernel
theorem dX11_member_54 : decode cX11_member 54 = .ok (.ifCond .ne 5, 3) := by decide +kernel
theorem dX11_member_57 : decode cX11_member 57 = .ok (.iconst (-1), 1) := by decide +kernel
theorem dX11_member_58 : decode cX11_member 58 = .ok (.ireturn, 1) := by decide +kernel
theorem dX11_member_59 : decode cX11_member 59 = .ok (.iload_n 3, 1) := by decide +kernel
theorem dX11_member_60 : decode cX11_member 60 = .ok (.ifCond .ne 15, 3) := by decide +kernel
theorem dX11_member_63 : decode cX11_member 63 = .ok (.aload_n 0, 1) := by decide +kernel
theorem dX11_member_64 : decode cX11_member 64 = .ok (.getfield 27, 3) := by decide +kernel
theorem dX11_member_67 : decode cX11_member 67 = .ok (.bipush 36, 2) := by decide +kernel
theorem dX11_member_69 : decode cX11_member 69 = .ok (.iload_n 2, 1) := by decide +kernel
theorem dX11_member_70 : decode cX11_member 70 = .ok (.iadd, 1) := by decide +kernel
theorem dX11_member_71 : decode cX11_member 71 = .ok (.iaload, 1) := by decide +kernel
theorem dX11_member_72 : decode cX11_member 72 = .ok (.goto 11, 3) := by decide +kernel
theorem dX11_member_75 : decode cX11_member 75 = .ok (.aload_n 0, 1) := by decide +kernel
theorem dX11_member_76 : decode cX11_member 76 = .ok (.bipush 36, 2) := by decide +kernel
theorem dX11_member_78 : decode cX11_member 78 = .ok (.iload_n 2, 1) := by decide +kernel
theorem dX11_member_79 : decode cX11_member 79 = .ok (.iadd, 1) := by decide +kernel
theorem dX11_member_80 : decode cX11_member 80 = .ok (.invokevirtual 152, 3) := by decide +kernel
theorem dX11_member_83 : decode cX11_member 83 = .ok (.ireturn, 1) := by decide +kernel
theorem dX11_fails__0 : decode cX11_fails_ 0 = .ok (.aload_n 0, 1) := by decide +kernel
theorem dX11_fails__1 : decode cX11_fails_ 1 = .ok (.iconst 0, 1) := by decide +kernel
theorem dX11_fails__2 : decode cX11_fails_ 2 = .ok (.putfield 49, 3) := by decide +kernel
theorem dX11_fails__5 : decode cX11_fails_ 5 = .ok (.aload_n 0, 1) := by decide +kernel
theorem dX11_fails__6 : decode cX11_fails_ 6 = .ok (.iload_n 1, 1) := by decide +kernel
theorem dX11_fails__7 : decode cX11_fails_ 7 = .ok (.invokevirtual 214, 3) := by decide +kernel
theorem dX11_fails__10 : decode cX11_fails_ 10 = .ok (.ifCond .eq 12, 3) := by decide +kernel
theorem dX11_fails__13 : decode cX11_fails_ 13 = .ok (.aload_n 0, 1) := by decide +kernel
theorem dX11_fails__14 : decode cX11_fails_ 14 = .ok (.iload_n 1, 1) := by decide +kernel
theorem dX11_fails__15 : decode cX11_fails_ 15 = .ok (.invokevirtual 110, 3) := by decide +kernel
theorem dX11_fails__18 : decode cX11_fails_ 18 = .ok (.iconst 1, 1) := by decide +kernel
theorem dX11_fails__19 : decode cX11_fails_ 19 = .ok (.if_icmp .ge 6, 3) := by decide +kernel
theorem dX11_fails__22 : decode cX11_fails_ 22 = .ok (.bipush (-2), 2) := by decide +kernel
theorem dX11_fails__24 : decode cX11_fails_ 24 = .ok (.ireturn, 1) := by decide +kernel
theorem dX11_fails__25 : decode cX11_fails_ 25 = .ok (.aload_n 0, 1) := by decide +kernel
theorem dX11_fails__26 : decode cX11_fails_ 26 = .ok (.bipush 36, 2) := by decide +kernel
theorem dX11_fails__28 : decode cX11_fails_ 28 = .ok (.iload_n 1, 1) := by decide +kernel
theorem dX11_fails__29 : decode cX11_fails_ 29 = .ok (.invokevirtual 137, 3) := by decide +kernel
theorem dX11_fails__32 : decode cX11_fails_ 32 = .ok (.istore_n 2, 1) := by decide +kernel
theorem dX11_fails__33 : decode cX11_fails_ 33 = .ok (.iconst 1, 1) := by decide +kernel
theorem dX11_fails__34 : decode cX11_fails_ 34 = .ok (.istore_n 3, 1) := by decide +kernel
theorem dX11_fails__35 : decode cX11_fails_ 35 = .ok (.iload_n 3, 1) := by decide +kernel
theorem dX11_fails__36 : decode cX11_fails_ 36 = .ok (.iload_n 2, 1) := by decide +kernel
theorem dX11_fails__37 : decode cX11_fails_ 37 = .ok (.if_icmp .ge 53, 3) := by decide +kernel
theorem dX11_fails__40 : decode cX11_fails_ 40 = .ok (.aload_n 0, 1) := by decide +kernel
theorem dX11_fails__41 : decode cX11_fails_ 41 = .ok (.getfield 27, 3) := by decide +kernel
theorem dX11_fails__44 : decode cX11_fails_ 44 = .ok (.bipush 36, 2) := by decide +kernel
theorem dX11_fails__46 : decode cX11_fails_ 46 = .ok (.iload_n 3, 1) := by decide +kernel
theorem dX11_fails__47 : decode cX11_fails_ 47 = .ok (.iadd, 1) := by decide +kernel
theorem dX11_fails__48 : decode cX11_fails_ 48 = .ok (.iaload, 1) := by decide +kernel
theorem dX11_fails__49 : decode cX11_fails_ 49 = .ok (.aload_n 0, 1) := by decide +kernel
theorem dX11_fails__50 : decode cX11_fails_ 50 = .ok (.getfield 27, 3) := by decide +kernel
theorem dX11_fails__53 : decode cX11_fails_ 53 = .ok (.bipush 36, 2) := by decide +kernel
theorem dX11_fails__55 : decode cX11_fails_ 55 = .ok (.iload_n 3, 1) := by decide +kernel
theorem dX11_fails__56 : decode cX11_fails_ 56 = .ok (.iadd, 1) := by decide +kernel
theorem dX11_fails__57 : decode cX11_fails_ 57 = .ok (.iconst 1, 1) := by decide +kernel
theorem dX11_fails__58 : decode cX11_fails_ 58 = .ok (.isub, 1) := by decide +kernel
theorem dX11_fails__59 : decode cX11_fails_ 59 = .ok (.iaload, 1) := by decide +kernel
theorem dX11_fails__60 : decode cX11_fails_ 60 = .ok (.iconst 1, 1) := by decide +kernel
theorem dX11_fails__61 : decode cX11_fails_ 61 = .ok (.isub, 1) := by decide +kernel
theorem dX11_fails__62 : decode cX11_fails_ 62 = .ok (.if_icmp .ne 20, 3) := by decide +kernel
theorem dX11_fails__65 : decode cX11_fails_ 65 = .ok (.aload_n 0, 1) := by decide +kernel
theorem dX11_fails__66 : decode cX11_fails_ 66 = .ok (.bipush 36, 2) := by decide +kernel
theorem dX11_fails__68 : decode cX11_fails_ 68 = .ok (.iload_n 3, 1) := by decide +kernel
theorem dX11_fails__69 : decode cX11_fails_ 69 = .ok (.iadd, 1) := by decide +kernel
theorem dX11_fails__70 : decode cX11_fails_ 70 = .ok (.invokevirtual 152, 3) := by decide +kernel
theorem dX11_fails__73 : decode cX11_fails_ 73 = .ok (.aload_n 0, 1) := by decide +kernel
theorem dX11_fails__74 : decode cX11_fails_ 74 = .ok (.bipush 36, 2) := by decide +kernel
theorem dX11_fails__76 : decode cX11_fails_ 76 = .ok (.invokevirtual 152, 3) := by decide +kernel
theorem dX11_fails__79 : decode cX11_fails_ 79 = .ok (.if_icmp .eq 5, 3) := by decide +kernel
theorem dX11_fails__82 : decode cX11_fails_ 82 = .ok (.iload_n 3, 1) := by decide +kernel
theorem dX11_fails__83 : decode cX11_fails_ 83 = .ok (.ireturn, 1) := by decide +kernel
theorem dX11_fails__84 : decode cX11_fails_ 84 = .ok (.iinc 3 1, 3) := by decide +kernel
theorem dX11_fails__87 : decode cX11_fails_ 87 = .ok (.goto (-52), 3) := by decide +kernel
theorem dX11_fails__90 : decode cX11_fails_ 90 = .ok (.aload_n 0, 1) := by decide +kernel
theorem dX11_fails__91 : decode cX11_fails_ 91 = .ok (.getfield 27, 3) := by decide +kernel
theorem dX11_fails__94 : decode cX11_fails_ 94 = .ok (.bipush 36, 2) := by decide +kernel
theorem dX11_fails__96 : decode cX11_fails_ 96 = .ok (.iload_n 2, 1) := by decide +kernel
theorem dX11_fails__97 : decode cX11_fails_ 97 = .ok (.iadd, 1) := by decide +kernel
theorem dX11_fails__98 : decode cX11_fails_ 98 = .ok (.iconst 1, 1) := by decide +kernel
theorem dX11_fails__99 : decode cX11_fails_ 99 = .ok (.isub, 1) := by decide +kernel
theorem dX11_fails__100 : decode cX11_fails_ 100 = .ok (.iaload, 1) := by decide +kernel
theorem dX11_fails__101 : decode cX11_fails_ 101 = .ok (.ifCond .le 7, 3) := by decide +kernel
theorem dX11_fails__104 : decode cX11_fails_ 104 = .ok (.iload_n 2, 1) := by decide +kernel
theorem dX11_fails__105 : decode cX11_fails_ 105 = .ok (.goto 4, 3) := by decide +kernel
theorem dX11_fails__108 : decode cX11_fails_ 108 = .ok (.iconst (-1), 1) := by decide +kernel
theorem dX11_fails__109 : decode cX11_fails_ 109 = .ok (.ireturn, 1) := by decide +kernel
theorem dX11_firstNewton_0 : decode cX11_firstNewton 0 = .ok (.iconst 1, 1) := by decide +kernel
theorem dX11_firstNewton_1 : decode cX11_firstNewton 1 = .ok (.istore_n 3, 1) := by decide +kernel
theorem dX11_firstNewton_2 : decode cX11_firstNewton 2 = .ok (.iload_n 3, 1) := by decide +kernel
theorem dX11_firstNewton_3 : decode cX11_firstNewton 3 = .ok (.iload_n 2, 1) := by decide +kernel
theorem dX11_firstNewton_4 : decode cX11_firstNewton 4 = .ok (.if_icmp .ge 65, 3) := by decide +kernel
theorem dX11_firstNewton_7 : decode cX11_firstNewton 7 = .ok (.aload_n 0, 1) := by decide +kernel
theorem dX11_firstNewton_8 : decode cX11_firstNewton 8 = .ok (.iload_n 1, 1) := by decide +kernel
theorem dX11_firstNewton_9 : decode cX11_firstNewton 9 = .ok (.iload_n 3, 1) := by decide +kernel
theorem dX11_firstNewton_10 : decode cX11_firstNewton 10 = .ok (.invokevirtual 106, 3) := by decide +kernel
theorem dX11_firstNewton_13 : decode cX11_firstNewton 13 = .ok (.aload_n 0, 1) := by decide +kernel
theorem dX11_firstNewton_14 : decode cX11_firstNewton 14 = .ok (.iload_n 1, 1) := by decide +kernel
theorem dX11_firstNewton_15 : decode cX11_firstNewton 15 = .ok (.iload_n 3, 1) := by decide +kernel
theorem dX11_firstNewton_16 : decode cX11_firstNewton 16 = .ok (.invokevirtual 106, 3) := by decide +kernel
theorem dX11_firstNewton_19 : decode cX11_firstNewton 19 = .ok (.lmul, 1) := by decide +kernel
theorem dX11_firstNewton_20 : decode cX11_firstNewton 20 = .ok (.iload_n 3, 1) := by decide +kernel
theorem dX11_firstNewton_21 : decode cX11_firstNewton 21 = .ok (.i2l, 1) := by decide +kernel
theorem dX11_firstNewton_22 : decode cX11_firstNewton 22 = .ok (.lmul, 1) := by decide +kernel
theorem dX11_firstNewton_23 : decode cX11_firstNewton 23 = .ok (.iload_n 2, 1) := by decide +kernel
theorem dX11_firstNewton_24 : decode cX11_firstNewton 24 = .ok (.iload_n 3, 1) := by decide +kernel
theorem dX11_firstNewton_25 : decode cX11_firstNewton 25 = .ok (.isub, 1) := by decide +kernel
theorem dX11_firstNewton_26 : decode cX11_firstNewton 26 = .ok (.i2l, 1) := by decide +kernel
theorem dX11_firstNewton_27 : decode cX11_firstNewton 27 = .ok (.lmul, 1) := by decide +kernel
theorem dX11_firstNewton_28 : decode cX11_firstNewton 28 = .ok (.aload_n 0, 1) := by decide +kernel
theorem dX11_firstNewton_29 : decode cX11_firstNewton 29 = .ok (.iload_n 1, 1) := by decide +kernel
theorem dX11_firstNewton_30 : decode cX11_firstNewton 30 = .ok (.iload_n 3, 1) := by decide +kernel
theorem dX11_firstNewton_31 : decode cX11_firstNewton 31 = .ok (.iconst 1, 1) := by decide +kernel
theorem dX11_firstNewton_32 : decode cX11_firstNewton 32 = .ok (.isub, 1) := by decide +kernel
theorem dX11_firstNewton_33 : decode cX11_firstNewton 33 = .ok (.invokevirtual 106, 3) := by decide +kernel
theorem dX11_firstNewton_36 : decode cX11_firstNewton 36 = .ok (.aload_n 0, 1) := by decide +kernel
theorem dX11_firstNewton_37 : decode cX11_firstNewton 37 = .ok (.iload_n 1, 1) := by decide +kernel
theorem dX11_firstNewton_38 : decode cX11_firstNewton 38 = .ok (.iload_n 3, 1) := by decide +kernel
theorem dX11_firstNewton_39 : decode cX11_firstNewton 39 = .ok (.iconst 1, 1) := by decide +kernel
theorem dX11_firstNewton_40 : decode cX11_firstNewton 40 = .ok (.iadd, 1) := by decide +kernel
theorem dX11_firstNewton_41 : decode cX11_firstNewton 41 = .ok (.invokevirtual 106, 3) := by decide +kernel
theorem dX11_firstNewton_44 : decode cX11_firstNewton 44 = .ok (.lmul, 1) := by decide +kernel
theorem dX11_firstNewton_45 : decode cX11_firstNewton 45 = .ok (.iload_n 3, 1) := by decide +kernel
theorem dX11_firstNewton_46 : decode cX11_firstNewton 46 = .ok (.iconst 1, 1) := by decide +kernel
theorem dX11_firstNewton_47 : decode cX11_firstNewton 47 = .ok (.iadd, 1) := by decide +kernel
theorem dX11_firstNewton_48 : decode cX11_firstNewton 48 = .ok (.i2l, 1) := by decide +kernel
theorem dX11_firstNewton_49 : decode cX11_firstNewton 49 = .ok (.lmul, 1) := by decide +kernel
theorem dX11_firstNewton_50 : decode cX11_firstNewton 50 = .ok (.iload_n 2, 1) := by decide +kernel
theorem dX11_firstNewton_51 : decode cX11_firstNewton 51 = .ok (.iload_n 3, 1) := by decide +kernel
theorem dX11_firstNewton_52 : decode cX11_firstNewton 52 = .ok (.isub, 1) := by decide +kernel
theorem dX11_firstNewton_53 : decode cX11_firstNewton 53 = .ok (.iconst 1, 1) := by decide +kernel
theorem dX11_firstNewton_54 : decode cX11_firstNewton 54 = .ok (.iadd, 1) := by decide +kernel
theorem dX11_firstNewton_55 : decode cX11_firstNewton 55 = .ok (.i2l, 1) := by decide +kernel
theorem dX11_firstNewton_56 : decode cX11_firstNewton 56 = .ok (.lmul, 1) := by decide +kernel
theorem dX11_firstNewton_57 : decode cX11_firstNewton 57 = .ok (.lcmp, 1) := by decide +kernel
theorem dX11_firstNewton_58 : decode cX11_firstNewton 58 = .ok (.ifCond .ge 5, 3) := by decide +kernel
theorem dX11_firstNewton_61 : decode cX11_firstNewton 61 = .ok (.iload_n 3, 1) := by decide +kernel
theorem dX11_firstNewton_62 : decode cX11_firstNewton 62 = .ok (.ireturn, 1) := by decide +kernel
theorem dX11_firstNewton_63 : decode cX11_firstNewton 63 = .ok (.iinc 3 1, 3) := by decide +kernel
theorem dX11_firstNewton_66 : decode cX11_firstNewton 66 = .ok (.goto (-64), 3) := by decide +kernel
theorem dX11_firstNewton_69 : decode cX11_firstNewton 69 = .ok (.iconst 0, 1) := by decide +kernel
theorem dX11_firstNewton_70 : decode cX11_firstNewton 70 = .ok (.ireturn, 1) := by decide +kernel
theorem dX11_firstBent_0 : decode cX11_firstBent 0 = .ok (.iconst 1, 1) := by decide +kernel
theorem dX11_firstBent_1 : decode cX11_firstBent 1 = .ok (.istore_n 3, 1) := by decide +kernel
theorem dX11_firstBent_2 : decode cX11_firstBent 2 = .ok (.iload_n 3, 1) := by decide +kernel
theorem dX11_firstBent_3 : decode cX11_firstBent 3 = .ok (.iload_n 2, 1) := by decide +kernel
theorem dX11_firstBent_4 : decode cX11_firstBent 4 = .ok (.if_icmp .ge 45, 3) := by decide +kernel
theorem dX11_firstBent_7 : decode cX11_firstBent 7 = .ok (.aload_n 0, 1) := by decide +kernel
theorem dX11_firstBent_8 : decode cX11_firstBent 8 = .ok (.iload_n 1, 1) := by decide +kernel
theorem dX11_firstBent_9 : decode cX11_firstBent 9 = .ok (.iload_n 3, 1) := by decide +kernel
theorem dX11_firstBent_10 : decode cX11_firstBent 10 = .ok (.invokevirtual 106, 3) := by decide +kernel
theorem dX11_firstBent_13 : decode cX11_firstBent 13 = .ok (.aload_n 0, 1) := by decide +kernel
theorem dX11_firstBent_14 : decode cX11_firstBent 14 = .ok (.iload_n 1, 1) := by decide +kernel
theorem dX11_firstBent_15 : decode cX11_firstBent 15 = .ok (.iload_n 3, 1) := by decide +kernel
theorem dX11_firstBent_16 : decode cX11_firstBent 16 = .ok (.invokevirtual 106, 3) := by decide +kernel
theorem dX11_firstBent_19 : decode cX11_firstBent 19 = .ok (.lmul, 1) := by decide +kernel
theorem dX11_firstBent_20 : decode cX11_firstBent 20 = .ok (.aload_n 0, 1) := by decide +kernel
theorem dX11_firstBent_21 : decode cX11_firstBent 21 = .ok (.iload_n 1, 1) := by decide +kernel
theorem dX11_firstBent_22 : decode cX11_firstBent 22 = .ok (.iload_n 3, 1) := by decide +kernel
theorem dX11_firstBent_23 : decode cX11_firstBent 23 = .ok (.iconst 1, 1) := by decide +kernel
theorem dX11_firstBent_24 : decode cX11_firstBent 24 = .ok (.isub, 1) := by decide +kernel
theorem dX11_firstBent_25 : decode cX11_firstBent 25 = .ok (.invokevirtual 106, 3) := by decide +kernel
theorem dX11_firstBent_28 : decode cX11_firstBent 28 = .ok (.aload_n 0, 1) := by decide +kernel
theorem dX11_firstBent_29 : decode cX11_firstBent 29 = .ok (.iload_n 1, 1) := by decide +kernel
theorem dX11_firstBent_30 : decode cX11_firstBent 30 = .ok (.iload_n 3, 1) := by decide +kernel
theorem dX11_firstBent_31 : decode cX11_firstBent 31 = .ok (.iconst 1, 1) := by decide +kernel
theorem dX11_firstBent_32 : decode cX11_firstBent 32 = .ok (.iadd, 1) := by decide +kernel
theorem dX11_firstBent_33 : decode cX11_firstBent 33 = .ok (.invokevirtual 106, 3) := by decide +kernel
theorem dX11_firstBent_36 : decode cX11_firstBent 36 = .ok (.lmul, 1) := by decide +kernel
theorem dX11_firstBent_37 : decode cX11_firstBent 37 = .ok (.lcmp, 1) := by decide +kernel
theorem dX11_firstBent_38 : decode cX11_firstBent 38 = .ok (.ifCond .ge 5, 3) := by decide +kernel
theorem dX11_firstBent_41 : decode cX11_firstBent 41 = .ok (.iload_n 3, 1) := by decide +kernel
theorem dX11_firstBent_42 : decode cX11_firstBent 42 = .ok (.ireturn, 1) := by decide +kernel
theorem dX11_firstBent_43 : decode cX11_firstBent 43 = .ok (.iinc 3 1, 3) := by decide +kernel
theorem dX11_firstBent_46 : decode cX11_firstBent 46 = .ok (.goto (-44), 3) := by decide +kernel
theorem dX11_firstBent_49 : decode cX11_firstBent 49 = .ok (.iconst 0, 1) := by decide +kernel
theorem dX11_firstBent_50 : decode cX11_firstBent 50 = .ok (.ireturn, 1) := by decide +kernel
theorem dX11_holes_0 : decode cX11_holes 0 = .ok (.iconst 0, 1) := by decide +kernel
theorem dX11_holes_1 : decode cX11_holes 1 = .ok (.istore_n 3, 1) := by decide +kernel
theorem dX11_holes_2 : decode cX11_holes 2 = .ok (.iconst 0, 1) := by decide +kernel
theorem dX11_holes_3 : decode cX11_holes 3 = .ok (.istore 4, 2) := by decide +kernel
theorem dX11_holes_5 : decode cX11_holes 5 = .ok (.iconst 0, 1) := by decide +kernel
theorem dX11_holes_6 : decode cX11_holes 6 = .ok (.istore 5, 2) := by decide +kernel
theorem dX11_holes_8 : decode cX11_holes 8 = .ok (.iload 5, 2) := by decide +kernel
theorem dX11_holes_10 : decode cX11_holes 10 = .ok (.iload_n 2, 1) := by decide +kernel
theorem dX11_holes_11 : decode cX11_holes 11 = .ok (.if_icmp .gt 61, 3) := by decide +kernel
theorem dX11_holes_14 : decode cX11_holes 14 = .ok (.iload_n 3, 1) := by decide +kernel
theorem dX11_holes_15 : decode cX11_holes 15 = .ok (.iload 4, 2) := by decide +kernel
theorem dX11_holes_17 : decode cX11_holes 17 = .ok (.ifCond .eq 22, 3) := by decide +kernel
theorem dX11_holes_20 : decode cX11_holes 20 = .ok (.aload_n 0, 1) := by decide +kernel
theorem dX11_holes_21 : decode cX11_holes 21 = .ok (.iload_n 1, 1) := by decide +kernel
theorem dX11_holes_22 : decode cX11_holes 22 = .ok (.iload 5, 2) := by decide +kernel
theorem dX11_holes_24 : decode cX11_holes 24 = .ok (.invokevirtual 106, 3) := by decide +kernel
theorem dX11_holes_27 : decode cX11_holes 27 = .ok (.lconst 0, 1) := by decide +kernel
theorem dX11_holes_28 : decode cX11_holes 28 = .ok (.lcmp, 1) := by decide +kernel
theorem dX11_holes_29 : decode cX11_holes 29 = .ok (.ifCond .ne 10, 3) := by decide +kernel
theorem dX11_holes_32 : decode cX11_holes 32 = .ok (.iconst 1, 1) := by decide +kernel
theorem dX11_holes_33 : decode cX11_holes 33 = .ok (.iload 5, 2) := by decide +kernel
theorem dX11_holes_35 : decode cX11_holes 35 = .ok (.ishl, 1) := by decide +kernel
theorem dX11_holes_36 : decode cX11_holes 36 = .ok (.goto 4, 3) := by decide +kernel
theorem dX11_holes_39 : decode cX11_holes 39 = .ok (.iconst 0, 1) := by decide +kernel
theorem dX11_holes_40 : decode cX11_holes 40 = .ok (.ior, 1) := by decide +kernel
theorem dX11_holes_41 : decode cX11_holes 41 = .ok (.istore_n 3, 1) := by decide +kernel
theorem dX11_holes_42 : decode cX11_holes 42 = .ok (.iload 4, 2) := by decide +kernel
theorem dX11_holes_44 : decode cX11_holes 44 = .ok (.ifCond .ne 15, 3) := by decide +kernel
theorem dX11_holes_47 : decode cX11_holes 47 = .ok (.aload_n 0, 1) := by decide +kernel
theorem dX11_holes_48 : decode cX11_holes 48 = .ok (.iload_n 1, 1) := by decide +kernel
theorem dX11_holes_49 : decode cX11_holes 49 = .ok (.iload 5, 2) := by decide +kernel
theorem dX11_holes_51 : decode cX11_holes 51 = .ok (.invokevirtual 106, 3) := by decide +kernel
theorem dX11_holes_54 : decode cX11_holes 54 = .ok (.lconst 0, 1) := by decide +kernel
theorem dX11_holes_55 : decode cX11_holes 55 = .ok (.lcmp, 1) := by decide +kernel
theorem dX11_holes_56 : decode cX11_holes 56 = .ok (.ifCond .eq 7, 3) := by decide +kernel
theorem dX11_holes_59 : decode cX11_holes 59 = .ok (.iconst 1, 1) := by decide +kernel
theorem dX11_holes_60 : decode cX11_holes 60 = .ok (.goto 4, 3) := by decide +kernel
theorem dX11_holes_63 : decode cX11_holes 63 = .ok (.iconst 0, 1) := by decide +kernel
theorem dX11_holes_64 : decode cX11_holes 64 = .ok (.istore 4, 2) := by decide +kernel
theorem dX11_holes_66 : decode cX11_holes 66 = .ok (.iinc 5 1, 3) := by decide +kernel
theorem dX11_holes_69 : decode cX11_holes 69 = .ok (.goto (-61), 3) := by decide +kernel
theorem dX11_holes_72 : decode cX11_holes 72 = .ok (.iload_n 3, 1) := by decide +kernel
theorem dX11_holes_73 : decode cX11_holes 73 = .ok (.ireturn, 1) := by decide +kernel
theorem dX11_hasHump_0 : decode cX11_hasHump 0 = .ok (.iconst 0, 1) := by decide +kernel
theorem dX11_hasHump_1 : decode cX11_hasHump 1 = .ok (.istore_n 3, 1) := by decide +kernel
theorem dX11_hasHump_2 : decode cX11_hasHump 2 = .ok (.iload_n 3, 1) := by decide +kernel
theorem dX11_hasHump_3 : decode cX11_hasHump 3 = .ok (.iload_n 2, 1) := by decide +kernel
theorem dX11_hasHump_4 : decode cX11_hasHump 4 = .ok (.if_icmp .ge 27, 3) := by decide +kernel
theorem dX11_hasHump_7 : decode cX11_hasHump 7 = .ok (.aload_n 0, 1) := by decide +kernel
theorem dX11_hasHump_8 : decode cX11_hasHump 8 = .ok (.iload_n 1, 1) := by decide +kernel
theorem dX11_hasHump_9 : decode cX11_hasHump 9 = .ok (.iload_n 3, 1) := by decide +kernel
theorem dX11_hasHump_10 : decode cX11_hasHump 10 = .ok (.iconst 1, 1) := by decide +kernel
theorem dX11_hasHump_11 : decode cX11_hasHump 11 = .ok (.iadd, 1) := by decide +kernel
theorem dX11_hasHump_12 : decode cX11_hasHump 12 = .ok (.invokevirtual 106, 3) := by decide +kernel
theorem dX11_hasHump_15 : decode cX11_hasHump 15 = .ok (.aload_n 0, 1) := by decide +kernel
theorem dX11_hasHump_16 : decode cX11_hasHump 16 = .ok (.iload_n 1, 1) := by decide +kernel
theorem dX11_hasHump_17 : decode cX11_hasHump 17 = .ok (.iload_n 3, 1) := by decide +kernel
theorem dX11_hasHump_18 : decode cX11_hasHump 18 = .ok (.invokevirtual 106, 3) := by decide +kernel
theorem dX11_hasHump_21 : decode cX11_hasHump 21 = .ok (.lcmp, 1) := by decide +kernel
theorem dX11_hasHump_22 : decode cX11_hasHump 22 = .ok (.ifCond .lt 9, 3) := by decide +kernel
theorem dX11_hasHump_25 : decode cX11_hasHump 25 = .ok (.iinc 3 1, 3) := by decide +kernel
theorem dX11_hasHump_28 : decode cX11_hasHump 28 = .ok (.goto (-26), 3) := by decide +kernel
theorem dX11_hasHump_31 : decode cX11_hasHump 31 = .ok (.iload_n 3, 1) := by decide +kernel
theorem dX11_hasHump_32 : decode cX11_hasHump 32 = .ok (.iload_n 2, 1) := by decide +kernel
theorem dX11_hasHump_33 : decode cX11_hasHump 33 = .ok (.if_icmp .ge 27, 3) := by decide +kernel
theorem dX11_hasHump_36 : decode cX11_hasHump 36 = .ok (.aload_n 0, 1) := by decide +kernel
theorem dX11_hasHump_37 : decode cX11_hasHump 37 = .ok (.iload_n 1, 1) := by decide +kernel
theorem dX11_hasHump_38 : decode cX11_hasHump 38 = .ok (.iload_n 3, 1) := by decide +kernel
theorem dX11_hasHump_39 : decode cX11_hasHump 39 = .ok (.iconst 1, 1) := by decide +kernel
theorem dX11_hasHump_40 : decode cX11_hasHump 40 = .ok (.iadd, 1) := by decide +kernel
theorem dX11_hasHump_41 : decode cX11_hasHump 41 = .ok (.invokevirtual 106, 3) := by decide +kernel
theorem dX11_hasHump_44 : decode cX11_hasHump 44 = .ok (.aload_n 0, 1) := by decide +kernel
theorem dX11_hasHump_45 : decode cX11_hasHump 45 = .ok (.iload_n 1, 1) := by decide +kernel
theorem dX11_hasHump_46 : decode cX11_hasHump 46 = .ok (.iload_n 3, 1) := by decide +kernel
theorem dX11_hasHump_47 : decode cX11_hasHump 47 = .ok (.invokevirtual 106, 3) := by decide +kernel
theorem dX11_hasHump_50 : decode cX11_hasHump 50 = .ok (.lcmp, 1) := by decide +kernel
theorem dX11_hasHump_51 : decode cX11_hasHump 51 = .ok (.ifCond .gt 9, 3) := by decide +kernel
theorem dX11_hasHump_54 : decode cX11_hasHump 54 = .ok (.iinc 3 1, 3) := by decide +kernel
theorem dX11_hasHump_57 : decode cX11_hasHump 57 = .ok (.goto (-26), 3) := by decide +kernel
theorem dX11_hasHump_60 : decode cX11_hasHump 60 = .ok (.iload_n 3, 1) := by decide +kernel
theorem dX11_hasHump_61 : decode cX11_hasHump 61 = .ok (.iload_n 2, 1) := by decide +kernel
theorem dX11_hasHump_62 : decode cX11_hasHump 62 = .ok (.if_icmp .ne 7, 3) := by decide +kernel
theorem dX11_hasHump_65 : decode cX11_hasHump 65 = .ok (.iconst 1, 1) := by decide +kernel
theorem dX11_hasHump_66 : decode cX11_hasHump 66 = .ok (.goto 4, 3) := by decide +kernel
theorem dX11_hasHump_69 : decode cX11_hasHump 69 = .ok (.iconst 0, 1) := by decide +kernel
theorem dX11_hasHump_70 : decode cX11_hasHump 70 = .ok (.ireturn, 1) := by decide +kernel
theorem dX11_modes_0 : decode cX11_modes 0 = .ok (.aload_n 0, 1) := by decide +kernel
theorem dX11_modes_1 : decode cX11_modes 1 = .ok (.iload_n 1, 1) := by decide +kernel
theorem dX11_modes_2 : decode cX11_modes 2 = .ok (.iconst 0, 1) := by decide +kernel
theorem dX11_modes_3 : decode cX11_modes 3 = .ok (.invokevirtual 106, 3) := by decide +kernel
theorem dX11_modes_6 : decode cX11_modes 6 = .ok (.lstore_n 3, 1) := by decide +kernel
theorem dX11_modes_7 : decode cX11_modes 7 = .ok (.iconst 1, 1) := by decide +kernel
theorem dX11_modes_8 : decode cX11_modes 8 = .ok (.istore 5, 2) := by decide +kernel
theorem dX11_modes_10 : decode cX11_modes 10 = .ok (.iload 5, 2) := by decide +kernel
theorem dX11_modes_12 : decode cX11_modes 12 = .ok (.iload_n 2, 1) := by decide +kernel
theorem dX11_modes_13 : decode cX11_modes 13 = .ok (.if_icmp .gt 33, 3) := by decide +kernel
theorem dX11_modes_16 : decode cX11_modes 16 = .ok (.aload_n 0, 1) := by decide +kernel
theorem dX11_modes_17 : decode cX11_modes 17 = .ok (.iload_n 1, 1) := by decide +kernel
theorem dX11_modes_18 : decode cX11_modes 18 = .ok (.iload 5, 2) := by decide +kernel
theorem dX11_modes_20 : decode cX11_modes 20 = .ok (.invokevirtual 106, 3) := by decide +kernel
theorem dX11_modes_23 : decode cX11_modes 23 = .ok (.lload_n 3, 1) := by decide +kernel
theorem dX11_modes_24 : decode cX11_modes 24 = .ok (.lcmp, 1) := by decide +kernel
theorem dX11_modes_25 : decode cX11_modes 25 = .ok (.ifCond .le 13, 3) := by decide +kernel
theorem dX11_modes_28 : decode cX11_modes 28 = .ok (.aload_n 0, 1) := by decide +kernel
theorem dX11_modes_29 : decode cX11_modes 29 = .ok (.iload_n 1, 1) := by decide +kernel
theorem dX11_modes_30 : decode cX11_modes 30 = .ok (.iload 5, 2) := by decide +kernel
theorem dX11_modes_32 : decode cX11_modes 32 = .ok (.invokevirtual 106, 3) := by decide +kernel
theorem dX11_modes_35 : decode cX11_modes 35 = .ok (.goto 4, 3) := by decide +kernel
theorem dX11_modes_38 : decode cX11_modes 38 = .ok (.lload_n 3, 1) := by decide +kernel
theorem dX11_modes_39 : decode cX11_modes 39 = .ok (.lstore_n 3, 1) := by decide +kernel
theorem dX11_modes_40 : decode cX11_modes 40 = .ok (.iinc 5 1, 3) := by decide +kernel
theorem dX11_modes_43 : decode cX11_modes 43 = .ok (.goto (-33), 3) := by decide +kernel
theorem dX11_modes_46 : decode cX11_modes 46 = .ok (.iconst 0, 1) := by decide +kernel
theorem dX11_modes_47 : decode cX11_modes 47 = .ok (.istore 5, 2) := by decide +kernel
theorem dX11_modes_49 : decode cX11_modes 49 = .ok (.iconst 0, 1) := by decide +kernel
theorem dX11_modes_50 : decode cX11_modes 50 = .ok (.istore 6, 2) := by decide +kernel
theorem dX11_modes_52 : decode cX11_modes 52 = .ok (.iload 6, 2) := by decide +kernel
theorem dX11_modes_54 : decode cX11_modes 54 = .ok (.iload_n 2, 1) := by decide +kernel
theorem dX11_modes_55 : decode cX11_modes 55 = .ok (.if_icmp .gt 34, 3) := by decide +kernel
theorem dX11_modes_58 : decode cX11_modes 58 = .ok (.iload 5, 2) := by decide +kernel
theorem dX11_modes_60 : decode cX11_modes 60 = .ok (.aload_n 0, 1) := by decide +kernel
theorem dX11_modes_61 : decode cX11_modes 61 = .ok (.iload_n 1, 1) := by decide +kernel
theorem dX11_modes_62 : decode cX11_modes 62 = .ok (.iload 6, 2) := by decide +kernel
theorem dX11_modes_64 : decode cX11_modes 64 = .ok (.invokevirtual 106, 3) := by decide +kernel
theorem dX11_modes_67 : decode cX11_modes 67 = .ok (.lload_n 3, 1) := by decide +kernel
theorem dX11_modes_68 : decode cX11_modes 68 = .ok (.lcmp, 1) := by decide +kernel
theorem dX11_modes_69 : decode cX11_modes 69 = .ok (.ifCond .ne 10, 3) := by decide +kernel
theorem dX11_modes_72 : decode cX11_modes 72 = .ok (.iconst 1, 1) := by decide +kernel
theorem dX11_modes_73 : decode cX11_modes 73 = .ok (.iload 6, 2) := by decide +kernel
theorem dX11_modes_75 : decode cX11_modes 75 = .ok (.ishl, 1) := by decide +kernel
theorem dX11_modes_76 : decode cX11_modes 76 = .ok (.goto 4, 3) := by decide +kernel
theorem dX11_modes_79 : decode cX11_modes 79 = .ok (.iconst 0, 1) := by decide +kernel
theorem dX11_modes_80 : decode cX11_modes 80 = .ok (.ior, 1) := by decide +kernel
theorem dX11_modes_81 : decode cX11_modes 81 = .ok (.istore 5, 2) := by decide +kernel
theorem dX11_modes_83 : decode cX11_modes 83 = .ok (.iinc 6 1, 3) := by decide +kernel
theorem dX11_modes_86 : decode cX11_modes 86 = .ok (.goto (-34), 3) := by decide +kernel
theorem dX11_modes_89 : decode cX11_modes 89 = .ok (.iload 5, 2) := by decide +kernel
theorem dX11_modes_91 : decode cX11_modes 91 = .ok (.ireturn, 1) := by decide +kernel
theorem dX11_row_0 : decode cX11_row 0 = .ok (.aload_n 0, 1) := by decide +kernel
theorem dX11_row_1 : decode cX11_row 1 = .ok (.iconst 0, 1) := by decide +kernel
theorem dX11_row_2 : decode cX11_row 2 = .ok (.putfield 49, 3) := by decide +kernel
theorem dX11_row_5 : decode cX11_row 5 = .ok (.aload_n 0, 1) := by decide +kernel
theorem dX11_row_6 : decode cX11_row 6 = .ok (.iload_n 1, 1) := by decide +kernel
theorem dX11_row_7 : decode cX11_row 7 = .ok (.invokevirtual 214, 3) := by decide +kernel
theorem dX11_row_10 : decode cX11_row 10 = .ok (.ifCond .eq 15, 3) := by decide +kernel
theorem dX11_row_13 : decode cX11_row 13 = .ok (.iload_n 2, 1) := by decide +kernel
theorem dX11_row_14 : decode cX11_row 14 = .ok (.i2l, 1) := by decide +kernel
theorem dX11_row_15 : decode cX11_row 15 = .ok (.lconst 0, 1) := by decide +kernel
theorem dX11_row_16 : decode cX11_row 16 = .ok (.ldc2_w 295, 3) := by decide +kernel
theorem dX11_row_19 : decode cX11_row 19 = .ok (.invokestatic 171, 3) := by decide +kernel
theorem dX11_row_22 : decode cX11_row 22 = .ok (.ifCond .ne 5, 3) := by decide +kernel
theorem dX11_row_25 : decode cX11_row 25 = .ok (.iconst (-1), 1) := by decide +kernel
theorem dX11_row_26 : decode cX11_row 26 = .ok (.ireturn, 1) := by decide +kernel
theorem dX11_row_27 : decode cX11_row 27 = .ok (.aload_n 0, 1) := by decide +kernel
theorem dX11_row_28 : decode cX11_row 28 = .ok (.iload_n 1, 1) := by decide +kernel
theorem dX11_row_29 : decode cX11_row 29 = .ok (.invokevirtual 110, 3) := by decide +kernel
theorem dX11_row_32 : decode cX11_row 32 = .ok (.istore_n 3, 1) := by decide +kernel
theorem dX11_row_33 : decode cX11_row 33 = .ok (.iload_n 3, 1) := by decide +kernel
theorem dX11_row_34 : decode cX11_row 34 = .ok (.ifCond .ge 6, 3) := by decide +kernel
theorem dX11_row_37 : decode cX11_row 37 = .ok (.bipush (-2), 2) := by decide +kernel
theorem dX11_row_39 : decode cX11_row 39 = .ok (.ireturn, 1) := by decide +kernel
theorem dX11_row_40 : decode cX11_row 40 = .ok (.iload_n 2, 1) := by decide +kernel
theorem dX11_row_41 : decode cX11_row 41 = .ok (.tableswitch 67 0 3 #[31, 38, 45, 52], 31) := by decide +kernel
theorem dX11_row_72 : decode cX11_row 72 = .ok (.aload_n 0, 1) := by decide +kernel
theorem dX11_row_73 : decode cX11_row 73 = .ok (.iload_n 1, 1) := by decide +kernel
theorem dX11_row_74 : decode cX11_row 74 = .ok (.iload_n 3, 1) := by decide +kernel
theorem dX11_row_75 : decode cX11_row 75 = .ok (.invokevirtual 297, 3) := by decide +kernel
theorem dX11_row_78 : decode cX11_row 78 = .ok (.ireturn, 1) := by decide +kernel
theorem dX11_row_79 : decode cX11_row 79 = .ok (.aload_n 0, 1) := by decide +kernel
theorem dX11_row_80 : decode cX11_row 80 = .ok (.iload_n 1, 1) := by decide +kernel
theorem dX11_row_81 : decode cX11_row 81 = .ok (.iload_n 3, 1) := by decide +kernel
theorem dX11_row_82 : decode cX11_row 82 = .ok (.invokevirtual 300, 3) := by decide +kernel
theorem dX11_row_85 : decode cX11_row 85 = .ok (.ireturn, 1) := by decide +kernel
theorem dX11_row_86 : decode cX11_row 86 = .ok (.aload_n 0, 1) := by decide +kernel
theorem dX11_row_87 : decode cX11_row 87 = .ok (.iload_n 1, 1) := by decide +kernel
theorem dX11_row_88 : decode cX11_row 88 = .ok (.iload_n 3, 1) := by decide +kernel
theorem dX11_row_89 : decode cX11_row 89 = .ok (.invokevirtual 303, 3) := by decide +kernel
theorem dX11_row_92 : decode cX11_row 92 = .ok (.ireturn, 1) := by decide +kernel
theorem dX11_row_93 : decode cX11_row 93 = .ok (.aload_n 0, 1) := by decide +kernel
theorem dX11_row_94 : decode cX11_row 94 = .ok (.iload_n 1, 1) := by decide +kernel
theorem dX11_row_95 : decode cX11_row 95 = .ok (.iload_n 3, 1) := by decide +kernel
theorem dX11_row_96 : decode cX11_row 96 = .ok (.invokevirtual 306, 3) := by decide +kernel
theorem dX11_row_99 : decode cX11_row 99 = .ok (.ifCond .eq 7, 3) := by decide +kernel
theorem dX11_row_102 : decode cX11_row 102 = .ok (.iconst 1, 1) := by decide +kernel
theorem dX11_row_103 : decode cX11_row 103 = .ok (.goto 4, 3) := by decide +kernel
theorem dX11_row_106 : decode cX11_row 106 = .ok (.iconst 0, 1) := by decide +kernel
theorem dX11_row_107 : decode cX11_row 107 = .ok (.ireturn, 1) := by decide +kernel
theorem dX11_row_108 : decode cX11_row 108 = .ok (.aload_n 0, 1) := by decide +kernel
theorem dX11_row_109 : decode cX11_row 109 = .ok (.iload_n 1, 1) := by decide +kernel
theorem dX11_row_110 : decode cX11_row 110 = .ok (.iload_n 3, 1) := by decide +kernel
theorem dX11_row_111 : decode cX11_row 111 = .ok (.invokevirtual 309, 3) := by decide +kernel
theorem dX11_row_114 : decode cX11_row 114 = .ok (.ireturn, 1) := by decide +kernel
theorem dX11_common_0 : decode cX11_common 0 = .ok (.lload_n 0, 1) := by decide +kernel
theorem dX11_common_1 : decode cX11_common 1 = .ok (.invokestatic 53, 3) := by decide +kernel
theorem dX11_common_4 : decode cX11_common 4 = .ok (.lstore 4, 2) := by decide +kernel
theorem dX11_common_6 : decode cX11_common 6 = .ok (.lload_n 2, 1) := by decide +kernel
theorem dX11_common_7 : decode cX11_common 7 = .ok (.invokestatic 53, 3) := by decide +kernel
theorem dX11_common_10 : decode cX11_common 10 = .ok (.lstore 6, 2) := by decide +kernel
theorem dX11_common_12 : decode cX11_common 12 = .ok (.lload 6, 2) := by decide +kernel
theorem dX11_common_14 : decode cX11_common 14 = .ok (.lconst 0, 1) := by decide +kernel
theorem dX11_common_15 : decode cX11_common 15 = .ok (.lcmp, 1) := by decide +kernel
theorem dX11_common_16 : decode cX11_common 16 = .ok (.ifCond .eq 21, 3) := by decide +kernel
theorem dX11_common_19 : decode cX11_common 19 = .ok (.lload 4, 2) := by decide +kernel
theorem dX11_common_21 : decode cX11_common 21 = .ok (.lload 6, 2) := by decide +kernel
theorem dX11_common_23 : decode cX11_common 23 = .ok (.lrem, 1) := by decide +kernel
theorem dX11_common_24 : decode cX11_common 24 = .ok (.lstore 8, 2) := by decide +kernel
theorem dX11_common_26 : decode cX11_common 26 = .ok (.lload 6, 2) := by decide +kernel
theorem dX11_common_28 : decode cX11_common 28 = .ok (.lstore 4, 2) := by decide +kernel
theorem dX11_common_30 : decode cX11_common 30 = .ok (.lload 8, 2) := by decide +kernel
theorem dX11_common_32 : decode cX11_common 32 = .ok (.lstore 6, 2) := by decide +kernel
theorem dX11_common_34 : decode cX11_common 34 = .ok (.goto (-22), 3) := by decide +kernel
theorem dX11_common_37 : decode cX11_common 37 = .ok (.lload 4, 2) := by decide +kernel
theorem dX11_common_39 : decode cX11_common 39 = .ok (.lreturn, 1) := by decide +kernel
theorem dX11_mean_0 : decode cX11_mean 0 = .ok (.aload_n 0, 1) := by decide +kernel
theorem dX11_mean_1 : decode cX11_mean 1 = .ok (.iconst 0, 1) := by decide +kernel
theorem dX11_mean_2 : decode cX11_mean 2 = .ok (.putfield 49, 3) := by decide +kernel
theorem dX11_mean_5 : decode cX11_mean 5 = .ok (.aload_n 0, 1) := by decide +kernel
theorem dX11_mean_6 : decode cX11_mean 6 = .ok (.iload_n 1, 1) := by decide +kernel
theorem dX11_mean_7 : decode cX11_mean 7 = .ok (.invokevirtual 214, 3) := by decide +kernel
theorem dX11_mean_10 : decode cX11_mean 10 = .ok (.ifCond .ne 7, 3) := by decide +kernel
theorem dX11_mean_13 : decode cX11_mean 13 = .ok (.ldc2_w 251, 3) := by decide +kernel
theorem dX11_mean_16 : decode cX11_mean 16 = .ok (.lreturn, 1) := by decide +kernel
theorem dX11_mean_17 : decode cX11_mean 17 = .ok (.lconst 0, 1) := by decide +kernel
theorem dX11_mean_18 : decode cX11_mean 18 = .ok (.lstore_n 3, 1) := by decide +kernel
theorem dX11_mean_19 : decode cX11_mean 19 = .ok (.lconst 0, 1) := by decide +kernel
theorem dX11_mean_20 : decode cX11_mean 20 = .ok (.lstore 5, 2) := by decide +kernel
theorem dX11_mean_22 : decode cX11_mean 22 = .ok (.iconst 0, 1) := by decide +kernel
theorem dX11_mean_23 : decode cX11_mean 23 = .ok (.istore 7, 2) := by decide +kernel
theorem dX11_mean_25 : decode cX11_mean 25 = .ok (.iload 7, 2) := by decide +kernel
theorem dX11_mean_27 : decode cX11_mean 27 = .ok (.bipush 9, 2) := by decide +kernel
theorem dX11_mean_29 : decode cX11_mean 29 = .ok (.if_icmp .ge 35, 3) := by decide +kernel
theorem dX11_mean_32 : decode cX11_mean 32 = .ok (.lload_n 3, 1) := by decide +kernel
theorem dX11_mean_33 : decode cX11_mean 33 = .ok (.aload_n 0, 1) := by decide +kernel
theorem dX11_mean_34 : decode cX11_mean 34 = .ok (.iload_n 1, 1) := by decide +kernel
theorem dX11_mean_35 : decode cX11_mean 35 = .ok (.iload 7, 2) := by decide +kernel
theorem dX11_mean_37 : decode cX11_mean 37 = .ok (.invokevirtual 106, 3) := by decide +kernel
theorem dX11_mean_40 : decode cX11_mean 40 = .ok (.ladd, 1) := by decide +kernel
theorem dX11_mean_41 : decode cX11_mean 41 = .ok (.lstore_n 3, 1) := by decide +kernel
theorem dX11_mean_42 : decode cX11_mean 42 = .ok (.lload 5, 2) := by decide +kernel
theorem dX11_mean_44 : decode cX11_mean 44 = .ok (.iload 7, 2) := by decide +kernel
theorem dX11_mean_46 : decode cX11_mean 46 = .ok (.i2l, 1) := by decide +kernel
theorem dX11_mean_47 : decode cX11_mean 47 = .ok (.aload_n 0, 1) := by decide +kernel
theorem dX11_mean_48 : decode cX11_mean 48 = .ok (.iload_n 1, 1) := by decide +kernel
theorem dX11_mean_49 : decode cX11_mean 49 = .ok (.iload 7, 2) := by decide +kernel
theorem dX11_mean_51 : decode cX11_mean 51 = .ok (.invokevirtual 106, 3) := by decide +kernel
theorem dX11_mean_54 : decode cX11_mean 54 = .ok (.lmul, 1) := by decide +kernel
theorem dX11_mean_55 : decode cX11_mean 55 = .ok (.ladd, 1) := by decide +kernel
theorem dX11_mean_56 : decode cX11_mean 56 = .ok (.lstore 5, 2) := by decide +kernel
theorem dX11_mean_58 : decode cX11_mean 58 = .ok (.iinc 7 1, 3) := by decide +kernel
theorem dX11_mean_61 : decode cX11_mean 61 = .ok (.goto (-36), 3) := by decide +kernel
theorem dX11_mean_64 : decode cX11_mean 64 = .ok (.lload_n 3, 1) := by decide +kernel
theorem dX11_mean_65 : decode cX11_mean 65 = .ok (.lconst 0, 1) := by decide +kernel
theorem dX11_mean_66 : decode cX11_mean 66 = .ok (.lcmp, 1) := by decide +kernel
theorem dX11_mean_67 : decode cX11_mean 67 = .ok (.ifCond .ne 7, 3) := by decide +kernel
theorem dX11_mean_70 : decode cX11_mean 70 = .ok (.ldc2_w 251, 3) := by decide +kernel
theorem dX11_mean_73 : decode cX11_mean 73 = .ok (.lreturn, 1) := by decide +kernel
theorem dX11_mean_74 : decode cX11_mean 74 = .ok (.lload 5, 2) := by decide +kernel
theorem dX11_mean_76 : decode cX11_mean 76 = .ok (.lload_n 3, 1) := by decide +kernel
theorem dX11_mean_77 : decode cX11_mean 77 = .ok (.invokestatic 312, 3) := by decide +kernel
theorem dX11_mean_80 : decode cX11_mean 80 = .ok (.lload_n 3, 1) := by decide +kernel
theorem dX11_mean_81 : decode cX11_mean 81 = .ok (.lconst 0, 1) := by decide +kernel
theorem dX11_mean_82 : decode cX11_mean 82 = .ok (.lcmp, 1) := by decide +kernel
theorem dX11_mean_83 : decode cX11_mean 83 = .ok (.ifCond .ge 9, 3) := by decide +kernel
theorem dX11_mean_86 : decode cX11_mean 86 = .ok (.ldc2_w 316, 3) := by decide +kernel
theorem dX11_mean_89 : decode cX11_mean 89 = .ok (.goto 4, 3) := by decide +kernel
theorem dX11_mean_92 : decode cX11_mean 92 = .ok (.lconst 1, 1) := by decide +kernel
theorem dX11_mean_93 : decode cX11_mean 93 = .ok (.lmul, 1) := by decide +kernel
theorem dX11_mean_94 : decode cX11_mean 94 = .ok (.lstore 7, 2) := by decide +kernel
theorem dX11_mean_96 : decode cX11_mean 96 = .ok (.iload_n 2, 1) := by decide +kernel
theorem dX11_mean_97 : decode cX11_mean 97 = .ok (.ifCond .eq 10, 3) := by decide +kernel
theorem dX11_mean_100 : decode cX11_mean 100 = .ok (.lload_n 3, 1) := by decide +kernel
theorem dX11_mean_101 : decode cX11_mean 101 = .ok (.lload 7, 2) := by decide +kernel
theorem dX11_mean_103 : decode cX11_mean 103 = .ok (.ldiv, 1) := by decide +kernel
theorem dX11_mean_104 : decode cX11_mean 104 = .ok (.goto 8, 3) := by decide +kernel
theorem dX11_mean_107 : decode cX11_mean 107 = .ok (.lload 5, 2) := by decide +kernel
theorem dX11_mean_109 : decode cX11_mean 109 = .ok (.lload 7, 2) := by decide +kernel
theorem dX11_mean_111 : decode cX11_mean 111 = .ok (.ldiv, 1) := by decide +kernel
theorem dX11_mean_112 : decode cX11_mean 112 = .ok (.lreturn, 1) := by decide +kernel
theorem dJ6_numberOfTrailingZeros_0f7a4_0 : decode cJ6_numberOfTrailingZeros_0f7a4 0 = .ok (.iload_n 0, 1) := by decide +kernel
theorem dJ6_numberOfTrailingZeros_0f7a4_1 : decode cJ6_numberOfTrailingZeros_0f7a4 1 = .ok (.iconst (-1), 1) := by decide +kernel
theorem dJ6_numberOfTrailingZeros_0f7a4_2 : decode cJ6_numberOfTrailingZeros_0f7a4 2 = .ok (.ixor, 1) := by decide +kernel
theorem dJ6_numberOfTrailingZeros_0f7a4_3 : decode cJ6_numberOfTrailingZeros_0f7a4 3 = .ok (.iload_n 0, 1) := by decide +kernel
theorem dJ6_numberOfTrailingZeros_0f7a4_4 : decode cJ6_numberOfTrailingZeros_0f7a4 4 = .ok (.iconst 1, 1) := by decide +kernel
theorem dJ6_numberOfTrailingZeros_0f7a4_5 : decode cJ6_numberOfTrailingZeros_0f7a4 5 = .ok (.isub, 1) := by decide +kernel
theorem dJ6_numberOfTrailingZeros_0f7a4_6 : decode cJ6_numberOfTrailingZeros_0f7a4 6 = .ok (.iand, 1) := by decide +kernel
theorem dJ6_numberOfTrailingZeros_0f7a4_7 : decode cJ6_numberOfTrailingZeros_0f7a4 7 = .ok (.istore_n 0, 1) := by decide +kernel
theorem dJ6_numberOfTrailingZeros_0f7a4_8 : decode cJ6_numberOfTrailingZeros_0f7a4 8 = .ok (.iload_n 0, 1) := by decide +kernel
theorem dJ6_numberOfTrailingZeros_0f7a4_9 : decode cJ6_numberOfTrailingZeros_0f7a4 9 = .ok (.ifCond .gt 8, 3) := by decide +kernel
theorem dJ6_numberOfTrailingZeros_0f7a4_12 : decode cJ6_numberOfTrailingZeros_0f7a4 12 = .ok (.iload_n 0, 1) := by decide +kernel
theorem dJ6_numberOfTrailingZeros_0f7a4_13 : decode cJ6_numberOfTrailingZeros_0f7a4 13 = .ok (.bipush 32, 2) := by decide +kernel
theorem dJ6_numberOfTrailingZeros_0f7a4_15 : decode cJ6_numberOfTrailingZeros_0f7a4 15 = .ok (.iand, 1) := by decide +kernel
theorem dJ6_numberOfTrailingZeros_0f7a4_16 : decode cJ6_numberOfTrailingZeros_0f7a4 16 = .ok (.ireturn, 1) := by decide +kernel
theorem dJ6_numberOfTrailingZeros_0f7a4_17 : decode cJ6_numberOfTrailingZeros_0f7a4 17 = .ok (.iconst 1, 1) := by decide +kernel
theorem dJ6_numberOfTrailingZeros_0f7a4_18 : decode cJ6_numberOfTrailingZeros_0f7a4 18 = .ok (.istore_n 1, 1) := by decide +kernel
theorem dJ6_numberOfTrailingZeros_0f7a4_19 : decode cJ6_numberOfTrailingZeros_0f7a4 19 = .ok (.iload_n 0, 1) := by decide +kernel
theorem dJ6_numberOfTrailingZeros_0f7a4_20 : decode cJ6_numberOfTrailingZeros_0f7a4 20 = .ok (.ldc_w 264, 3) := by decide +kernel
theorem dJ6_numberOfTrailingZeros_0f7a4_23 : decode cJ6_numberOfTrailingZeros_0f7a4 23 = .ok (.if_icmp .le 11, 3) := by decide +kernel
theorem dJ6_numberOfTrailingZeros_0f7a4_26 : decode cJ6_numberOfTrailingZeros_0f7a4 26 = .ok (.iinc 1 16, 3) := by decide +kernel
theorem dJ6_numberOfTrailingZeros_0f7a4_29 : decode cJ6_numberOfTrailingZeros_0f7a4 29 = .ok (.iload_n 0, 1) := by decide +kernel
theorem dJ6_numberOfTrailingZeros_0f7a4_30 : decode cJ6_numberOfTrailingZeros_0f7a4 30 = .ok (.bipush 16, 2) := by decide +kernel
theorem dJ6_numberOfTrailingZeros_0f7a4_32 : decode cJ6_numberOfTrailingZeros_0f7a4 32 = .ok (.iushr, 1) := by decide +kernel
theorem dJ6_numberOfTrailingZeros_0f7a4_33 : decode cJ6_numberOfTrailingZeros_0f7a4 33 = .ok (.istore_n 0, 1) := by decide +kernel
theorem dJ6_numberOfTrailingZeros_0f7a4_34 : decode cJ6_numberOfTrailingZeros_0f7a4 34 = .ok (.iload_n 0, 1) := by decide +kernel
theorem dJ6_numberOfTrailingZeros_0f7a4_35 : decode cJ6_numberOfTrailingZeros_0f7a4 35 = .ok (.sipush 256, 3) := by decide +kernel
theorem dJ6_numberOfTrailingZeros_0f7a4_38 : decode cJ6_numberOfTrailingZeros_0f7a4 38 = .ok (.if_icmp .le 11, 3) := by decide +kernel
theorem dJ6_numberOfTrailingZeros_0f7a4_41 : decode cJ6_numberOfTrailingZeros_0f7a4 41 = .ok (.iinc 1 8, 3) := by decide +kernel
theorem dJ6_numberOfTrailingZeros_0f7a4_44 : decode cJ6_numberOfTrailingZeros_0f7a4 44 = .ok (.iload_n 0, 1) := by decide +kernel
theorem dJ6_numberOfTrailingZeros_0f7a4_45 : decode cJ6_numberOfTrailingZeros_0f7a4 45 = .ok (.bipush 8, 2) := by decide +kernel
theorem dJ6_numberOfTrailingZeros_0f7a4_47 : decode cJ6_numberOfTrailingZeros_0f7a4 47 = .ok (.iushr, 1) := by decide +kernel
theorem dJ6_numberOfTrailingZeros_0f7a4_48 : decode cJ6_numberOfTrailingZeros_0f7a4 48 = .ok (.istore_n 0, 1) := by decide +kernel
theorem dJ6_numberOfTrailingZeros_0f7a4_49 : decode cJ6_numberOfTrailingZeros_0f7a4 49 = .ok (.iload_n 0, 1) := by decide +kernel
theorem dJ6_numberOfTrailingZeros_0f7a4_50 : decode cJ6_numberOfTrailingZeros_0f7a4 50 = .ok (.bipush 16, 2) := by decide +kernel
theorem dJ6_numberOfTrailingZeros_0f7a4_52 : decode cJ6_numberOfTrailingZeros_0f7a4 52 = .ok (.if_icmp .le 10, 3) := by decide +kernel
theorem dJ6_numberOfTrailingZeros_0f7a4_55 : decode cJ6_numberOfTrailingZeros_0f7a4 55 = .ok (.iinc 1 4, 3) := by decide +kernel
theorem dJ6_numberOfTrailingZeros_0f7a4_58 : decode cJ6_numberOfTrailingZeros_0f7a4 58 = .ok (.iload_n 0, 1) := by decide +kernel
theorem dJ6_numberOfTrailingZeros_0f7a4_59 : decode cJ6_numberOfTrailingZeros_0f7a4 59 = .ok (.iconst 4, 1) := by decide +kernel
theorem dJ6_numberOfTrailingZeros_0f7a4_60 : decode cJ6_numberOfTrailingZeros_0f7a4 60 = .ok (.iushr, 1) := by decide +kernel
theorem dJ6_numberOfTrailingZeros_0f7a4_61 : decode cJ6_numberOfTrailingZeros_0f7a4 61 = .ok (.istore_n 0, 1) := by decide +kernel
theorem dJ6_numberOfTrailingZeros_0f7a4_62 : decode cJ6_numberOfTrailingZeros_0f7a4 62 = .ok (.iload_n 0, 1) := by decide +kernel
theorem dJ6_numberOfTrailingZeros_0f7a4_63 : decode cJ6_numberOfTrailingZeros_0f7a4 63 = .ok (.iconst 4, 1) := by decide +kernel
theorem dJ6_numberOfTrailingZeros_0f7a4_64 : decode cJ6_numberOfTrailingZeros_0f7a4 64 = .ok (.if_icmp .le 10, 3) := by decide +kernel
theorem dJ6_numberOfTrailingZeros_0f7a4_67 : decode cJ6_numberOfTrailingZeros_0f7a4 67 = .ok (.iinc 1 2, 3) := by decide +kernel
theorem dJ6_numberOfTrailingZeros_0f7a4_70 : decode cJ6_numberOfTrailingZeros_0f7a4 70 = .ok (.iload_n 0, 1) := by decide +kernel
theorem dJ6_numberOfTrailingZeros_0f7a4_71 : decode cJ6_numberOfTrailingZeros_0f7a4 71 = .ok (.iconst 2, 1) := by decide +kernel
theorem dJ6_numberOfTrailingZeros_0f7a4_72 : decode cJ6_numberOfTrailingZeros_0f7a4 72 = .ok (.iushr, 1) := by decide +kernel
theorem dJ6_numberOfTrailingZeros_0f7a4_73 : decode cJ6_numberOfTrailingZeros_0f7a4 73 = .ok (.istore_n 0, 1) := by decide +kernel
theorem dJ6_numberOfTrailingZeros_0f7a4_74 : decode cJ6_numberOfTrailingZeros_0f7a4 74 = .ok (.iload_n 1, 1) := by decide +kernel
theorem dJ6_numberOfTrailingZeros_0f7a4_75 : decode cJ6_numberOfTrailingZeros_0f7a4 75 = .ok (.iload_n 0, 1) := by decide +kernel
theorem dJ6_numberOfTrailingZeros_0f7a4_76 : decode cJ6_numberOfTrailingZeros_0f7a4 76 = .ok (.iconst 1, 1) := by decide +kernel
theorem dJ6_numberOfTrailingZeros_0f7a4_77 : decode cJ6_numberOfTrailingZeros_0f7a4 77 = .ok (.iushr, 1) := by decide +kernel
theorem dJ6_numberOfTrailingZeros_0f7a4_78 : decode cJ6_numberOfTrailingZeros_0f7a4 78 = .ok (.iadd, 1) := by decide +kernel
theorem dJ6_numberOfTrailingZeros_0f7a4_79 : decode cJ6_numberOfTrailingZeros_0f7a4 79 = .ok (.ireturn, 1) := by decide +kernel
theorem dJ13_numberOfTrailingZeros_95d88_0 : decode cJ13_numberOfTrailingZeros_95d88 0 = .ok (.lload_n 0, 1) := by decide +kernel
theorem dJ13_numberOfTrailingZeros_95d88_1 : decode cJ13_numberOfTrailingZeros_95d88 1 = .ok (.l2i, 1) := by decide +kernel
theorem dJ13_numberOfTrailingZeros_95d88_2 : decode cJ13_numberOfTrailingZeros_95d88 2 = .ok (.istore_n 2, 1) := by decide +kernel
theorem dJ13_numberOfTrailingZeros_95d88_3 : decode cJ13_numberOfTrailingZeros_95d88 3 = .ok (.iload_n 2, 1) := by decide +kernel
theorem dJ13_numberOfTrailingZeros_95d88_4 : decode cJ13_numberOfTrailingZeros_95d88 4 = .ok (.ifCond .ne 17, 3) := by decide +kernel
theorem dJ13_numberOfTrailingZeros_95d88_7 : decode cJ13_numberOfTrailingZeros_95d88 7 = .ok (.bipush 32, 2) := by decide +kernel
theorem dJ13_numberOfTrailingZeros_95d88_9 : decode cJ13_numberOfTrailingZeros_95d88 9 = .ok (.lload_n 0, 1) := by decide +kernel
theorem dJ13_numberOfTrailingZeros_95d88_10 : decode cJ13_numberOfTrailingZeros_95d88 10 = .ok (.bipush 32, 2) := by decide +kernel
theorem dJ13_numberOfTrailingZeros_95d88_12 : decode cJ13_numberOfTrailingZeros_95d88 12 = .ok (.lushr, 1) := by decide +kernel
theorem dJ13_numberOfTrailingZeros_95d88_13 : decode cJ13_numberOfTrailingZeros_95d88 13 = .ok (.l2i, 1) := by decide +kernel
theorem dJ13_numberOfTrailingZeros_95d88_14 : decode cJ13_numberOfTrailingZeros_95d88 14 = .ok (.invokestatic 311, 3) := by decide +kernel
theorem dJ13_numberOfTrailingZeros_95d88_17 : decode cJ13_numberOfTrailingZeros_95d88 17 = .ok (.iadd, 1) := by decide +kernel
theorem dJ13_numberOfTrailingZeros_95d88_18 : decode cJ13_numberOfTrailingZeros_95d88 18 = .ok (.goto 7, 3) := by decide +kernel
theorem dJ13_numberOfTrailingZeros_95d88_21 : decode cJ13_numberOfTrailingZeros_95d88 21 = .ok (.iload_n 2, 1) := by decide +kernel
theorem dJ13_numberOfTrailingZeros_95d88_22 : decode cJ13_numberOfTrailingZeros_95d88 22 = .ok (.invokestatic 311, 3) := by decide +kernel
theorem dJ13_numberOfTrailingZeros_95d88_25 : decode cJ13_numberOfTrailingZeros_95d88 25 = .ok (.ireturn, 1) := by decide +kernel
theorem dJ13_signum_95d88_0 : decode cJ13_signum_95d88 0 = .ok (.lload_n 0, 1) := by decide +kernel
theorem dJ13_signum_95d88_1 : decode cJ13_signum_95d88 1 = .ok (.bipush 63, 2) := by decide +kernel
theorem dJ13_signum_95d88_3 : decode cJ13_signum_95d88 3 = .ok (.lshr, 1) := by decide +kernel
theorem dJ13_signum_95d88_4 : decode cJ13_signum_95d88 4 = .ok (.lload_n 0, 1) := by decide +kernel
theorem dJ13_signum_95d88_5 : decode cJ13_signum_95d88 5 = .ok (.lneg, 1) := by decide +kernel
theorem dJ13_signum_95d88_6 : decode cJ13_signum_95d88 6 = .ok (.bipush 63, 2) := by decide +kernel
theorem dJ13_signum_95d88_8 : decode cJ13_signum_95d88 8 = .ok (.lushr, 1) := by decide +kernel
theorem dJ13_signum_95d88_9 : decode cJ13_signum_95d88 9 = .ok (.lor, 1) := by decide +kernel
theorem dJ13_signum_95d88_10 : decode cJ13_signum_95d88 10 = .ok (.l2i, 1) := by decide +kernel
theorem dJ13_signum_95d88_11 : decode cJ13_signum_95d88 11 = .ok (.ireturn, 1) := by decide +kernel
theorem dJ9_abs_067f4_0 : decode cJ9_abs_067f4 0 = .ok (.lload_n 0, 1) := by decide +kernel
theorem dJ9_abs_067f4_1 : decode cJ9_abs_067f4 1 = .ok (.lconst 0, 1) := by decide +kernel
theorem dJ9_abs_067f4_2 : decode cJ9_abs_067f4 2 = .ok (.lcmp, 1) := by decide +kernel
theorem dJ9_abs_067f4_3 : decode cJ9_abs_067f4 3 = .ok (.ifCond .ge 8, 3) := by decide +kernel
theorem dJ9_abs_067f4_6 : decode cJ9_abs_067f4 6 = .ok (.lload_n 0, 1) := by decide +kernel
theorem dJ9_abs_067f4_7 : decode cJ9_abs_067f4 7 = .ok (.lneg, 1) := by decide +kernel
theorem dJ9_abs_067f4_8 : decode cJ9_abs_067f4 8 = .ok (.goto 4, 3) := by decide +kernel
theorem dJ9_abs_067f4_11 : decode cJ9_abs_067f4 11 = .ok (.lload_n 0, 1) := by decide +kernel
theorem dJ9_abs_067f4_12 : decode cJ9_abs_067f4 12 = .ok (.lreturn, 1) := by decide +kernel
theorem dJ9_max_7cf53_0 : decode cJ9_max_7cf53 0 = .ok (.iload_n 0, 1) := by decide +kernel
theorem dJ9_max_7cf53_1 : decode cJ9_max_7cf53 1 = .ok (.iload_n 1, 1) := by decide +kernel
theorem dJ9_max_7cf53_2 : decode cJ9_max_7cf53 2 = .ok (.if_icmp .lt 7, 3) := by decide +kernel
theorem dJ9_max_7cf53_5 : decode cJ9_max_7cf53 5 = .ok (.iload_n 0, 1) := by decide +kernel
theorem dJ9_max_7cf53_6 : decode cJ9_max_7cf53 6 = .ok (.goto 4, 3) := by decide +kernel
theorem dJ9_max_7cf53_9 : decode cJ9_max_7cf53 9 = .ok (.iload_n 1, 1) := by decide +kernel
theorem dJ9_max_7cf53_10 : decode cJ9_max_7cf53 10 = .ok (.ireturn, 1) := by decide +kernel
theorem dJ9_min_7cf53_0 : decode cJ9_min_7cf53 0 = .ok (.iload_n 0, 1) := by decide +kernel
theorem dJ9_min_7cf53_1 : decode cJ9_min_7cf53 1 = .ok (.iload_n 1, 1) := by decide +kernel
theorem dJ9_min_7cf53_2 : decode cJ9_min_7cf53 2 = .ok (.if_icmp .gt 7, 3) := by decide +kernel
theorem dJ9_min_7cf53_5 : decode cJ9_min_7cf53 5 = .ok (.iload_n 0, 1) := by decide +kernel
theorem dJ9_min_7cf53_6 : decode cJ9_min_7cf53 6 = .ok (.goto 4, 3) := by decide +kernel
theorem dJ9_min_7cf53_9 : decode cJ9_min_7cf53 9 = .ok (.iload_n 1, 1) := by decide +kernel
theorem dJ9_min_7cf53_10 : decode cJ9_min_7cf53 10 = .ok (.ireturn, 1) := by decide +kernel
theorem dJ9_min_f86c9_0 : decode cJ9_min_f86c9 0 = .ok (.lload_n 0, 1) := by decide +kernel
theorem dJ9_min_f86c9_1 : decode cJ9_min_f86c9 1 = .ok (.lload_n 2, 1) := by decide +kernel
theorem dJ9_min_f86c9_2 : decode cJ9_min_f86c9 2 = .ok (.lcmp, 1) := by decide +kernel
theorem dJ9_min_f86c9_3 : decode cJ9_min_f86c9 3 = .ok (.ifCond .gt 7, 3) := by decide +kernel
theorem dJ9_min_f86c9_6 : decode cJ9_min_f86c9 6 = .ok (.lload_n 0, 1) := by decide +kernel
theorem dJ9_min_f86c9_7 : decode cJ9_min_f86c9 7 = .ok (.goto 4, 3) := by decide +kernel
theorem dJ9_min_f86c9_10 : decode cJ9_min_f86c9 10 = .ok (.lload_n 2, 1) := by decide +kernel
theorem dJ9_min_f86c9_11 : decode cJ9_min_f86c9 11 = .ok (.lreturn, 1) := by decide +kernel
theorem dL_law_0 : decode cL_law 0 = .ok (.new 7, 3) := by decide +kernel
theorem dL_law_3 : decode cL_law 3 = .ok (.dup, 1) := by decide +kernel
theorem dL_law_4 : decode cL_law 4 = .ok (.invokespecial 9, 3) := by decide +kernel
theorem dL_law_7 : decode cL_law 7 = .ok (.astore_n 1, 1) := by decide +kernel
theorem dL_law_8 : decode cL_law 8 = .ok (.new 10, 3) := by decide +kernel
theorem dL_law_11 : decode cL_law 11 = .ok (.dup, 1) := by decide +kernel
theorem dL_law_12 : decode cL_law 12 = .ok (.invokespecial 12, 3) := by decide +kernel
theorem dL_law_15 : decode cL_law 15 = .ok (.astore_n 2, 1) := by decide +kernel
theorem dL_law_16 : decode cL_law 16 = .ok (.iconst 0, 1) := by decide +kernel
theorem dL_law_17 : decode cL_law 17 = .ok (.istore_n 3, 1) := by decide +kernel
theorem dL_law_18 : decode cL_law 18 = .ok (.iload_n 3, 1) := by decide +kernel
theorem dL_law_19 : decode cL_law 19 = .ok (.aload_n 0, 1) := by decide +kernel
theorem dL_law_20 : decode cL_law 20 = .ok (.arraylength, 1) := by decide +kernel
theorem dL_law_21 : decode cL_law 21 = .ok (.bipush 6, 2) := by decide +kernel
theorem dL_law_23 : decode cL_law 23 = .ok (.isub, 1) := by decide +kernel
theorem dL_law_24 : decode cL_law 24 = .ok (.if_icmp .gt 879, 3) := by decide +kernel
theorem dL_law_27 : decode cL_law 27 = .ok (.aload_n 0, 1) := by decide +kernel
theorem dL_law_28 : decode cL_law 28 = .ok (.iload_n 3, 1) := by decide +kernel
theorem dL_law_29 : decode cL_law 29 = .ok (.iaload, 1) := by decide +kernel
theorem dL_law_30 : decode cL_law 30 = .ok (.bipush 31, 2) := by decide +kernel
theorem dL_law_32 : decode cL_law 32 = .ok (.iand, 1) := by decide +kernel
theorem dL_law_33 : decode cL_law 33 = .ok (.tableswitch 864 0 19 #[95, 158, 181, 204, 217, 260, 313, 376, 419, 453, 486, 530, 563, 606, 649, 682, 715, 758, 781, 814], 95) := by decide +kernel
theorem dL_law_128 : decode cL_law 128 = .ok (.aload_n 1, 1) := by decide +kernel
theorem dL_law_129 : decode cL_law 129 = .ok (.aload_n 0, 1) := by decide +kernel
theorem dL_law_130 : decode cL_law 130 = .ok (.iload_n 3, 1) := by decide +kernel
theorem dL_law_131 : decode cL_law 131 = .ok (.iconst 1, 1) := by decide +kernel
theorem dL_law_132 : decode cL_law 132 = .ok (.iadd, 1) := by decide +kernel
theorem dL_law_133 : decode cL_law 133 = .ok (.iaload, 1) := by decide +kernel
theorem dL_law_134 : decode cL_law 134 = .ok (.aload_n 0, 1) := by decide +kernel
theorem dL_law_135 : decode cL_law 135 = .ok (.iload_n 3, 1) := by decide +kernel
theorem dL_law_136 : decode cL_law 136 = .ok (.iconst 2, 1) := by decide +kernel
theorem dL_law_137 : decode cL_law 137 = .ok (.iadd, 1) := by decide +kernel
theorem dL_law_138 : decode cL_law 138 = .ok (.iaload, 1) := by decide +kernel
theorem dL_law_139 : decode cL_law 139 = .ok (.aload_n 0, 1) := by decide +kernel
theorem dL_law_140 : decode cL_law 140 = .ok (.iload_n 3, 1) := by decide +kernel
theorem dL_law_141 : decode cL_law 141 = .ok (.iconst 3, 1) := by decide +kernel
theorem dL_law_142 : decode cL_law 142 = .ok (.iadd, 1) := by decide +kernel
theorem dL_law_143 : decode cL_law 143 = .ok (.iaload, 1) := by decide +kernel
theorem dL_law_144 : decode cL_law 144 = .ok (.aload_n 0, 1) := by decide +kernel
theorem dL_law_145 : decode cL_law 145 = .ok (.iload_n 3, 1) := by decide +kernel
theorem dL_law_146 : decode cL_law 146 = .ok (.iconst 4, 1) := by decide +kernel
theorem dL_law_147 : decode cL_law 147 = .ok (.iadd, 1) := by decide +kernel
theorem dL_law_148 : decode cL_law 148 = .ok (.iaload, 1) := by decide +kernel
theorem dL_law_149 : decode cL_law 149 = .ok (.aload_n 0, 1) := by decide +kernel
theorem dL_law_150 : decode cL_law 150 = .ok (.iload_n 3, 1) := by decide +kernel
theorem dL_law_151 : decode cL_law 151 = .ok (.iconst 5, 1) := by decide +kernel
theorem dL_law_152 : decode cL_law 152 = .ok (.iadd, 1) := by decide +kernel
theorem dL_law_153 : decode cL_law 153 = .ok (.iaload, 1) := by decide +kernel
theorem dL_law_154 : decode cL_law 154 = .ok (.invokevirtual 13, 3) := by decide +kernel
theorem dL_law_157 : decode cL_law 157 = .ok (.aload_n 2, 1) := by decide +kernel
theorem dL_law_158 : decode cL_law 158 = .ok (.aload_n 0, 1) := by decide +kernel
theorem dL_law_159 : decode cL_law 159 = .ok (.iload_n 3, 1) := by decide +kernel
theorem dL_law_160 : decode cL_law 160 = .ok (.iconst 1, 1) := by decide +kernel
theorem dL_law_161 : decode cL_law 161 = .ok (.iadd, 1) := by decide +kernel
theorem dL_law_162 : decode cL_law 162 = .ok (.iaload, 1) := by decide +kernel
theorem dL_law_163 : decode cL_law 163 = .ok (.aload_n 0, 1) := by decide +kernel
theorem dL_law_164 : decode cL_law 164 = .ok (.iload_n 3, 1) := by decide +kernel
theorem dL_law_165 : decode cL_law 165 = .ok (.iconst 2, 1) := by decide +kernel
theorem dL_law_166 : decode cL_law 166 = .ok (.iadd, 1) := by decide +kernel
theorem dL_law_167 : decode cL_law 167 = .ok (.iaload, 1) := by decide +kernel
theorem dL_law_168 : decode cL_law 168 = .ok (.aload_n 0, 1) := by decide +kernel
theorem dL_law_169 : decode cL_law 169 = .ok (.iload_n 3, 1) := by decide +kernel
theorem dL_law_170 : decode cL_law 170 = .ok (.iconst 3, 1) := by decide +kernel
theorem dL_law_171 : decode cL_law 171 = .ok (.iadd, 1) := by decide +kernel
theorem dL_law_172 : decode cL_law 172 = .ok (.iaload, 1) := by decide +kernel
theorem dL_law_173 : decode cL_law 173 = .ok (.aload_n 0, 1) := by decide +kernel
theorem dL_law_174 : decode cL_law 174 = .ok (.iload_n 3, 1) := by decide +kernel
theorem dL_law_175 : decode cL_law 175 = .ok (.iconst 4, 1) := by decide +kernel
theorem dL_law_176 : decode cL_law 176 = .ok (.iadd, 1) := by decide +kernel
theorem dL_law_177 : decode cL_law 177 = .ok (.iaload, 1) := by decide +kernel
theorem dL_law_178 : decode cL_law 178 = .ok (.aload_n 0, 1) := by decide +kernel
theorem dL_law_179 : decode cL_law 179 = .ok (.iload_n 3, 1) := by decide +kernel
theorem dL_law_180 : decode cL_law 180 = .ok (.iconst 5, 1) := by decide +kernel
theorem dL_law_181 : decode cL_law 181 = .ok (.iadd, 1) := by decide +kernel
theorem dL_law_182 : decode cL_law 182 = .ok (.iaload, 1) := by decide +kernel
theorem dL_law_183 : decode cL_law 183 = .ok (.invokevirtual 17, 3) := by decide +kernel
theorem dL_law_186 : decode cL_law 186 = .ok (.if_icmp .eq 711, 3) := by decide +kernel
theorem dL_law_189 : decode cL_law 189 = .ok (.iconst 0, 1) := by decide +kernel
theorem dL_law_190 : decode cL_law 190 = .ok (.ireturn, 1) := by decide +kernel
theorem dL_law_191 : decode cL_law 191 = .ok (.aload_n 1, 1) := by decide +kernel
theorem dL_law_192 : decode cL_law 192 = .ok (.aload_n 0, 1) := by decide +kernel
theorem dL_law_193 : decode cL_law 193 = .ok (.iload_n 3, 1) := by decide +kernel
theorem dL_law_194 : decode cL_law 194 = .ok (.iconst 1, 1) := by decide +kernel
theorem dL_law_195 : decode cL_law 195 = .ok (.iadd, 1) := by decide +kernel
theorem dL_law_196 : decode cL_law 196 = .ok (.iaload, 1) := by decide +kernel
theorem dL_law_197 : decode cL_law 197 = .ok (.invokevirtual 18, 3) := by decide +kernel
theorem dL_law_200 : decode cL_law 200 = .ok (.aload_n 2, 1) := by decide +kernel
theorem dL_law_201 : decode cL_law 201 = .ok (.aload_n 0, 1) := by decide +kernel
theorem dL_law_202 : decode cL_law 202 = .ok (.iload_n 3, 1) := by decide +kernel
theorem dL_law_203 : decode cL_law 203 = .ok (.iconst 1, 1) := by decide +kernel
theorem dL_law_204 : decode cL_law 204 = .ok (.iadd, 1) := by decide +kernel
theorem dL_law_205 : decode cL_law 205 = .ok (.iaload, 1) := by decide +kernel
theorem dL_law_206 : decode cL_law 206 = .ok (.invokevirtual 22, 3) := by decide +kernel
theorem dL_law_209 : decode cL_law 209 = .ok (.if_icmp .eq 688, 3) := by decide +kernel
theorem dL_law_212 : decode cL_law 212 = .ok (.iconst 0, 1) := by decide +kernel
theorem dL_law_213 : decode cL_law 213 = .ok (.ireturn, 1) := by decide +kernel
theorem dL_law_214 : decode cL_law 214 = .ok (.aload_n 1, 1) := by decide +kernel
theorem dL_law_215 : decode cL_law 215 = .ok (.aload_n 0, 1) := by decide +kernel
theorem dL_law_216 : decode cL_law 216 = .ok (.iload_n 3, 1) := by decide +kernel
theorem dL_law_217 : decode cL_law 217 = .ok (.iconst 1, 1) := by decide +kernel
theorem dL_law_218 : decode cL_law 218 = .ok (.iadd, 1) := by decide +kernel
theorem dL_law_219 : decode cL_law 219 = .ok (.iaload, 1) := by decide +kernel
theorem dL_law_220 : decode cL_law 220 = .ok (.invokevirtual 23, 3) := by decide +kernel
theorem dL_law_223 : decode cL_law 223 = .ok (.aload_n 2, 1) := by decide +kernel
theorem dL_law_224 : decode cL_law 224 = .ok (.aload_n 0, 1) := by decide +kernel
theorem dL_law_225 : decode cL_law 225 = .ok (.iload_n 3, 1) := by decide +kernel
theorem dL_law_226 : decode cL_law 226 = .ok (.iconst 1, 1) := by decide +kernel
theorem dL_law_227 : decode cL_law 227 = .ok (.iadd, 1) := by decide +kernel
theorem dL_law_228 : decode cL_law 228 = .ok (.iaload, 1) := by decide +kernel
theorem dL_law_229 : decode cL_law 229 = .ok (.invokevirtual 26, 3) := by decide +kernel
theorem dL_law_232 : decode cL_law 232 = .ok (.if_icmp .eq 665, 3) := by decide +kernel
theorem dL_law_235 : decode cL_law 235 = .ok (.iconst 0, 1) := by decide +kernel
theorem dL_law_236 : decode cL_law 236 = .ok (.ireturn, 1) := by decide +kernel
theorem dL_law_237 : decode cL_law 237 = .ok (.aload_n 1, 1) := by decide +kernel
theorem dL_law_238 : decode cL_law 238 = .ok (.invokevirtual 27, 3) := by decide +kernel
theorem dL_law_241 : decode cL_law 241 = .ok (.aload_n 2, 1) := by decide +kernel
theorem dL_law_242 : decode cL_law 242 = .ok (.invokevirtual 31, 3) := by decide +kernel
theorem dL_law_245 : decode cL_law 245 = .ok (.if_icmp .eq 652, 3) := by decide +kernel
theorem dL_law_248 : decode cL_law 248 = .ok (.iconst 0, 1) := by decide +kernel
theorem dL_law_249 : decode cL_law 249 = .ok (.ireturn, 1) := by decide +kernel
theorem dL_law_250 : decode cL_law 250 = .ok (.aload_n 1, 1) := by decide +kernel
theorem dL_law_251 : decode cL_law 251 = .ok (.aload_n 0, 1) := by decide +kernel
theorem dL_law_252 : decode cL_law 252 = .ok (.iload_n 3, 1) := by decide +kernel
theorem dL_law_253 : decode cL_law 253 = .ok (.iconst 1, 1) := by decide +kernel
theorem dL_law_254 : decode cL_law 254 = .ok (.iadd, 1) := by decide +kernel
theorem dL_law_255 : decode cL_law 255 = .ok (.iaload, 1) := by decide +kernel
theorem dL_law_256 : decode cL_law 256 = .ok (.aload_n 0, 1) := by decide +kernel
theorem dL_law_257 : decode cL_law 257 = .ok (.iload_n 3, 1) := by decide +kernel
theorem dL_law_258 : decode cL_law 258 = .ok (.iconst 2, 1) := by decide +kernel
theorem dL_law_259 : decode cL_law 259 = .ok (.iadd, 1) := by decide +kernel
theorem dL_law_260 : decode cL_law 260 = .ok (.iaload, 1) := by decide +kernel
theorem dL_law_261 : decode cL_law 261 = .ok (.aload_n 0, 1) := by decide +kernel
theorem dL_law_262 : decode cL_law 262 = .ok (.iload_n 3, 1) := by decide +kernel
theorem dL_law_263 : decode cL_law 263 = .ok (.iconst 3, 1) := by decide +kernel
theorem dL_law_264 : decode cL_law 264 = .ok (.iadd, 1) := by decide +kernel
theorem dL_law_265 : decode cL_law 265 = .ok (.iaload, 1) := by decide +kernel
theorem dL_law_266 : decode cL_law 266 = .ok (.invokevirtual 32, 3) := by decide +kernel
theorem dL_law_269 : decode cL_law 269 = .ok (.aload_n 2, 1) := by decide +kernel
theorem dL_law_270 : decode cL_law 270 = .ok (.aload_n 0, 1) := by decide +kernel
theorem dL_law_271 : decode cL_law 271 = .ok (.iload_n 3, 1) := by decide +kernel
theorem dL_law_272 : decode cL_law 272 = .ok (.iconst 1, 1) := by decide +kernel
theorem dL_law_273 : decode cL_law 273 = .ok (.iadd, 1) := by decide +kernel
theorem dL_law_274 : decode cL_law 274 = .ok (.iaload, 1) := by decide +kernel
theorem dL_law_275 : decode cL_law 275 = .ok (.aload_n 0, 1) := by decide +kernel
theorem dL_law_276 : decode cL_law 276 = .ok (.iload_n 3, 1) := by decide +kernel
theorem dL_law_277 : decode cL_law 277 = .ok (.iconst 2, 1) := by decide +kernel
theorem dL_law_278 : decode cL_law 278 = .ok (.iadd, 1) := by decide +kernel
theorem dL_law_279 : decode cL_law 279 = .ok (.iaload, 1) := by decide +kernel
