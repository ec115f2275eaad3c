theorem dX0_init_0 : decode cX0_init 0 = .ok (.aload_n 0, 1) := by decide +kernel
theorem dX0_init_1 : decode cX0_init 1 = .ok (.invokespecial 3, 3) := by decide +kernel
theorem dX0_init_4 : decode cX0_init 4 = .ok (.aload_n 0, 1) := by decide +kernel
theorem dX0_init_5 : decode cX0_init 5 = .ok (.iload_n 1, 1) := by decide +kernel
theorem dX0_init_6 : decode cX0_init 6 = .ok (.iconst 4, 1) := by decide +kernel
theorem dX0_init_7 : decode cX0_init 7 = .ok (.invokestatic 9, 3) := by decide +kernel
theorem dX0_init_10 : decode cX0_init 10 = .ok (.newarray .long, 2) := by decide +kernel
theorem dX0_init_12 : decode cX0_init 12 = .ok (.putfield 15, 3) := by decide +kernel
theorem dX0_init_15 : decode cX0_init 15 = .ok (.aload_n 0, 1) := by decide +kernel
theorem dX0_init_16 : decode cX0_init 16 = .ok (.iconst 1, 1) := by decide +kernel
theorem dX0_init_17 : decode cX0_init 17 = .ok (.putfield 19, 3) := by decide +kernel
theorem dX0_init_20 : decode cX0_init 20 = .ok (.return_, 1) := by decide +kernel
theorem dX0_set_0 : decode cX0_set 0 = .ok (.aload_n 0, 1) := by decide +kernel
theorem dX0_set_1 : decode cX0_set 1 = .ok (.getfield 15, 3) := by decide +kernel
theorem dX0_set_4 : decode cX0_set 4 = .ok (.iconst 0, 1) := by decide +kernel
theorem dX0_set_5 : decode cX0_set 5 = .ok (.lload_n 1, 1) := by decide +kernel
theorem dX0_set_6 : decode cX0_set 6 = .ok (.ldc2_w 23, 3) := by decide +kernel
theorem dX0_set_9 : decode cX0_set 9 = .ok (.land, 1) := by decide +kernel
theorem dX0_set_10 : decode cX0_set 10 = .ok (.lastore, 1) := by decide +kernel
theorem dX0_set_11 : decode cX0_set 11 = .ok (.aload_n 0, 1) := by decide +kernel
theorem dX0_set_12 : decode cX0_set 12 = .ok (.getfield 15, 3) := by decide +kernel
theorem dX0_set_15 : decode cX0_set 15 = .ok (.iconst 1, 1) := by decide +kernel
theorem dX0_set_16 : decode cX0_set 16 = .ok (.lload_n 1, 1) := by decide +kernel
theorem dX0_set_17 : decode cX0_set 17 = .ok (.bipush 30, 2) := by decide +kernel
theorem dX0_set_19 : decode cX0_set 19 = .ok (.lshr, 1) := by decide +kernel
theorem dX0_set_20 : decode cX0_set 20 = .ok (.ldc2_w 23, 3) := by decide +kernel
theorem dX0_set_23 : decode cX0_set 23 = .ok (.land, 1) := by decide +kernel
theorem dX0_set_24 : decode cX0_set 24 = .ok (.lastore, 1) := by decide +kernel
theorem dX0_set_25 : decode cX0_set 25 = .ok (.aload_n 0, 1) := by decide +kernel
theorem dX0_set_26 : decode cX0_set 26 = .ok (.getfield 15, 3) := by decide +kernel
theorem dX0_set_29 : decode cX0_set 29 = .ok (.iconst 2, 1) := by decide +kernel
theorem dX0_set_30 : decode cX0_set 30 = .ok (.lload_n 1, 1) := by decide +kernel
theorem dX0_set_31 : decode cX0_set 31 = .ok (.bipush 60, 2) := by decide +kernel
theorem dX0_set_33 : decode cX0_set 33 = .ok (.lshr, 1) := by decide +kernel
theorem dX0_set_34 : decode cX0_set 34 = .ok (.lastore, 1) := by decide +kernel
theorem dX0_set_35 : decode cX0_set 35 = .ok (.aload_n 0, 1) := by decide +kernel
theorem dX0_set_36 : decode cX0_set 36 = .ok (.iconst 3, 1) := by decide +kernel
theorem dX0_set_37 : decode cX0_set 37 = .ok (.invokevirtual 25, 3) := by decide +kernel
theorem dX0_set_40 : decode cX0_set 40 = .ok (.return_, 1) := by decide +kernel
theorem dX0_clear_0 : decode cX0_clear 0 = .ok (.aload_n 0, 1) := by decide +kernel
theorem dX0_clear_1 : decode cX0_clear 1 = .ok (.getfield 15, 3) := by decide +kernel
theorem dX0_clear_4 : decode cX0_clear 4 = .ok (.iconst 0, 1) := by decide +kernel
theorem dX0_clear_5 : decode cX0_clear 5 = .ok (.lconst 0, 1) := by decide +kernel
theorem dX0_clear_6 : decode cX0_clear 6 = .ok (.lastore, 1) := by decide +kernel
theorem dX0_clear_7 : decode cX0_clear 7 = .ok (.aload_n 0, 1) := by decide +kernel
theorem dX0_clear_8 : decode cX0_clear 8 = .ok (.iconst 1, 1) := by decide +kernel
theorem dX0_clear_9 : decode cX0_clear 9 = .ok (.putfield 19, 3) := by decide +kernel
theorem dX0_clear_12 : decode cX0_clear 12 = .ok (.return_, 1) := by decide +kernel
theorem dX0_copy_0 : decode cX0_copy 0 = .ok (.aload_n 1, 1) := by decide +kernel
theorem dX0_copy_1 : decode cX0_copy 1 = .ok (.getfield 19, 3) := by decide +kernel
theorem dX0_copy_4 : decode cX0_copy 4 = .ok (.aload_n 0, 1) := by decide +kernel
theorem dX0_copy_5 : decode cX0_copy 5 = .ok (.getfield 15, 3) := by decide +kernel
theorem dX0_copy_8 : decode cX0_copy 8 = .ok (.arraylength, 1) := by decide +kernel
theorem dX0_copy_9 : decode cX0_copy 9 = .ok (.if_icmp .le 8, 3) := by decide +kernel
theorem dX0_copy_12 : decode cX0_copy 12 = .ok (.aload_n 0, 1) := by decide +kernel
theorem dX0_copy_13 : decode cX0_copy 13 = .ok (.invokevirtual 29, 3) := by decide +kernel
theorem dX0_copy_16 : decode cX0_copy 16 = .ok (.return_, 1) := by decide +kernel
theorem dX0_copy_17 : decode cX0_copy 17 = .ok (.aload_n 1, 1) := by decide +kernel
theorem dX0_copy_18 : decode cX0_copy 18 = .ok (.getfield 15, 3) := by decide +kernel
theorem dX0_copy_21 : decode cX0_copy 21 = .ok (.iconst 0, 1) := by decide +kernel
theorem dX0_copy_22 : decode cX0_copy 22 = .ok (.aload_n 0, 1) := by decide +kernel
theorem dX0_copy_23 : decode cX0_copy 23 = .ok (.getfield 15, 3) := by decide +kernel
theorem dX0_copy_26 : decode cX0_copy 26 = .ok (.iconst 0, 1) := by decide +kernel
theorem dX0_copy_27 : decode cX0_copy 27 = .ok (.aload_n 1, 1) := by decide +kernel
theorem dX0_copy_28 : decode cX0_copy 28 = .ok (.getfield 19, 3) := by decide +kernel
theorem dX0_copy_31 : decode cX0_copy 31 = .ok (.invokestatic 32, 3) := by decide +kernel
theorem dX0_copy_34 : decode cX0_copy 34 = .ok (.aload_n 0, 1) := by decide +kernel
theorem dX0_copy_35 : decode cX0_copy 35 = .ok (.aload_n 1, 1) := by decide +kernel
theorem dX0_copy_36 : decode cX0_copy 36 = .ok (.getfield 19, 3) := by decide +kernel
theorem dX0_copy_39 : decode cX0_copy 39 = .ok (.putfield 19, 3) := by decide +kernel
theorem dX0_copy_42 : decode cX0_copy 42 = .ok (.return_, 1) := by decide +kernel
theorem dX0_trim_0 : decode cX0_trim 0 = .ok (.iload_n 1, 1) := by decide +kernel
theorem dX0_trim_1 : decode cX0_trim 1 = .ok (.istore_n 2, 1) := by decide +kernel
theorem dX0_trim_2 : decode cX0_trim 2 = .ok (.iload_n 2, 1) := by decide +kernel
theorem dX0_trim_3 : decode cX0_trim 3 = .ok (.iconst 1, 1) := by decide +kernel
theorem dX0_trim_4 : decode cX0_trim 4 = .ok (.if_icmp .le 66, 3) := by decide +kernel
theorem dX0_trim_7 : decode cX0_trim 7 = .ok (.aload_n 0, 1) := by decide +kernel
theorem dX0_trim_8 : decode cX0_trim 8 = .ok (.getfield 15, 3) := by decide +kernel
theorem dX0_trim_11 : decode cX0_trim 11 = .ok (.iload_n 2, 1) := by decide +kernel
theorem dX0_trim_12 : decode cX0_trim 12 = .ok (.iconst 1, 1) := by decide +kernel
theorem dX0_trim_13 : decode cX0_trim 13 = .ok (.isub, 1) := by decide +kernel
theorem dX0_trim_14 : decode cX0_trim 14 = .ok (.laload, 1) := by decide +kernel
theorem dX0_trim_15 : decode cX0_trim 15 = .ok (.lconst 0, 1) := by decide +kernel
theorem dX0_trim_16 : decode cX0_trim 16 = .ok (.lcmp, 1) := by decide +kernel
theorem dX0_trim_17 : decode cX0_trim 17 = .ok (.ifCond .eq 18, 3) := by decide +kernel
theorem dX0_trim_20 : decode cX0_trim 20 = .ok (.aload_n 0, 1) := by decide +kernel
theorem dX0_trim_21 : decode cX0_trim 21 = .ok (.getfield 15, 3) := by decide +kernel
theorem dX0_trim_24 : decode cX0_trim 24 = .ok (.iload_n 2, 1) := by decide +kernel
theorem dX0_trim_25 : decode cX0_trim 25 = .ok (.iconst 1, 1) := by decide +kernel
theorem dX0_trim_26 : decode cX0_trim 26 = .ok (.isub, 1) := by decide +kernel
theorem dX0_trim_27 : decode cX0_trim 27 = .ok (.laload, 1) := by decide +kernel
theorem dX0_trim_28 : decode cX0_trim 28 = .ok (.ldc2_w 38, 3) := by decide +kernel
theorem dX0_trim_31 : decode cX0_trim 31 = .ok (.lcmp, 1) := by decide +kernel
theorem dX0_trim_32 : decode cX0_trim 32 = .ok (.ifCond .ne 38, 3) := by decide +kernel
theorem dX0_trim_35 : decode cX0_trim 35 = .ok (.aload_n 0, 1) := by decide +kernel
theorem dX0_trim_36 : decode cX0_trim 36 = .ok (.getfield 15, 3) := by decide +kernel
theorem dX0_trim_39 : decode cX0_trim 39 = .ok (.iload_n 2, 1) := by decide +kernel
theorem dX0_trim_40 : decode cX0_trim 40 = .ok (.iconst 1, 1) := by decide +kernel
theorem dX0_trim_41 : decode cX0_trim 41 = .ok (.isub, 1) := by decide +kernel
theorem dX0_trim_42 : decode cX0_trim 42 = .ok (.laload, 1) := by decide +kernel
theorem dX0_trim_43 : decode cX0_trim 43 = .ok (.ldc2_w 38, 3) := by decide +kernel
theorem dX0_trim_46 : decode cX0_trim 46 = .ok (.lcmp, 1) := by decide +kernel
theorem dX0_trim_47 : decode cX0_trim 47 = .ok (.ifCond .ne 17, 3) := by decide +kernel
theorem dX0_trim_50 : decode cX0_trim 50 = .ok (.aload_n 0, 1) := by decide +kernel
theorem dX0_trim_51 : decode cX0_trim 51 = .ok (.getfield 15, 3) := by decide +kernel
theorem dX0_trim_54 : decode cX0_trim 54 = .ok (.iload_n 2, 1) := by decide +kernel
theorem dX0_trim_55 : decode cX0_trim 55 = .ok (.iconst 2, 1) := by decide +kernel
theorem dX0_trim_56 : decode cX0_trim 56 = .ok (.isub, 1) := by decide +kernel
theorem dX0_trim_57 : decode cX0_trim 57 = .ok (.dup2, 1) := by decide +kernel
theorem dX0_trim_58 : decode cX0_trim 58 = .ok (.laload, 1) := by decide +kernel
theorem dX0_trim_59 : decode cX0_trim 59 = .ok (.ldc2_w 40, 3) := by decide +kernel
theorem dX0_trim_62 : decode cX0_trim 62 = .ok (.lsub, 1) := by decide +kernel
theorem dX0_trim_63 : decode cX0_trim 63 = .ok (.lastore, 1) := by decide +kernel
theorem dX0_trim_64 : decode cX0_trim 64 = .ok (.iinc 2 (-1), 3) := by decide +kernel
theorem dX0_trim_67 : decode cX0_trim 67 = .ok (.goto (-65), 3) := by decide +kernel
theorem dX0_trim_70 : decode cX0_trim 70 = .ok (.aload_n 0, 1) := by decide +kernel
theorem dX0_trim_71 : decode cX0_trim 71 = .ok (.iload_n 2, 1) := by decide +kernel
theorem dX0_trim_72 : decode cX0_trim 72 = .ok (.putfield 19, 3) := by decide +kernel
theorem dX0_trim_75 : decode cX0_trim 75 = .ok (.return_, 1) := by decide +kernel
theorem dX0_signum_0 : decode cX0_signum 0 = .ok (.aload_n 0, 1) := by decide +kernel
theorem dX0_signum_1 : decode cX0_signum 1 = .ok (.getfield 15, 3) := by decide +kernel
theorem dX0_signum_4 : decode cX0_signum 4 = .ok (.aload_n 0, 1) := by decide +kernel
theorem dX0_signum_5 : decode cX0_signum 5 = .ok (.getfield 19, 3) := by decide +kernel
theorem dX0_signum_8 : decode cX0_signum 8 = .ok (.iconst 1, 1) := by decide +kernel
theorem dX0_signum_9 : decode cX0_signum 9 = .ok (.isub, 1) := by decide +kernel
theorem dX0_signum_10 : decode cX0_signum 10 = .ok (.laload, 1) := by decide +kernel
theorem dX0_signum_11 : decode cX0_signum 11 = .ok (.invokestatic 42, 3) := by decide +kernel
theorem dX0_signum_14 : decode cX0_signum 14 = .ok (.ireturn, 1) := by decide +kernel
theorem dX0_setProduct_0 : decode cX0_setProduct 0 = .ok (.aload_n 1, 1) := by decide +kernel
theorem dX0_setProduct_1 : decode cX0_setProduct 1 = .ok (.getfield 19, 3) := by decide +kernel
theorem dX0_setProduct_4 : decode cX0_setProduct 4 = .ok (.aload_n 2, 1) := by decide +kernel
theorem dX0_setProduct_5 : decode cX0_setProduct 5 = .ok (.getfield 19, 3) := by decide +kernel
theorem dX0_setProduct_8 : decode cX0_setProduct 8 = .ok (.iadd, 1) := by decide +kernel
theorem dX0_setProduct_9 : decode cX0_setProduct 9 = .ok (.istore_n 3, 1) := by decide +kernel
theorem dX0_setProduct_10 : decode cX0_setProduct 10 = .ok (.iload_n 3, 1) := by decide +kernel
theorem dX0_setProduct_11 : decode cX0_setProduct 11 = .ok (.aload_n 0, 1) := by decide +kernel
theorem dX0_setProduct_12 : decode cX0_setProduct 12 = .ok (.getfield 15, 3) := by decide +kernel
theorem dX0_setProduct_15 : decode cX0_setProduct 15 = .ok (.arraylength, 1) := by decide +kernel
theorem dX0_setProduct_16 : decode cX0_setProduct 16 = .ok (.if_icmp .le 8, 3) := by decide +kernel
theorem dX0_setProduct_19 : decode cX0_setProduct 19 = .ok (.aload_n 0, 1) := by decide +kernel
theorem dX0_setProduct_20 : decode cX0_setProduct 20 = .ok (.invokevirtual 29, 3) := by decide +kernel
theorem dX0_setProduct_23 : decode cX0_setProduct 23 = .ok (.return_, 1) := by decide +kernel
theorem dX0_setProduct_24 : decode cX0_setProduct 24 = .ok (.iconst 0, 1) := by decide +kernel
theorem dX0_setProduct_25 : decode cX0_setProduct 25 = .ok (.istore 4, 2) := by decide +kernel
theorem dX0_setProduct_27 : decode cX0_setProduct 27 = .ok (.iload 4, 2) := by decide +kernel
theorem dX0_setProduct_29 : decode cX0_setProduct 29 = .ok (.iload_n 3, 1) := by decide +kernel
theorem dX0_setProduct_30 : decode cX0_setProduct 30 = .ok (.if_icmp .ge 17, 3) := by decide +kernel
theorem dX0_setProduct_33 : decode cX0_setProduct 33 = .ok (.aload_n 0, 1) := by decide +kernel
theorem dX0_setProduct_34 : decode cX0_setProduct 34 = .ok (.getfield 15, 3) := by decide +kernel
theorem dX0_setProduct_37 : decode cX0_setProduct 37 = .ok (.iload 4, 2) := by decide +kernel
theorem dX0_setProduct_39 : decode cX0_setProduct 39 = .ok (.lconst 0, 1) := by decide +kernel
theorem dX0_setProduct_40 : decode cX0_setProduct 40 = .ok (.lastore, 1) := by decide +kernel
theorem dX0_setProduct_41 : decode cX0_setProduct 41 = .ok (.iinc 4 1, 3) := by decide +kernel
theorem dX0_setProduct_44 : decode cX0_setProduct 44 = .ok (.goto (-17), 3) := by decide +kernel
theorem dX0_setProduct_47 : decode cX0_setProduct 47 = .ok (.iconst 0, 1) := by decide +kernel
theorem dX0_setProduct_48 : decode cX0_setProduct 48 = .ok (.istore 4, 2) := by decide +kernel
theorem dX0_setProduct_50 : decode cX0_setProduct 50 = .ok (.iload 4, 2) := by decide +kernel
theorem dX0_setProduct_52 : decode cX0_setProduct 52 = .ok (.aload_n 1, 1) := by decide +kernel
theorem dX0_setProduct_53 : decode cX0_setProduct 53 = .ok (.getfield 19, 3) := by decide +kernel
theorem dX0_setProduct_56 : decode cX0_setProduct 56 = .ok (.if_icmp .ge 98, 3) := by decide +kernel
theorem dX0_setProduct_59 : decode cX0_setProduct 59 = .ok (.lconst 0, 1) := by decide +kernel
theorem dX0_setProduct_60 : decode cX0_setProduct 60 = .ok (.lstore 5, 2) := by decide +kernel
theorem dX0_setProduct_62 : decode cX0_setProduct 62 = .ok (.iconst 0, 1) := by decide +kernel
theorem dX0_setProduct_63 : decode cX0_setProduct 63 = .ok (.istore 7, 2) := by decide +kernel
theorem dX0_setProduct_65 : decode cX0_setProduct 65 = .ok (.iload 7, 2) := by decide +kernel
theorem dX0_setProduct_67 : decode cX0_setProduct 67 = .ok (.aload_n 2, 1) := by decide +kernel
theorem dX0_setProduct_68 : decode cX0_setProduct 68 = .ok (.getfield 19, 3) := by decide +kernel
theorem dX0_setProduct_71 : decode cX0_setProduct 71 = .ok (.if_icmp .ge 63, 3) := by decide +kernel
theorem dX0_setProduct_74 : decode cX0_setProduct 74 = .ok (.aload_n 0, 1) := by decide +kernel
theorem dX0_setProduct_75 : decode cX0_setProduct 75 = .ok (.getfield 15, 3) := by decide +kernel
theorem dX0_setProduct_78 : decode cX0_setProduct 78 = .ok (.iload 4, 2) := by decide +kernel
theorem dX0_setProduct_80 : decode cX0_setProduct 80 = .ok (.iload 7, 2) := by decide +kernel
theorem dX0_setProduct_82 : decode cX0_setProduct 82 = .ok (.iadd, 1) := by decide +kernel
theorem dX0_setProduct_83 : decode cX0_setProduct 83 = .ok (.laload, 1) := by decide +kernel
theorem dX0_setProduct_84 : decode cX0_setProduct 84 = .ok (.aload_n 1, 1) := by decide +kernel
theorem dX0_setProduct_85 : decode cX0_setProduct 85 = .ok (.getfield 15, 3) := by decide +kernel
theorem dX0_setProduct_88 : decode cX0_setProduct 88 = .ok (.iload 4, 2) := by decide +kernel
theorem dX0_setProduct_90 : decode cX0_setProduct 90 = .ok (.laload, 1) := by decide +kernel
theorem dX0_setProduct_91 : decode cX0_setProduct 91 = .ok (.aload_n 2, 1) := by decide +kernel
theorem dX0_setProduct_92 : decode cX0_setProduct 92 = .ok (.getfield 15, 3) := by decide +kernel
theorem dX0_setProduct_95 : decode cX0_setProduct 95 = .ok (.iload 7, 2) := by decide +kernel
theorem dX0_setProduct_97 : decode cX0_setProduct 97 = .ok (.laload, 1) := by decide +kernel
theorem dX0_setProduct_98 : decode cX0_setProduct 98 = .ok (.lmul, 1) := by decide +kernel
theorem dX0_setProduct_99 : decode cX0_setProduct 99 = .ok (.ladd, 1) := by decide +kernel
theorem dX0_setProduct_100 : decode cX0_setProduct 100 = .ok (.lload 5, 2) := by decide +kernel
theorem dX0_setProduct_102 : decode cX0_setProduct 102 = .ok (.ladd, 1) := by decide +kernel
theorem dX0_setProduct_103 : decode cX0_setProduct 103 = .ok (.lstore 8, 2) := by decide +kernel
theorem dX0_setProduct_105 : decode cX0_setProduct 105 = .ok (.aload_n 0, 1) := by decide +kernel
theorem dX0_setProduct_106 : decode cX0_setProduct 106 = .ok (.getfield 15, 3) := by decide +kernel
theorem dX0_setProduct_109 : decode cX0_setProduct 109 = .ok (.iload 4, 2) := by decide +kernel
theorem dX0_setProduct_111 : decode cX0_setProduct 111 = .ok (.iload 7, 2) := by decide +kernel
theorem dX0_setProduct_113 : decode cX0_setProduct 113 = .ok (.iadd, 1) := by decide +kernel
theorem dX0_setProduct_114 : decode cX0_setProduct 114 = .ok (.lload 8, 2) := by decide +kernel
theorem dX0_setProduct_116 : decode cX0_setProduct 116 = .ok (.ldc2_w 23, 3) := by decide +kernel
theorem dX0_setProduct_119 : decode cX0_setProduct 119 = .ok (.land, 1) := by decide +kernel
theorem dX0_setProduct_120 : decode cX0_setProduct 120 = .ok (.lastore, 1) := by decide +kernel
theorem dX0_setProduct_121 : decode cX0_setProduct 121 = .ok (.lload 8, 2) := by decide +kernel
theorem dX0_setProduct_123 : decode cX0_setProduct 123 = .ok (.bipush 30, 2) := by decide +kernel
theorem dX0_setProduct_125 : decode cX0_setProduct 125 = .ok (.lshr, 1) := by decide +kernel
theorem dX0_setProduct_126 : decode cX0_setProduct 126 = .ok (.lstore 5, 2) := by decide +kernel
theorem dX0_setProduct_128 : decode cX0_setProduct 128 = .ok (.iinc 7 1, 3) := by decide +kernel
theorem dX0_setProduct_131 : decode cX0_setProduct 131 = .ok (.goto (-66), 3) := by decide +kernel
theorem dX0_setProduct_134 : decode cX0_setProduct 134 = .ok (.aload_n 0, 1) := by decide +kernel
theorem dX0_setProduct_135 : decode cX0_setProduct 135 = .ok (.getfield 15, 3) := by decide +kernel
theorem dX0_setProduct_138 : decode cX0_setProduct 138 = .ok (.iload 4, 2) := by decide +kernel
theorem dX0_setProduct_140 : decode cX0_setProduct 140 = .ok (.aload_n 2, 1) := by decide +kernel
theorem dX0_setProduct_141 : decode cX0_setProduct 141 = .ok (.getfield 19, 3) := by decide +kernel
theorem dX0_setProduct_144 : decode cX0_setProduct 144 = .ok (.iadd, 1) := by decide +kernel
theorem dX0_setProduct_145 : decode cX0_setProduct 145 = .ok (.lload 5, 2) := by decide +kernel
theorem dX0_setProduct_147 : decode cX0_setProduct 147 = .ok (.lastore, 1) := by decide +kernel
theorem dX0_setProduct_148 : decode cX0_setProduct 148 = .ok (.iinc 4 1, 3) := by decide +kernel
theorem dX0_setProduct_151 : decode cX0_setProduct 151 = .ok (.goto (-101), 3) := by decide +kernel
theorem dX0_setProduct_154 : decode cX0_setProduct 154 = .ok (.aload_n 0, 1) := by decide +kernel
theorem dX0_setProduct_155 : decode cX0_setProduct 155 = .ok (.iload_n 3, 1) := by decide +kernel
theorem dX0_setProduct_156 : decode cX0_setProduct 156 = .ok (.invokevirtual 25, 3) := by decide +kernel
theorem dX0_setProduct_159 : decode cX0_setProduct 159 = .ok (.return_, 1) := by decide +kernel
theorem dX0_addTimes_0 : decode cX0_addTimes 0 = .ok (.aload_n 0, 1) := by decide +kernel
theorem dX0_addTimes_1 : decode cX0_addTimes 1 = .ok (.getfield 19, 3) := by decide +kernel
theorem dX0_addTimes_4 : decode cX0_addTimes 4 = .ok (.aload_n 1, 1) := by decide +kernel
theorem dX0_addTimes_5 : decode cX0_addTimes 5 = .ok (.getfield 19, 3) := by decide +kernel
theorem dX0_addTimes_8 : decode cX0_addTimes 8 = .ok (.iload 4, 2) := by decide +kernel
theorem dX0_addTimes_10 : decode cX0_addTimes 10 = .ok (.iadd, 1) := by decide +kernel
theorem dX0_addTimes_11 : decode cX0_addTimes 11 = .ok (.invokestatic 9, 3) := by decide +kernel
theorem dX0_addTimes_14 : decode cX0_addTimes 14 = .ok (.iconst 2, 1) := by decide +kernel
theorem dX0_addTimes_15 : decode cX0_addTimes 15 = .ok (.iadd, 1) := by decide +kernel
theorem dX0_addTimes_16 : decode cX0_addTimes 16 = .ok (.istore 5, 2) := by decide +kernel
theorem dX0_addTimes_18 : decode cX0_addTimes 18 = .ok (.iload 4, 2) := by decide +kernel
theorem dX0_addTimes_20 : decode cX0_addTimes 20 = .ok (.ifCond .lt 13, 3) := by decide +kernel
theorem dX0_addTimes_23 : decode cX0_addTimes 23 = .ok (.iload 5, 2) := by decide +kernel
theorem dX0_addTimes_25 : decode cX0_addTimes 25 = .ok (.aload_n 0, 1) := by decide +kernel
theorem dX0_addTimes_26 : decode cX0_addTimes 26 = .ok (.getfield 15, 3) := by decide +kernel
theorem dX0_addTimes_29 : decode cX0_addTimes 29 = .ok (.arraylength, 1) := by decide +kernel
theorem dX0_addTimes_30 : decode cX0_addTimes 30 = .ok (.if_icmp .le 8, 3) := by decide +kernel
theorem dX0_addTimes_33 : decode cX0_addTimes 33 = .ok (.aload_n 0, 1) := by decide +kernel
theorem dX0_addTimes_34 : decode cX0_addTimes 34 = .ok (.invokevirtual 29, 3) := by decide +kernel
theorem dX0_addTimes_37 : decode cX0_addTimes 37 = .ok (.return_, 1) := by decide +kernel
theorem dX0_addTimes_38 : decode cX0_addTimes 38 = .ok (.aload_n 1, 1) := by decide +kernel
theorem dX0_addTimes_39 : decode cX0_addTimes 39 = .ok (.getfield 19, 3) := by decide +kernel
theorem dX0_addTimes_42 : decode cX0_addTimes 42 = .ok (.iload 4, 2) := by decide +kernel
theorem dX0_addTimes_44 : decode cX0_addTimes 44 = .ok (.iadd, 1) := by decide +kernel
theorem dX0_addTimes_45 : decode cX0_addTimes 45 = .ok (.istore 6, 2) := by decide +kernel
theorem dX0_addTimes_47 : decode cX0_addTimes 47 = .ok (.aload_n 0, 1) := by decide +kernel
theorem dX0_addTimes_48 : decode cX0_addTimes 48 = .ok (.getfield 19, 3) := by decide +kernel
theorem dX0_addTimes_51 : decode cX0_addTimes 51 = .ok (.istore 7, 2) := by decide +kernel
theorem dX0_addTimes_53 : decode cX0_addTimes 53 = .ok (.iload 7, 2) := by decide +kernel
theorem dX0_addTimes_55 : decode cX0_addTimes 55 = .ok (.iload 5, 2) := by decide +kernel
theorem dX0_addTimes_57 : decode cX0_addTimes 57 = .ok (.if_icmp .ge 17, 3) := by decide +kernel
theorem dX0_addTimes_60 : decode cX0_addTimes 60 = .ok (.aload_n 0, 1) := by decide +kernel
theorem dX0_addTimes_61 : decode cX0_addTimes 61 = .ok (.getfield 15, 3) := by decide +kernel
theorem dX0_addTimes_64 : decode cX0_addTimes 64 = .ok (.iload 7, 2) := by decide +kernel
theorem dX0_addTimes_66 : decode cX0_addTimes 66 = .ok (.lconst 0, 1) := by decide +kernel
theorem dX0_addTimes_67 : decode cX0_addTimes 67 = .ok (.lastore, 1) := by decide +kernel
theorem dX0_addTimes_68 : decode cX0_addTimes 68 = .ok (.iinc 7 1, 3) := by decide +kernel
theorem dX0_addTimes_71 : decode cX0_addTimes 71 = .ok (.goto (-18), 3) := by decide +kernel
theorem dX0_addTimes_74 : decode cX0_addTimes 74 = .ok (.lconst 0, 1) := by decide +kernel
theorem dX0_addTimes_75 : decode cX0_addTimes 75 = .ok (.lstore 7, 2) := by decide +kernel
theorem dX0_addTimes_77 : decode cX0_addTimes 77 = .ok (.iconst 0, 1) := by decide +kernel
theorem dX0_addTimes_78 : decode cX0_addTimes 78 = .ok (.istore 9, 2) := by decide +kernel
theorem dX0_addTimes_80 : decode cX0_addTimes 80 = .ok (.iload 9, 2) := by decide +kernel
theorem dX0_addTimes_82 : decode cX0_addTimes 82 = .ok (.iload 5, 2) := by decide +kernel
theorem dX0_addTimes_84 : decode cX0_addTimes 84 = .ok (.if_icmp .ge 86, 3) := by decide +kernel
theorem dX0_addTimes_87 : decode cX0_addTimes 87 = .ok (.aload_n 0, 1) := by decide +kernel
theorem dX0_addTimes_88 : decode cX0_addTimes 88 = .ok (.getfield 15, 3) := by decide +kernel
theorem dX0_addTimes_91 : decode cX0_addTimes 91 = .ok (.iload 9, 2) := by decide +kernel
theorem dX0_addTimes_93 : decode cX0_addTimes 93 = .ok (.laload, 1) := by decide +kernel
theorem dX0_addTimes_94 : decode cX0_addTimes 94 = .ok (.lload 7, 2) := by decide +kernel
theorem dX0_addTimes_96 : decode cX0_addTimes 96 = .ok (.ladd, 1) := by decide +kernel
theorem dX0_addTimes_97 : decode cX0_addTimes 97 = .ok (.lstore 10, 2) := by decide +kernel
theorem dX0_addTimes_99 : decode cX0_addTimes 99 = .ok (.iload 9, 2) := by decide +kernel
theorem dX0_addTimes_101 : decode cX0_addTimes 101 = .ok (.iload 4, 2) := by decide +kernel
theorem dX0_addTimes_103 : decode cX0_addTimes 103 = .ok (.if_icmp .lt 27, 3) := by decide +kernel
theorem dX0_addTimes_106 : decode cX0_addTimes 106 = .ok (.iload 9, 2) := by decide +kernel
theorem dX0_addTimes_108 : decode cX0_addTimes 108 = .ok (.iload 6, 2) := by decide +kernel
theorem dX0_addTimes_110 : decode cX0_addTimes 110 = .ok (.if_icmp .ge 20, 3) := by decide +kernel
theorem dX0_addTimes_113 : decode cX0_addTimes 113 = .ok (.lload 10, 2) := by decide +kernel
theorem dX0_addTimes_115 : decode cX0_addTimes 115 = .ok (.lload_n 2, 1) := by decide +kernel
theorem dX0_addTimes_116 : decode cX0_addTimes 116 = .ok (.aload_n 1, 1) := by decide +kernel
theorem dX0_addTimes_117 : decode cX0_addTimes 117 = .ok (.getfield 15, 3) := by decide +kernel
theorem dX0_addTimes_120 : decode cX0_addTimes 120 = .ok (.iload 9, 2) := by decide +kernel
theorem dX0_addTimes_122 : decode cX0_addTimes 122 = .ok (.iload 4, 2) := by decide +kernel
theorem dX0_addTimes_124 : decode cX0_addTimes 124 = .ok (.isub, 1) := by decide +kernel
theorem dX0_addTimes_125 : decode cX0_addTimes 125 = .ok (.laload, 1) := by decide +kernel
theorem dX0_addTimes_126 : decode cX0_addTimes 126 = .ok (.lmul, 1) := by decide +kernel
theorem dX0_addTimes_127 : decode cX0_addTimes 127 = .ok (.ladd, 1) := by decide +kernel
theorem dX0_addTimes_128 : decode cX0_addTimes 128 = .ok (.lstore 10, 2) := by decide +kernel
theorem dX0_addTimes_130 : decode cX0_addTimes 130 = .ok (.aload_n 0, 1) := by decide +kernel
theorem dX0_addTimes_131 : decode cX0_addTimes 131 = .ok (.getfield 15, 3) := by decide +kernel
theorem dX0_addTimes_134 : decode cX0_addTimes 134 = .ok (.iload 9, 2) := by decide +kernel
theorem dX0_addTimes_136 : decode cX0_addTimes 136 = .ok (.iload 9, 2) := by decide +kernel
theorem dX0_addTimes_138 : decode cX0_addTimes 138 = .ok (.iload 5, 2) := by decide +kernel
theorem dX0_addTimes_140 : decode cX0_addTimes 140 = .ok (.iconst 1, 1) := by decide +kernel
theorem dX0_addTimes_141 : decode cX0_addTimes 141 = .ok (.isub, 1) := by decide +kernel
theorem dX0_addTimes_142 : decode cX0_addTimes 142 = .ok (.if_icmp .ge 12, 3) := by decide +kernel
theorem dX0_addTimes_145 : decode cX0_addTimes 145 = .ok (.lload 10, 2) := by decide +kernel
theorem dX0_addTimes_147 : decode cX0_addTimes 147 = .ok (.ldc2_w 23, 3) := by decide +kernel
theorem dX0_addTimes_150 : decode cX0_addTimes 150 = .ok (.land, 1) := by decide +kernel
theorem dX0_addTimes_151 : decode cX0_addTimes 151 = .ok (.goto 5, 3) := by decide +kernel
theorem dX0_addTimes_154 : decode cX0_addTimes 154 = .ok (.lload 10, 2) := by decide +kernel
theorem dX0_addTimes_156 : decode cX0_addTimes 156 = .ok (.lastore, 1) := by decide +kernel
theorem dX0_addTimes_157 : decode cX0_addTimes 157 = .ok (.lload 10, 2) := by decide +kernel
theorem dX0_addTimes_159 : decode cX0_addTimes 159 = .ok (.bipush 30, 2) := by decide +kernel
theorem dX0_addTimes_161 : decode cX0_addTimes 161 = .ok (.lshr, 1) := by decide +kernel
theorem dX0_addTimes_162 : decode cX0_addTimes 162 = .ok (.lstore 7, 2) := by decide +kernel
theorem dX0_addTimes_164 : decode cX0_addTimes 164 = .ok (.iinc 9 1, 3) := by decide +kernel
theorem dX0_addTimes_167 : decode cX0_addTimes 167 = .ok (.goto (-87), 3) := by decide +kernel
theorem dX0_addTimes_170 : decode cX0_addTimes 170 = .ok (.aload_n 0, 1) := by decide +kernel
theorem dX0_addTimes_171 : decode cX0_addTimes 171 = .ok (.iload 5, 2) := by decide +kernel
theorem dX0_addTimes_173 : decode cX0_addTimes 173 = .ok (.invokevirtual 25, 3) := by decide +kernel
theorem dX0_addTimes_176 : decode cX0_addTimes 176 = .ok (.return_, 1) := by decide +kernel
theorem dX0_negate_0 : decode cX0_negate 0 = .ok (.aload_n 0, 1) := by decide +kernel
theorem dX0_negate_1 : decode cX0_negate 1 = .ok (.getfield 19, 3) := by decide +kernel
theorem dX0_negate_4 : decode cX0_negate 4 = .ok (.iconst 1, 1) := by decide +kernel
theorem dX0_negate_5 : decode cX0_negate 5 = .ok (.iadd, 1) := by decide +kernel
theorem dX0_negate_6 : decode cX0_negate 6 = .ok (.istore_n 1, 1) := by decide +kernel
theorem dX0_negate_7 : decode cX0_negate 7 = .ok (.iload_n 1, 1) := by decide +kernel
theorem dX0_negate_8 : decode cX0_negate 8 = .ok (.aload_n 0, 1) := by decide +kernel
theorem dX0_negate_9 : decode cX0_negate 9 = .ok (.getfield 15, 3) := by decide +kernel
theorem dX0_negate_12 : decode cX0_negate 12 = .ok (.arraylength, 1) := by decide +kernel
theorem dX0_negate_13 : decode cX0_negate 13 = .ok (.if_icmp .le 8, 3) := by decide +kernel
theorem dX0_negate_16 : decode cX0_negate 16 = .ok (.aload_n 0, 1) := by decide +kernel
theorem dX0_negate_17 : decode cX0_negate 17 = .ok (.invokevirtual 29, 3) := by decide +kernel
theorem dX0_negate_20 : decode cX0_negate 20 = .ok (.return_, 1) := by decide +kernel
theorem dX0_negate_21 : decode cX0_negate 21 = .ok (.lconst 0, 1) := by decide +kernel
theorem dX0_negate_22 : decode cX0_negate 22 = .ok (.lstore_n 2, 1) := by decide +kernel
theorem dX0_negate_23 : decode cX0_negate 23 = .ok (.iconst 0, 1) := by decide +kernel
theorem dX0_negate_24 : decode cX0_negate 24 = .ok (.istore 4, 2) := by decide +kernel
theorem dX0_negate_26 : decode cX0_negate 26 = .ok (.iload 4, 2) := by decide +kernel
theorem dX0_negate_28 : decode cX0_negate 28 = .ok (.aload_n 0, 1) := by decide +kernel
theorem dX0_negate_29 : decode cX0_negate 29 = .ok (.getfield 19, 3) := by decide +kernel
theorem dX0_negate_32 : decode cX0_negate 32 = .ok (.if_icmp .ge 39, 3) := by decide +kernel
theorem dX0_negate_35 : decode cX0_negate 35 = .ok (.lload_n 2, 1) := by decide +kernel
theorem dX0_negate_36 : decode cX0_negate 36 = .ok (.aload_n 0, 1) := by decide +kernel
theorem dX0_negate_37 : decode cX0_negate 37 = .ok (.getfield 15, 3) := by decide +kernel
theorem dX0_negate_40 : decode cX0_negate 40 = .ok (.iload 4, 2) := by decide +kernel
theorem dX0_negate_42 : decode cX0_negate 42 = .ok (.laload, 1) := by decide +kernel
theorem dX0_negate_43 : decode cX0_negate 43 = .ok (.lsub, 1) := by decide +kernel
theorem dX0_negate_44 : decode cX0_negate 44 = .ok (.lstore 5, 2) := by decide +kernel
theorem dX0_negate_46 : decode cX0_negate 46 = .ok (.aload_n 0, 1) := by decide +kernel
theorem dX0_negate_47 : decode cX0_negate 47 = .ok (.getfield 15, 3) := by decide +kernel
theorem dX0_negate_50 : decode cX0_negate 50 = .ok (.iload 4, 2) := by decide +kernel
theorem dX0_negate_52 : decode cX0_negate 52 = .ok (.lload 5, 2) := by decide +kernel
theorem dX0_negate_54 : decode cX0_negate 54 = .ok (.ldc2_w 23, 3) := by decide +kernel
theorem dX0_negate_57 : decode cX0_negate 57 = .ok (.land, 1) := by decide +kernel
theorem dX0_negate_58 : decode cX0_negate 58 = .ok (.lastore, 1) := by decide +kernel
theorem dX0_negate_59 : decode cX0_negate 59 = .ok (.lload 5, 2) := by decide +kernel
theorem dX0_negate_61 : decode cX0_negate 61 = .ok (.bipush 30, 2) := by decide +kernel
theorem dX0_negate_63 : decode cX0_negate 63 = .ok (.lshr, 1) := by decide +kernel
theorem dX0_negate_64 : decode cX0_negate 64 = .ok (.lstore_n 2, 1) := by decide +kernel
theorem dX0_negate_65 : decode cX0_negate 65 = .ok (.iinc 4 1, 3) := by decide +kernel
theorem dX0_negate_68 : decode cX0_negate 68 = .ok (.goto (-42), 3) := by decide +kernel
theorem dX0_negate_71 : decode cX0_negate 71 = .ok (.aload_n 0, 1) := by decide +kernel
theorem dX0_negate_72 : decode cX0_negate 72 = .ok (.getfield 15, 3) := by decide +kernel
theorem dX0_negate_75 : decode cX0_negate 75 = .ok (.iload_n 1, 1) := by decide +kernel
theorem dX0_negate_76 : decode cX0_negate 76 = .ok (.iconst 1, 1) := by decide +kernel
theorem dX0_negate_77 : decode cX0_negate 77 = .ok (.isub, 1) := by decide +kernel
theorem dX0_negate_78 : decode cX0_negate 78 = .ok (.lload_n 2, 1) := by decide +kernel
theorem dX0_negate_79 : decode cX0_negate 79 = .ok (.lastore, 1) := by decide +kernel
theorem dX0_negate_80 : decode cX0_negate 80 = .ok (.aload_n 0, 1) := by decide +kernel
theorem dX0_negate_81 : decode cX0_negate 81 = .ok (.iload_n 1, 1) := by decide +kernel
theorem dX0_negate_82 : decode cX0_negate 82 = .ok (.invokevirtual 25, 3) := by decide +kernel
theorem dX0_negate_85 : decode cX0_negate 85 = .ok (.return_, 1) := by decide +kernel
theorem dX0_trailingZeros_0 : decode cX0_trailingZeros 0 = .ok (.aload_n 0, 1) := by decide +kernel
theorem dX0_trailingZeros_1 : decode cX0_trailingZeros 1 = .ok (.getfield 15, 3) := by decide +kernel
theorem dX0_trailingZeros_4 : decode cX0_trailingZeros 4 = .ok (.aload_n 0, 1) := by decide +kernel
theorem dX0_trailingZeros_5 : decode cX0_trailingZeros 5 = .ok (.getfield 19, 3) := by decide +kernel
theorem dX0_trailingZeros_8 : decode cX0_trailingZeros 8 = .ok (.iconst 1, 1) := by decide +kernel
theorem dX0_trailingZeros_9 : decode cX0_trailingZeros 9 = .ok (.isub, 1) := by decide +kernel
theorem dX0_trailingZeros_10 : decode cX0_trailingZeros 10 = .ok (.laload, 1) := by decide +kernel
theorem dX0_trailingZeros_11 : decode cX0_trailingZeros 11 = .ok (.lconst 0, 1) := by decide +kernel
theorem dX0_trailingZeros_12 : decode cX0_trailingZeros 12 = .ok (.lcmp, 1) := by decide +kernel
theorem dX0_trailingZeros_13 : decode cX0_trailingZeros 13 = .ok (.ifCond .ne 5, 3) := by decide +kernel
theorem dX0_trailingZeros_16 : decode cX0_trailingZeros 16 = .ok (.iconst 0, 1) := by decide +kernel
theorem dX0_trailingZeros_17 : decode cX0_trailingZeros 17 = .ok (.ireturn, 1) := by decide +kernel
theorem dX0_trailingZeros_18 : decode cX0_trailingZeros 18 = .ok (.iconst 0, 1) := by decide +kernel
theorem dX0_trailingZeros_19 : decode cX0_trailingZeros 19 = .ok (.istore_n 1, 1) := by decide +kernel
theorem dX0_trailingZeros_20 : decode cX0_trailingZeros 20 = .ok (.iload_n 1, 1) := by decide +kernel
theorem dX0_trailingZeros_21 : decode cX0_trailingZeros 21 = .ok (.aload_n 0, 1) := by decide +kernel
theorem dX0_trailingZeros_22 : decode cX0_trailingZeros 22 = .ok (.getfield 19, 3) := by decide +kernel
theorem dX0_trailingZeros_25 : decode cX0_trailingZeros 25 = .ok (.iconst 1, 1) := by decide +kernel
theorem dX0_trailingZeros_26 : decode cX0_trailingZeros 26 = .ok (.isub, 1) := by decide +kernel
theorem dX0_trailingZeros_27 : decode cX0_trailingZeros 27 = .ok (.if_icmp .ge 20, 3) := by decide +kernel
theorem dX0_trailingZeros_30 : decode cX0_trailingZeros 30 = .ok (.aload_n 0, 1) := by decide +kernel
theorem dX0_trailingZeros_31 : decode cX0_trailingZeros 31 = .ok (.getfield 15, 3) := by decide +kernel
theorem dX0_trailingZeros_34 : decode cX0_trailingZeros 34 = .ok (.iload_n 1, 1) := by decide +kernel
theorem dX0_trailingZeros_35 : decode cX0_trailingZeros 35 = .ok (.laload, 1) := by decide +kernel
theorem dX0_trailingZeros_36 : decode cX0_trailingZeros 36 = .ok (.lconst 0, 1) := by decide +kernel
theorem dX0_trailingZeros_37 : decode cX0_trailingZeros 37 = .ok (.lcmp, 1) := by decide +kernel
theorem dX0_trailingZeros_38 : decode cX0_trailingZeros 38 = .ok (.ifCond .ne 9, 3) := by decide +kernel
theorem dX0_trailingZeros_41 : decode cX0_trailingZeros 41 = .ok (.iinc 1 1, 3) := by decide +kernel
theorem dX0_trailingZeros_44 : decode cX0_trailingZeros 44 = .ok (.goto (-24), 3) := by decide +kernel
theorem dX0_trailingZeros_47 : decode cX0_trailingZeros 47 = .ok (.iload_n 1, 1) := by decide +kernel
theorem dX0_trailingZeros_48 : decode cX0_trailingZeros 48 = .ok (.bipush 30, 2) := by decide +kernel
theorem dX0_trailingZeros_50 : decode cX0_trailingZeros 50 = .ok (.imul, 1) := by decide +kernel
theorem dX0_trailingZeros_51 : decode cX0_trailingZeros 51 = .ok (.aload_n 0, 1) := by decide +kernel
theorem dX0_trailingZeros_52 : decode cX0_trailingZeros 52 = .ok (.getfield 15, 3) := by decide +kernel
theorem dX0_trailingZeros_55 : decode cX0_trailingZeros 55 = .ok (.iload_n 1, 1) := by decide +kernel
theorem dX0_trailingZeros_56 : decode cX0_trailingZeros 56 = .ok (.laload, 1) := by decide +kernel
theorem dX0_trailingZeros_57 : decode cX0_trailingZeros 57 = .ok (.invokestatic 48, 3) := by decide +kernel
theorem dX0_trailingZeros_60 : decode cX0_trailingZeros 60 = .ok (.iadd, 1) := by decide +kernel
theorem dX0_trailingZeros_61 : decode cX0_trailingZeros 61 = .ok (.ireturn, 1) := by decide +kernel
theorem dX0_digitAt_0 : decode cX0_digitAt 0 = .ok (.iload_n 1, 1) := by decide +kernel
theorem dX0_digitAt_1 : decode cX0_digitAt 1 = .ok (.aload_n 0, 1) := by decide +kernel
theorem dX0_digitAt_2 : decode cX0_digitAt 2 = .ok (.getfield 19, 3) := by decide +kernel
theorem dX0_digitAt_5 : decode cX0_digitAt 5 = .ok (.if_icmp .ge 12, 3) := by decide +kernel
theorem dX0_digitAt_8 : decode cX0_digitAt 8 = .ok (.aload_n 0, 1) := by decide +kernel
theorem dX0_digitAt_9 : decode cX0_digitAt 9 = .ok (.getfield 15, 3) := by decide +kernel
theorem dX0_digitAt_12 : decode cX0_digitAt 12 = .ok (.iload_n 1, 1) := by decide +kernel
theorem dX0_digitAt_13 : decode cX0_digitAt 13 = .ok (.laload, 1) := by decide +kernel
theorem dX0_digitAt_14 : decode cX0_digitAt 14 = .ok (.goto 17, 3) := by decide +kernel
theorem dX0_digitAt_17 : decode cX0_digitAt 17 = .ok (.aload_n 0, 1) := by decide +kernel
theorem dX0_digitAt_18 : decode cX0_digitAt 18 = .ok (.getfield 15, 3) := by decide +kernel
theorem dX0_digitAt_21 : decode cX0_digitAt 21 = .ok (.aload_n 0, 1) := by decide +kernel
theorem dX0_digitAt_22 : decode cX0_digitAt 22 = .ok (.getfield 19, 3) := by decide +kernel
theorem dX0_digitAt_25 : decode cX0_digitAt 25 = .ok (.iconst 1, 1) := by decide +kernel
theorem dX0_digitAt_26 : decode cX0_digitAt 26 = .ok (.isub, 1) := by decide +kernel
theorem dX0_digitAt_27 : decode cX0_digitAt 27 = .ok (.laload, 1) := by decide +kernel
theorem dX0_digitAt_28 : decode cX0_digitAt 28 = .ok (.bipush 30, 2) := by decide +kernel
theorem dX0_digitAt_30 : decode cX0_digitAt 30 = .ok (.lshr, 1) := by decide +kernel
theorem dX0_digitAt_31 : decode cX0_digitAt 31 = .ok (.lreturn, 1) := by decide +kernel
theorem dX0_shiftDown_0 : decode cX0_shiftDown 0 = .ok (.iload_n 1, 1) := by decide +kernel
theorem dX0_shiftDown_1 : decode cX0_shiftDown 1 = .ok (.ifCond .gt 4, 3) := by decide +kernel
theorem dX0_shiftDown_4 : decode cX0_shiftDown 4 = .ok (.return_, 1) := by decide +kernel
theorem dX0_shiftDown_5 : decode cX0_shiftDown 5 = .ok (.iload_n 1, 1) := by decide +kernel
theorem dX0_shiftDown_6 : decode cX0_shiftDown 6 = .ok (.bipush 30, 2) := by decide +kernel
theorem dX0_shiftDown_8 : decode cX0_shiftDown 8 = .ok (.idiv, 1) := by decide +kernel
theorem dX0_shiftDown_9 : decode cX0_shiftDown 9 = .ok (.istore_n 2, 1) := by decide +kernel
theorem dX0_shiftDown_10 : decode cX0_shiftDown 10 = .ok (.iload_n 1, 1) := by decide +kernel
theorem dX0_shiftDown_11 : decode cX0_shiftDown 11 = .ok (.bipush 30, 2) := by decide +kernel
theorem dX0_shiftDown_13 : decode cX0_shiftDown 13 = .ok (.irem, 1) := by decide +kernel
theorem dX0_shiftDown_14 : decode cX0_shiftDown 14 = .ok (.istore_n 3, 1) := by decide +kernel
theorem dX0_shiftDown_15 : decode cX0_shiftDown 15 = .ok (.aload_n 0, 1) := by decide +kernel
theorem dX0_shiftDown_16 : decode cX0_shiftDown 16 = .ok (.getfield 19, 3) := by decide +kernel
theorem dX0_shiftDown_19 : decode cX0_shiftDown 19 = .ok (.iload_n 2, 1) := by decide +kernel
theorem dX0_shiftDown_20 : decode cX0_shiftDown 20 = .ok (.isub, 1) := by decide +kernel
theorem dX0_shiftDown_21 : decode cX0_shiftDown 21 = .ok (.iconst 1, 1) := by decide +kernel
theorem dX0_shiftDown_22 : decode cX0_shiftDown 22 = .ok (.invokestatic 9, 3) := by decide +kernel
theorem dX0_shiftDown_25 : decode cX0_shiftDown 25 = .ok (.istore 4, 2) := by decide +kernel
theorem dX0_shiftDown_27 : decode cX0_shiftDown 27 = .ok (.iconst 0, 1) := by decide +kernel
theorem dX0_shiftDown_28 : decode cX0_shiftDown 28 = .ok (.istore 5, 2) := by decide +kernel
theorem dX0_shiftDown_30 : decode cX0_shiftDown 30 = .ok (.iload 5, 2) := by decide +kernel
theorem dX0_shiftDown_32 : decode cX0_shiftDown 32 = .ok (.iload 4, 2) := by decide +kernel
theorem dX0_shiftDown_34 : decode cX0_shiftDown 34 = .ok (.iconst 1, 1) := by decide +kernel
theorem dX0_shiftDown_35 : decode cX0_shiftDown 35 = .ok (.isub, 1) := by decide +kernel
theorem dX0_shiftDown_36 : decode cX0_shiftDown 36 = .ok (.if_icmp .ge 50, 3) := by decide +kernel
theorem dX0_shiftDown_39 : decode cX0_shiftDown 39 = .ok (.aload_n 0, 1) := by decide +kernel
theorem dX0_shiftDown_40 : decode cX0_shiftDown 40 = .ok (.iload 5, 2) := by decide +kernel
theorem dX0_shiftDown_42 : decode cX0_shiftDown 42 = .ok (.iload_n 2, 1) := by decide +kernel
theorem dX0_shiftDown_43 : decode cX0_shiftDown 43 = .ok (.iadd, 1) := by decide +kernel
theorem dX0_shiftDown_44 : decode cX0_shiftDown 44 = .ok (.invokevirtual 51, 3) := by decide +kernel
theorem dX0_shiftDown_47 : decode cX0_shiftDown 47 = .ok (.iload_n 3, 1) := by decide +kernel
theorem dX0_shiftDown_48 : decode cX0_shiftDown 48 = .ok (.lshr, 1) := by decide +kernel
theorem dX0_shiftDown_49 : decode cX0_shiftDown 49 = .ok (.aload_n 0, 1) := by decide +kernel
theorem dX0_shiftDown_50 : decode cX0_shiftDown 50 = .ok (.iload 5, 2) := by decide +kernel
theorem dX0_shiftDown_52 : decode cX0_shiftDown 52 = .ok (.iload_n 2, 1) := by decide +kernel
theorem dX0_shiftDown_53 : decode cX0_shiftDown 53 = .ok (.iadd, 1) := by decide +kernel
theorem dX0_shiftDown_54 : decode cX0_shiftDown 54 = .ok (.iconst 1, 1) := by decide +kernel
theorem dX0_shiftDown_55 : decode cX0_shiftDown 55 = .ok (.iadd, 1) := by decide +kernel
theorem dX0_shiftDown_56 : decode cX0_shiftDown 56 = .ok (.invokevirtual 51, 3) := by decide +kernel
theorem dX0_shiftDown_59 : decode cX0_shiftDown 59 = .ok (.bipush 30, 2) := by decide +kernel
theorem dX0_shiftDown_61 : decode cX0_shiftDown 61 = .ok (.iload_n 3, 1) := by decide +kernel
theorem dX0_shiftDown_62 : decode cX0_shiftDown 62 = .ok (.isub, 1) := by decide +kernel
theorem dX0_shiftDown_63 : decode cX0_shiftDown 63 = .ok (.lshl, 1) := by decide +kernel
theorem dX0_shiftDown_64 : decode cX0_shiftDown 64 = .ok (.lor, 1) := by decide +kernel
theorem dX0_shiftDown_65 : decode cX0_shiftDown 65 = .ok (.lstore 6, 2) := by decide +kernel
theorem dX0_shiftDown_67 : decode cX0_shiftDown 67 = .ok (.aload_n 0, 1) := by decide +kernel
theorem dX0_shiftDown_68 : decode cX0_shiftDown 68 = .ok (.getfield 15, 3) := by decide +kernel
theorem dX0_shiftDown_71 : decode cX0_shiftDown 71 = .ok (.iload 5, 2) := by decide +kernel
theorem dX0_shiftDown_73 : decode cX0_shiftDown 73 = .ok (.lload 6, 2) := by decide +kernel
theorem dX0_shiftDown_75 : decode cX0_shiftDown 75 = .ok (.ldc2_w 23, 3) := by decide +kernel
theorem dX0_shiftDown_78 : decode cX0_shiftDown 78 = .ok (.land, 1) := by decide +kernel
theorem dX0_shiftDown_79 : decode cX0_shiftDown 79 = .ok (.lastore, 1) := by decide +kernel
theorem dX0_shiftDown_80 : decode cX0_shiftDown 80 = .ok (.iinc 5 1, 3) := by decide +kernel
theorem dX0_shiftDown_83 : decode cX0_shiftDown 83 = .ok (.goto (-53), 3) := by decide +kernel
theorem dX0_shiftDown_86 : decode cX0_shiftDown 86 = .ok (.aload_n 0, 1) := by decide +kernel
theorem dX0_shiftDown_87 : decode cX0_shiftDown 87 = .ok (.getfield 15, 3) := by decide +kernel
theorem dX0_shiftDown_90 : decode cX0_shiftDown 90 = .ok (.iload 4, 2) := by decide +kernel
theorem dX0_shiftDown_92 : decode cX0_shiftDown 92 = .ok (.iconst 1, 1) := by decide +kernel
theorem dX0_shiftDown_93 : decode cX0_shiftDown 93 = .ok (.isub, 1) := by decide +kernel
theorem dX0_shiftDown_94 : decode cX0_shiftDown 94 = .ok (.aload_n 0, 1) := by decide +kernel
theorem dX0_shiftDown_95 : decode cX0_shiftDown 95 = .ok (.iload 4, 2) := by decide +kernel
theorem dX0_shiftDown_97 : decode cX0_shiftDown 97 = .ok (.iconst 1, 1) := by decide +kernel
theorem dX0_shiftDown_98 : decode cX0_shiftDown 98 = .ok (.isub, 1) := by decide +kernel
theorem dX0_shiftDown_99 : decode cX0_shiftDown 99 = .ok (.iload_n 2, 1) := by decide +kernel
theorem dX0_shiftDown_100 : decode cX0_shiftDown 100 = .ok (.iadd, 1) := by decide +kernel
theorem dX0_shiftDown_101 : decode cX0_shiftDown 101 = .ok (.invokevirtual 51, 3) := by decide +kernel
theorem dX0_shiftDown_104 : decode cX0_shiftDown 104 = .ok (.iload_n 3, 1) := by decide +kernel
theorem dX0_shiftDown_105 : decode cX0_shiftDown 105 = .ok (.lshr, 1) := by decide +kernel
theorem dX0_shiftDown_106 : decode cX0_shiftDown 106 = .ok (.lastore, 1) := by decide +kernel
theorem dX0_shiftDown_107 : decode cX0_shiftDown 107 = .ok (.aload_n 0, 1) := by decide +kernel
theorem dX0_shiftDown_108 : decode cX0_shiftDown 108 = .ok (.iload 4, 2) := by decide +kernel
theorem dX0_shiftDown_110 : decode cX0_shiftDown 110 = .ok (.invokevirtual 25, 3) := by decide +kernel
theorem dX0_shiftDown_113 : decode cX0_shiftDown 113 = .ok (.return_, 1) := by decide +kernel
theorem dX0_setQuotient_0 : decode cX0_setQuotient 0 = .ok (.aload_n 1, 1) := by decide +kernel
theorem dX0_setQuotient_1 : decode cX0_setQuotient 1 = .ok (.getfield 19, 3) := by decide +kernel
theorem dX0_setQuotient_4 : decode cX0_setQuotient 4 = .ok (.aload_n 2, 1) := by decide +kernel
theorem dX0_setQuotient_5 : decode cX0_setQuotient 5 = .ok (.getfield 19, 3) := by decide +kernel
theorem dX0_setQuotient_8 : decode cX0_setQuotient 8 = .ok (.isub, 1) := by decide +kernel
theorem dX0_setQuotient_9 : decode cX0_setQuotient 9 = .ok (.iconst 2, 1) := by decide +kernel
theorem dX0_setQuotient_10 : decode cX0_setQuotient 10 = .ok (.iadd, 1) := by decide +kernel
theorem dX0_setQuotient_11 : decode cX0_setQuotient 11 = .ok (.iconst 1, 1) := by decide +kernel
theorem dX0_setQuotient_12 : decode cX0_setQuotient 12 = .ok (.invokestatic 9, 3) := by decide +kernel
theorem dX0_setQuotient_15 : decode cX0_setQuotient 15 = .ok (.istore_n 3, 1) := by decide +kernel
theorem dX0_setQuotient_16 : decode cX0_setQuotient 16 = .ok (.iload_n 3, 1) := by decide +kernel
theorem dX0_setQuotient_17 : decode cX0_setQuotient 17 = .ok (.aload_n 0, 1) := by decide +kernel
theorem dX0_setQuotient_18 : decode cX0_setQuotient 18 = .ok (.getfield 15, 3) := by decide +kernel
theorem dX0_setQuotient_21 : decode cX0_setQuotient 21 = .ok (.arraylength, 1) := by decide +kernel
theorem dX0_setQuotient_22 : decode cX0_setQuotient 22 = .ok (.if_icmp .gt 12, 3) := by decide +kernel
theorem dX0_setQuotient_25 : decode cX0_setQuotient 25 = .ok (.iload_n 3, 1) := by decide +kernel
theorem dX0_setQuotient_26 : decode cX0_setQuotient 26 = .ok (.aload_n 1, 1) := by decide +kernel
theorem dX0_setQuotient_27 : decode cX0_setQuotient 27 = .ok (.getfield 15, 3) := by decide +kernel
theorem dX0_setQuotient_30 : decode cX0_setQuotient 30 = .ok (.arraylength, 1) := by decide +kernel
theorem dX0_setQuotient_31 : decode cX0_setQuotient 31 = .ok (.if_icmp .le 8, 3) := by decide +kernel
theorem dX0_setQuotient_34 : decode cX0_setQuotient 34 = .ok (.aload_n 0, 1) := by decide +kernel
theorem dX0_setQuotient_35 : decode cX0_setQuotient 35 = .ok (.invokevirtual 29, 3) := by decide +kernel
theorem dX0_setQuotient_38 : decode cX0_setQuotient 38 = .ok (.return_, 1) := by decide +kernel
theorem dX0_setQuotient_39 : decode cX0_setQuotient 39 = .ok (.aload_n 1, 1) := by decide +kernel
theorem dX0_setQuotient_40 : decode cX0_setQuotient 40 = .ok (.getfield 19, 3) := by decide +kernel
theorem dX0_setQuotient_43 : decode cX0_setQuotient 43 = .ok (.istore 4, 2) := by decide +kernel
theorem dX0_setQuotient_45 : decode cX0_setQuotient 45 = .ok (.iload 4, 2) := by decide +kernel
theorem dX0_setQuotient_47 : decode cX0_setQuotient 47 = .ok (.iload_n 3, 1) := by decide +kernel
theorem dX0_setQuotient_48 : decode cX0_setQuotient 48 = .ok (.if_icmp .ge 17, 3) := by decide +kernel
theorem dX0_setQuotient_51 : decode cX0_setQuotient 51 = .ok (.aload_n 1, 1) := by decide +kernel
theorem dX0_setQuotient_52 : decode cX0_setQuotient 52 = .ok (.getfield 15, 3) := by decide +kernel
theorem dX0_setQuotient_55 : decode cX0_setQuotient 55 = .ok (.iload 4, 2) := by decide +kernel
theorem dX0_setQuotient_57 : decode cX0_setQuotient 57 = .ok (.lconst 0, 1) := by decide +kernel
theorem dX0_setQuotient_58 : decode cX0_setQuotient 58 = .ok (.lastore, 1) := by decide +kernel
theorem dX0_setQuotient_59 : decode cX0_setQuotient 59 = .ok (.iinc 4 1, 3) := by decide +kernel
theorem dX0_setQuotient_62 : decode cX0_setQuotient 62 = .ok (.goto (-17), 3) := by decide +kernel
theorem dX0_setQuotient_65 : decode cX0_setQuotient 65 = .ok (.aload_n 2, 1) := by decide +kernel
theorem dX0_setQuotient_66 : decode cX0_setQuotient 66 = .ok (.getfield 15, 3) := by decide +kernel
theorem dX0_setQuotient_69 : decode cX0_setQuotient 69 = .ok (.iconst 0, 1) := by decide +kernel
theorem dX0_setQuotient_70 : decode cX0_setQuotient 70 = .ok (.laload, 1) := by decide +kernel
theorem dX0_setQuotient_71 : decode cX0_setQuotient 71 = .ok (.invokestatic 55, 3) := by decide +kernel
theorem dX0_setQuotient_74 : decode cX0_setQuotient 74 = .ok (.lstore 4, 2) := by decide +kernel
theorem dX0_setQuotient_76 : decode cX0_setQuotient 76 = .ok (.iconst 0, 1) := by decide +kernel
theorem dX0_setQuotient_77 : decode cX0_setQuotient 77 = .ok (.istore 6, 2) := by decide +kernel
theorem dX0_setQuotient_79 : decode cX0_setQuotient 79 = .ok (.iload 6, 2) := by decide +kernel
theorem dX0_setQuotient_81 : decode cX0_setQuotient 81 = .ok (.iload_n 3, 1) := by decide +kernel
theorem dX0_setQuotient_82 : decode cX0_setQuotient 82 = .ok (.if_icmp .ge 117, 3) := by decide +kernel
theorem dX0_setQuotient_85 : decode cX0_setQuotient 85 = .ok (.aload_n 1, 1) := by decide +kernel
theorem dX0_setQuotient_86 : decode cX0_setQuotient 86 = .ok (.getfield 15, 3) := by decide +kernel
theorem dX0_setQuotient_89 : decode cX0_setQuotient 89 = .ok (.iload 6, 2) := by decide +kernel
theorem dX0_setQuotient_91 : decode cX0_setQuotient 91 = .ok (.laload, 1) := by decide +kernel
theorem dX0_setQuotient_92 : decode cX0_setQuotient 92 = .ok (.lload 4, 2) := by decide +kernel
theorem dX0_setQuotient_94 : decode cX0_setQuotient 94 = .ok (.lmul, 1) := by decide +kernel
theorem dX0_setQuotient_95 : decode cX0_setQuotient 95 = .ok (.ldc2_w 23, 3) := by decide +kernel
theorem dX0_setQuotient_98 : decode cX0_setQuotient 98 = .ok (.land, 1) := by decide +kernel
theorem dX0_setQuotient_99 : decode cX0_setQuotient 99 = .ok (.lstore 7, 2) := by decide +kernel
theorem dX0_setQuotient_101 : decode cX0_setQuotient 101 = .ok (.aload_n 0, 1) := by decide +kernel
theorem dX0_setQuotient_102 : decode cX0_setQuotient 102 = .ok (.getfield 15, 3) := by decide +kernel
theorem dX0_setQuotient_105 : decode cX0_setQuotient 105 = .ok (.iload 6, 2) := by decide +kernel
theorem dX0_setQuotient_107 : decode cX0_setQuotient 107 = .ok (.lload 7, 2) := by decide +kernel
theorem dX0_setQuotient_109 : decode cX0_setQuotient 109 = .ok (.lastore, 1) := by decide +kernel
theorem dX0_setQuotient_110 : decode cX0_setQuotient 110 = .ok (.lconst 0, 1) := by decide +kernel
theorem dX0_setQuotient_111 : decode cX0_setQuotient 111 = .ok (.lstore 9, 2) := by decide +kernel
theorem dX0_setQuotient_113 : decode cX0_setQuotient 113 = .ok (.iconst 0, 1) := by decide +kernel
theorem dX0_setQuotient_114 : decode cX0_setQuotient 114 = .ok (.istore 11, 2) := by decide +kernel
theorem dX0_setQuotient_116 : decode cX0_setQuotient 116 = .ok (.iload 6, 2) := by decide +kernel
theorem dX0_setQuotient_118 : decode cX0_setQuotient 118 = .ok (.iload 11, 2) := by decide +kernel
theorem dX0_setQuotient_120 : decode cX0_setQuotient 120 = .ok (.iadd, 1) := by decide +kernel
theorem dX0_setQuotient_121 : decode cX0_setQuotient 121 = .ok (.iload_n 3, 1) := by decide +kernel
theorem dX0_setQuotient_122 : decode cX0_setQuotient 122 = .ok (.if_icmp .ge 71, 3) := by decide +kernel
theorem dX0_setQuotient_125 : decode cX0_setQuotient 125 = .ok (.aload_n 1, 1) := by decide +kernel
theorem dX0_setQuotient_126 : decode cX0_setQuotient 126 = .ok (.getfield 15, 3) := by decide +kernel
theorem dX0_setQuotient_129 : decode cX0_setQuotient 129 = .ok (.iload 6, 2) := by decide +kernel
theorem dX0_setQuotient_131 : decode cX0_setQuotient 131 = .ok (.iload 11, 2) := by decide +kernel
theorem dX0_setQuotient_133 : decode cX0_setQuotient 133 = .ok (.iadd, 1) := by decide +kernel
theorem dX0_setQuotient_134 : decode cX0_setQuotient 134 = .ok (.laload, 1) := by decide +kernel
theorem dX0_setQuotient_135 : decode cX0_setQuotient 135 = .ok (.lload 9, 2) := by decide +kernel
theorem dX0_setQuotient_137 : decode cX0_setQuotient 137 = .ok (.ladd, 1) := by decide +kernel
theorem dX0_setQuotient_138 : decode cX0_setQuotient 138 = .ok (.lstore 12, 2) := by decide +kernel
theorem dX0_setQuotient_140 : decode cX0_setQuotient 140 = .ok (.iload 11, 2) := by decide +kernel
theorem dX0_setQuotient_142 : decode cX0_setQuotient 142 = .ok (.aload_n 2, 1) := by decide +kernel
theorem dX0_setQuotient_143 : decode cX0_setQuotient 143 = .ok (.getfield 19, 3) := by decide +kernel
theorem dX0_setQuotient_146 : decode cX0_setQuotient 146 = .ok (.if_icmp .ge 18, 3) := by decide +kernel
theorem dX0_setQuotient_149 : decode cX0_setQuotient 149 = .ok (.lload 12, 2) := by decide +kernel
theorem dX0_setQuotient_151 : decode cX0_setQuotient 151 = .ok (.lload 7, 2) := by decide +kernel
theorem dX0_setQuotient_153 : decode cX0_setQuotient 153 = .ok (.aload_n 2, 1) := by decide +kernel
theorem dX0_setQuotient_154 : decode cX0_setQuotient 154 = .ok (.getfield 15, 3) := by decide +kernel
theorem dX0_setQuotient_157 : decode cX0_setQuotient 157 = .ok (.iload 11, 2) := by decide +kernel
theorem dX0_setQuotient_159 : decode cX0_setQuotient 159 = .ok (.laload, 1) := by decide +kernel
theorem dX0_setQuotient_160 : decode cX0_setQuotient 160 = .ok (.lmul, 1) := by decide +kernel
theorem dX0_setQuotient_161 : decode cX0_setQuotient 161 = .ok (.lsub, 1) := by decide +kernel
theorem dX0_setQuotient_162 : decode cX0_setQuotient 162 = .ok (.lstore 12, 2) := by decide +kernel
theorem dX0_setQuotient_164 : decode cX0_setQuotient 164 = .ok (.aload_n 1, 1) := by decide +kernel
theorem dX0_setQuotient_165 : decode cX0_setQuotient 165 = .ok (.getfield 15, 3) := by decide +kernel
theorem dX0_setQuotient_168 : decode cX0_setQuotient 168 = .ok (.iload 6, 2) := by decide +kernel
theorem dX0_setQuotient_170 : decode cX0_setQuotient 170 = .ok (.iload 11, 2) := by decide +kernel
theorem dX0_setQuotient_172 : decode cX0_setQuotient 172 = .ok (.iadd, 1) := by decide +kernel
theorem dX0_setQuotient_173 : decode cX0_setQuotient 173 = .ok (.lload 12, 2) := by decide +kernel
theorem dX0_setQuotient_175 : decode cX0_setQuotient 175 = .ok (.ldc2_w 23, 3) := by decide +kernel
theorem dX0_setQuotient_178 : decode cX0_setQuotient 178 = .ok (.land, 1) := by decide +kernel
theorem dX0_setQuotient_179 : decode cX0_setQuotient 179 = .ok (.lastore, 1) := by decide +kernel
theorem dX0_setQuotient_180 : decode cX0_setQuotient 180 = .ok (.lload 12, 2) := by decide +kernel
theorem dX0_setQuotient_182 : decode cX0_setQuotient 182 = .ok (.bipush 30, 2) := by decide +kernel
theorem dX0_setQuotient_184 : decode cX0_setQuotient 184 = .ok (.lshr, 1) := by decide +kernel
theorem dX0_setQuotient_185 : decode cX0_setQuotient 185 = .ok (.lstore 9, 2) := by decide +kernel
theorem dX0_setQuotient_187 : decode cX0_setQuotient 187 = .ok (.iinc 11 1, 3) := by decide +kernel
theorem dX0_setQuotient_190 : decode cX0_setQuotient 190 = .ok (.goto (-74), 3) := by decide +kernel
theorem dX0_setQuotient_193 : decode cX0_setQuotient 193 = .ok (.iinc 6 1, 3) := by decide +kernel
theorem dX0_setQuotient_196 : decode cX0_setQuotient 196 = .ok (.goto (-117), 3) := by decide +kernel
theorem dX0_setQuotient_199 : decode cX0_setQuotient 199 = .ok (.aload_n 0, 1) := by decide +kernel
theorem dX0_setQuotient_200 : decode cX0_setQuotient 200 = .ok (.getfield 15, 3) := by decide +kernel
theorem dX0_setQuotient_203 : decode cX0_setQuotient 203 = .ok (.iload_n 3, 1) := by decide +kernel
theorem dX0_setQuotient_204 : decode cX0_setQuotient 204 = .ok (.iconst 1, 1) := by decide +kernel
theorem dX0_setQuotient_205 : decode cX0_setQuotient 205 = .ok (.isub, 1) := by decide +kernel
theorem dX0_setQuotient_206 : decode cX0_setQuotient 206 = .ok (.laload, 1) := by decide +kernel
theorem dX0_setQuotient_207 : decode cX0_setQuotient 207 = .ok (.ldc2_w 59, 3) := by decide +kernel
theorem dX0_setQuotient_210 : decode cX0_setQuotient 210 = .ok (.lcmp, 1) := by decide +kernel
theorem dX0_setQuotient_211 : decode cX0_setQuotient 211 = .ok (.ifCond .lt 17, 3) := by decide +kernel
theorem dX0_setQuotient_214 : decode cX0_setQuotient 214 = .ok (.aload_n 0, 1) := by decide +kernel
theorem dX0_setQuotient_215 : decode cX0_setQuotient 215 = .ok (.getfield 15, 3) := by decide +kernel
theorem dX0_setQuotient_218 : decode cX0_setQuotient 218 = .ok (.iload_n 3, 1) := by decide +kernel
theorem dX0_setQuotient_219 : decode cX0_setQuotient 219 = .ok (.iconst 1, 1) := by decide +kernel
theorem dX0_setQuotient_220 : decode cX0_setQuotient 220 = .ok (.isub, 1) := by decide +kernel
theorem dX0_setQuotient_221 : decode cX0_setQuotient 221 = .ok (.dup2, 1) := by decide +kernel
theorem dX0_setQuotient_222 : decode cX0_setQuotient 222 = .ok (.laload, 1) := by decide +kernel
theorem dX0_setQuotient_223 : decode cX0_setQuotient 223 = .ok (.ldc2_w 40, 3) := by decide +kernel
theorem dX0_setQuotient_226 : decode cX0_setQuotient 226 = .ok (.lsub, 1) := by decide +kernel
theorem dX0_setQuotient_227 : decode cX0_setQuotient 227 = .ok (.lastore, 1) := by decide +kernel
theorem dX0_setQuotient_228 : decode cX0_setQuotient 228 = .ok (.aload_n 0, 1) := by decide +kernel
theorem dX0_setQuotient_229 : decode cX0_setQuotient 229 = .ok (.iload_n 3, 1) := by decide +kernel
theorem dX0_setQuotient_230 : decode cX0_setQuotient 230 = .ok (.invokevirtual 25, 3) := by decide +kernel
theorem dX0_setQuotient_233 : decode cX0_setQuotient 233 = .ok (.return_, 1) := by decide +kernel
theorem dX0_inverseOf_0 : decode cX0_inverseOf 0 = .ok (.lload_n 0, 1) := by decide +kernel
theorem dX0_inverseOf_1 : decode cX0_inverseOf 1 = .ok (.ldc2_w 23, 3) := by decide +kernel
theorem dX0_inverseOf_4 : decode cX0_inverseOf 4 = .ok (.land, 1) := by decide +kernel
theorem dX0_inverseOf_5 : decode cX0_inverseOf 5 = .ok (.lstore_n 2, 1) := by decide +kernel
theorem dX0_inverseOf_6 : decode cX0_inverseOf 6 = .ok (.lload_n 2, 1) := by decide +kernel
theorem dX0_inverseOf_7 : decode cX0_inverseOf 7 = .ok (.lstore 4, 2) := by decide +kernel
theorem dX0_inverseOf_9 : decode cX0_inverseOf 9 = .ok (.iconst 3, 1) := by decide +kernel
theorem dX0_inverseOf_10 : decode cX0_inverseOf 10 = .ok (.istore 6, 2) := by decide +kernel
theorem dX0_inverseOf_12 : decode cX0_inverseOf 12 = .ok (.iload 6, 2) := by decide +kernel
theorem dX0_inverseOf_14 : decode cX0_inverseOf 14 = .ok (.bipush 30, 2) := by decide +kernel
theorem dX0_inverseOf_16 : decode cX0_inverseOf 16 = .ok (.if_icmp .ge 33, 3) := by decide +kernel
theorem dX0_inverseOf_19 : decode cX0_inverseOf 19 = .ok (.lload 4, 2) := by decide +kernel
theorem dX0_inverseOf_21 : decode cX0_inverseOf 21 = .ok (.ldc2_w 61, 3) := by decide +kernel
theorem dX0_inverseOf_24 : decode cX0_inverseOf 24 = .ok (.lload_n 2, 1) := by decide +kernel
theorem dX0_inverseOf_25 : decode cX0_inverseOf 25 = .ok (.lload 4, 2) := by decide +kernel
theorem dX0_inverseOf_27 : decode cX0_inverseOf 27 = .ok (.lmul, 1) := by decide +kernel
theorem dX0_inverseOf_28 : decode cX0_inverseOf 28 = .ok (.lsub, 1) := by decide +kernel
theorem dX0_inverseOf_29 : decode cX0_inverseOf 29 = .ok (.ldc2_w 23, 3) := by decide +kernel
theorem dX0_inverseOf_32 : decode cX0_inverseOf 32 = .ok (.land, 1) := by decide +kernel
theorem dX0_inverseOf_33 : decode cX0_inverseOf 33 = .ok (.lmul, 1) := by decide +kernel
theorem dX0_inverseOf_34 : decode cX0_inverseOf 34 = .ok (.ldc2_w 23, 3) := by decide +kernel
theorem dX0_inverseOf_37 : decode cX0_inverseOf 37 = .ok (.land, 1) := by decide +kernel
theorem dX0_inverseOf_38 : decode cX0_inverseOf 38 = .ok (.lstore 4, 2) := by decide +kernel
theorem dX0_inverseOf_40 : decode cX0_inverseOf 40 = .ok (.iload 6, 2) := by decide +kernel
theorem dX0_inverseOf_42 : decode cX0_inverseOf 42 = .ok (.iconst 2, 1) := by decide +kernel
theorem dX0_inverseOf_43 : decode cX0_inverseOf 43 = .ok (.imul, 1) := by decide +kernel
theorem dX0_inverseOf_44 : decode cX0_inverseOf 44 = .ok (.istore 6, 2) := by decide +kernel
theorem dX0_inverseOf_46 : decode cX0_inverseOf 46 = .ok (.goto (-34), 3) := by decide +kernel
theorem dX0_inverseOf_49 : decode cX0_inverseOf 49 = .ok (.lload 4, 2) := by decide +kernel
theorem dX0_inverseOf_51 : decode cX0_inverseOf 51 = .ok (.lreturn, 1) := by decide +kernel
theorem dX0_toLong_0 : decode cX0_toLong 0 = .ok (.lconst 0, 1) := by decide +kernel
theorem dX0_toLong_1 : decode cX0_toLong 1 = .ok (.lstore_n 1, 1) := by decide +kernel
theorem dX0_toLong_2 : decode cX0_toLong 2 = .ok (.aload_n 0, 1) := by decide +kernel
theorem dX0_toLong_3 : decode cX0_toLong 3 = .ok (.getfield 19, 3) := by decide +kernel
theorem dX0_toLong_6 : decode cX0_toLong 6 = .ok (.iconst 1, 1) := by decide +kernel
theorem dX0_toLong_7 : decode cX0_toLong 7 = .ok (.isub, 1) := by decide +kernel
theorem dX0_toLong_8 : decode cX0_toLong 8 = .ok (.istore_n 3, 1) := by decide +kernel
theorem dX0_toLong_9 : decode cX0_toLong 9 = .ok (.iload_n 3, 1) := by decide +kernel
theorem dX0_toLong_10 : decode cX0_toLong 10 = .ok (.ifCond .lt 21, 3) := by decide +kernel
theorem dX0_toLong_13 : decode cX0_toLong 13 = .ok (.lload_n 1, 1) := by decide +kernel
theorem dX0_toLong_14 : decode cX0_toLong 14 = .ok (.bipush 30, 2) := by decide +kernel
theorem dX0_toLong_16 : decode cX0_toLong 16 = .ok (.lshl, 1) := by decide +kernel
theorem dX0_toLong_17 : decode cX0_toLong 17 = .ok (.aload_n 0, 1) := by decide +kernel
theorem dX0_toLong_18 : decode cX0_toLong 18 = .ok (.getfield 15, 3) := by decide +kernel
theorem dX0_toLong_21 : decode cX0_toLong 21 = .ok (.iload_n 3, 1) := by decide +kernel
theorem dX0_toLong_22 : decode cX0_toLong 22 = .ok (.laload, 1) := by decide +kernel
theorem dX0_toLong_23 : decode cX0_toLong 23 = .ok (.ladd, 1) := by decide +kernel
theorem dX0_toLong_24 : decode cX0_toLong 24 = .ok (.lstore_n 1, 1) := by decide +kernel
theorem dX0_toLong_25 : decode cX0_toLong 25 = .ok (.iinc 3 (-1), 3) := by decide +kernel
theorem dX0_toLong_28 : decode cX0_toLong 28 = .ok (.goto (-19), 3) := by decide +kernel
theorem dX0_toLong_31 : decode cX0_toLong 31 = .ok (.lload_n 1, 1) := by decide +kernel
theorem dX0_toLong_32 : decode cX0_toLong 32 = .ok (.lreturn, 1) := by decide +kernel
theorem dX1_init_0 : decode cX1_init 0 = .ok (.aload_n 0, 1) := by decide +kernel
theorem dX1_init_1 : decode cX1_init 1 = .ok (.invokespecial 3, 3) := by decide +kernel
theorem dX1_init_4 : decode cX1_init 4 = .ok (.aload_n 0, 1) := by decide +kernel
theorem dX1_init_5 : decode cX1_init 5 = .ok (.bipush 9, 2) := by decide +kernel
theorem dX1_init_7 : decode cX1_init 7 = .ok (.bipush 9, 2) := by decide +kernel
theorem dX1_init_9 : decode cX1_init 9 = .ok (.multianewarray 9 2, 4) := by decide +kernel
theorem dX1_init_13 : decode cX1_init 13 = .ok (.putfield 11, 3) := by decide +kernel
theorem dX1_init_16 : decode cX1_init 16 = .ok (.aload_n 0, 1) := by decide +kernel
theorem dX1_init_17 : decode cX1_init 17 = .ok (.bipush 9, 2) := by decide +kernel
theorem dX1_init_19 : decode cX1_init 19 = .ok (.newarray .int, 2) := by decide +kernel
theorem dX1_init_21 : decode cX1_init 21 = .ok (.putfield 16, 3) := by decide +kernel
theorem dX1_init_24 : decode cX1_init 24 = .ok (.aload_n 0, 1) := by decide +kernel
theorem dX1_init_25 : decode cX1_init 25 = .ok (.bipush 9, 2) := by decide +kernel
theorem dX1_init_27 : decode cX1_init 27 = .ok (.newarray .long, 2) := by decide +kernel
theorem dX1_init_29 : decode cX1_init 29 = .ok (.putfield 20, 3) := by decide +kernel
theorem dX1_init_32 : decode cX1_init 32 = .ok (.aload_n 0, 1) := by decide +kernel
theorem dX1_init_33 : decode cX1_init 33 = .ok (.aload_n 1, 1) := by decide +kernel
theorem dX1_init_34 : decode cX1_init 34 = .ok (.putfield 24, 3) := by decide +kernel
theorem dX1_init_37 : decode cX1_init 37 = .ok (.return_, 1) := by decide +kernel
theorem dX1_prove_0 : decode cX1_prove 0 = .ok (.aload_n 1, 1) := by decide +kernel
theorem dX1_prove_1 : decode cX1_prove 1 = .ok (.getfield 28, 3) := by decide +kernel
theorem dX1_prove_4 : decode cX1_prove 4 = .ok (.ifCond .eq 4, 3) := by decide +kernel
theorem dX1_prove_7 : decode cX1_prove 7 = .ok (.return_, 1) := by decide +kernel
theorem dX1_prove_8 : decode cX1_prove 8 = .ok (.aload_n 1, 1) := by decide +kernel
theorem dX1_prove_9 : decode cX1_prove 9 = .ok (.iconst 0, 1) := by decide +kernel
theorem dX1_prove_10 : decode cX1_prove 10 = .ok (.putfield 34, 3) := by decide +kernel
theorem dX1_prove_13 : decode cX1_prove 13 = .ok (.aload_n 1, 1) := by decide +kernel
theorem dX1_prove_14 : decode cX1_prove 14 = .ok (.iconst 0, 1) := by decide +kernel
theorem dX1_prove_15 : decode cX1_prove 15 = .ok (.putfield 38, 3) := by decide +kernel
theorem dX1_prove_18 : decode cX1_prove 18 = .ok (.aload_n 1, 1) := by decide +kernel
theorem dX1_prove_19 : decode cX1_prove 19 = .ok (.iconst 0, 1) := by decide +kernel
theorem dX1_prove_20 : decode cX1_prove 20 = .ok (.putfield 41, 3) := by decide +kernel
theorem dX1_prove_23 : decode cX1_prove 23 = .ok (.aload_n 1, 1) := by decide +kernel
theorem dX1_prove_24 : decode cX1_prove 24 = .ok (.iconst 0, 1) := by decide +kernel
theorem dX1_prove_25 : decode cX1_prove 25 = .ok (.putfield 44, 3) := by decide +kernel
theorem dX1_prove_28 : decode cX1_prove 28 = .ok (.aload_n 0, 1) := by decide +kernel
theorem dX1_prove_29 : decode cX1_prove 29 = .ok (.aload_n 1, 1) := by decide +kernel
theorem dX1_prove_30 : decode cX1_prove 30 = .ok (.getfield 47, 3) := by decide +kernel
theorem dX1_prove_33 : decode cX1_prove 33 = .ok (.aload_n 1, 1) := by decide +kernel
theorem dX1_prove_34 : decode cX1_prove 34 = .ok (.invokevirtual 50, 3) := by decide +kernel
theorem dX1_prove_37 : decode cX1_prove 37 = .ok (.iconst 0, 1) := by decide +kernel
theorem dX1_prove_38 : decode cX1_prove 38 = .ok (.istore_n 2, 1) := by decide +kernel
theorem dX1_prove_39 : decode cX1_prove 39 = .ok (.iload_n 2, 1) := by decide +kernel
theorem dX1_prove_40 : decode cX1_prove 40 = .ok (.aload_n 0, 1) := by decide +kernel
theorem dX1_prove_41 : decode cX1_prove 41 = .ok (.getfield 54, 3) := by decide +kernel
theorem dX1_prove_44 : decode cX1_prove 44 = .ok (.if_icmp .ge 47, 3) := by decide +kernel
theorem dX1_prove_47 : decode cX1_prove 47 = .ok (.aload_n 1, 1) := by decide +kernel
theorem dX1_prove_48 : decode cX1_prove 48 = .ok (.dup, 1) := by decide +kernel
theorem dX1_prove_49 : decode cX1_prove 49 = .ok (.getfield 38, 3) := by decide +kernel
theorem dX1_prove_52 : decode cX1_prove 52 = .ok (.aload_n 0, 1) := by decide +kernel
theorem dX1_prove_53 : decode cX1_prove 53 = .ok (.getfield 16, 3) := by decide +kernel
theorem dX1_prove_56 : decode cX1_prove 56 = .ok (.iload_n 2, 1) := by decide +kernel
theorem dX1_prove_57 : decode cX1_prove 57 = .ok (.iaload, 1) := by decide +kernel
theorem dX1_prove_58 : decode cX1_prove 58 = .ok (.iadd, 1) := by decide +kernel
theorem dX1_prove_59 : decode cX1_prove 59 = .ok (.putfield 38, 3) := by decide +kernel
theorem dX1_prove_62 : decode cX1_prove 62 = .ok (.aload_n 1, 1) := by decide +kernel
theorem dX1_prove_63 : decode cX1_prove 63 = .ok (.dup, 1) := by decide +kernel
theorem dX1_prove_64 : decode cX1_prove 64 = .ok (.getfield 44, 3) := by decide +kernel
theorem dX1_prove_67 : decode cX1_prove 67 = .ok (.aload_n 0, 1) := by decide +kernel
theorem dX1_prove_68 : decode cX1_prove 68 = .ok (.getfield 16, 3) := by decide +kernel
theorem dX1_prove_71 : decode cX1_prove 71 = .ok (.iload_n 2, 1) := by decide +kernel
theorem dX1_prove_72 : decode cX1_prove 72 = .ok (.iaload, 1) := by decide +kernel
theorem dX1_prove_73 : decode cX1_prove 73 = .ok (.ifCond .le 7, 3) := by decide +kernel
theorem dX1_prove_76 : decode cX1_prove 76 = .ok (.iconst 1, 1) := by decide +kernel
theorem dX1_prove_77 : decode cX1_prove 77 = .ok (.goto 4, 3) := by decide +kernel
theorem dX1_prove_80 : decode cX1_prove 80 = .ok (.iconst 0, 1) := by decide +kernel
theorem dX1_prove_81 : decode cX1_prove 81 = .ok (.iadd, 1) := by decide +kernel
theorem dX1_prove_82 : decode cX1_prove 82 = .ok (.putfield 44, 3) := by decide +kernel
theorem dX1_prove_85 : decode cX1_prove 85 = .ok (.iinc 2 1, 3) := by decide +kernel
theorem dX1_prove_88 : decode cX1_prove 88 = .ok (.goto (-49), 3) := by decide +kernel
theorem dX1_prove_91 : decode cX1_prove 91 = .ok (.aload_n 1, 1) := by decide +kernel
theorem dX1_prove_92 : decode cX1_prove 92 = .ok (.aload_n 0, 1) := by decide +kernel
theorem dX1_prove_93 : decode cX1_prove 93 = .ok (.getfield 54, 3) := by decide +kernel
theorem dX1_prove_96 : decode cX1_prove 96 = .ok (.ifCond .le 12, 3) := by decide +kernel
theorem dX1_prove_99 : decode cX1_prove 99 = .ok (.aload_n 0, 1) := by decide +kernel
theorem dX1_prove_100 : decode cX1_prove 100 = .ok (.getfield 16, 3) := by decide +kernel
theorem dX1_prove_103 : decode cX1_prove 103 = .ok (.iconst 0, 1) := by decide +kernel
theorem dX1_prove_104 : decode cX1_prove 104 = .ok (.iaload, 1) := by decide +kernel
theorem dX1_prove_105 : decode cX1_prove 105 = .ok (.goto 4, 3) := by decide +kernel
theorem dX1_prove_108 : decode cX1_prove 108 = .ok (.iconst 0, 1) := by decide +kernel
theorem dX1_prove_109 : decode cX1_prove 109 = .ok (.putfield 41, 3) := by decide +kernel
theorem dX1_prove_112 : decode cX1_prove 112 = .ok (.aload_n 1, 1) := by decide +kernel
theorem dX1_prove_113 : decode cX1_prove 113 = .ok (.getfield 47, 3) := by decide +kernel
theorem dX1_prove_116 : decode cX1_prove 116 = .ok (.invokestatic 57, 3) := by decide +kernel
theorem dX1_prove_119 : decode cX1_prove 119 = .ok (.istore_n 2, 1) := by decide +kernel
theorem dX1_prove_120 : decode cX1_prove 120 = .ok (.aload_n 1, 1) := by decide +kernel
theorem dX1_prove_121 : decode cX1_prove 121 = .ok (.iload_n 2, 1) := by decide +kernel
theorem dX1_prove_122 : decode cX1_prove 122 = .ok (.ifCond .lt 15, 3) := by decide +kernel
theorem dX1_prove_125 : decode cX1_prove 125 = .ok (.aload_n 1, 1) := by decide +kernel
theorem dX1_prove_126 : decode cX1_prove 126 = .ok (.getfield 38, 3) := by decide +kernel
theorem dX1_prove_129 : decode cX1_prove 129 = .ok (.iload_n 2, 1) := by decide +kernel
theorem dX1_prove_130 : decode cX1_prove 130 = .ok (.if_icmp .ne 7, 3) := by decide +kernel
theorem dX1_prove_133 : decode cX1_prove 133 = .ok (.iconst 1, 1) := by decide +kernel
theorem dX1_prove_134 : decode cX1_prove 134 = .ok (.goto 4, 3) := by decide +kernel
theorem dX1_prove_137 : decode cX1_prove 137 = .ok (.iconst 0, 1) := by decide +kernel
theorem dX1_prove_138 : decode cX1_prove 138 = .ok (.putfield 63, 3) := by decide +kernel
theorem dX1_prove_141 : decode cX1_prove 141 = .ok (.aload_n 1, 1) := by decide +kernel
theorem dX1_prove_142 : decode cX1_prove 142 = .ok (.iconst 1, 1) := by decide +kernel
theorem dX1_prove_143 : decode cX1_prove 143 = .ok (.putfield 28, 3) := by decide +kernel
theorem dX1_prove_146 : decode cX1_prove 146 = .ok (.return_, 1) := by decide +kernel
theorem dX1_build_0 : decode cX1_build 0 = .ok (.aload_n 1, 1) := by decide +kernel
theorem dX1_build_1 : decode cX1_build 1 = .ok (.iconst 0, 1) := by decide +kernel
theorem dX1_build_2 : decode cX1_build 2 = .ok (.aload_n 0, 1) := by decide +kernel
theorem dX1_build_3 : decode cX1_build 3 = .ok (.getfield 11, 3) := by decide +kernel
theorem dX1_build_6 : decode cX1_build 6 = .ok (.iconst 0, 1) := by decide +kernel
theorem dX1_build_7 : decode cX1_build 7 = .ok (.aaload, 1) := by decide +kernel
theorem dX1_build_8 : decode cX1_build 8 = .ok (.iconst 0, 1) := by decide +kernel
theorem dX1_build_9 : decode cX1_build 9 = .ok (.bipush 9, 2) := by decide +kernel
theorem dX1_build_11 : decode cX1_build 11 = .ok (.invokestatic 66, 3) := by decide +kernel
theorem dX1_build_14 : decode cX1_build 14 = .ok (.aload_n 0, 1) := by decide +kernel
theorem dX1_build_15 : decode cX1_build 15 = .ok (.iconst 0, 1) := by decide +kernel
theorem dX1_build_16 : decode cX1_build 16 = .ok (.putfield 54, 3) := by decide +kernel
theorem dX1_build_19 : decode cX1_build 19 = .ok (.aload_n 0, 1) := by decide +kernel
theorem dX1_build_20 : decode cX1_build 20 = .ok (.getfield 54, 3) := by decide +kernel
theorem dX1_build_23 : decode cX1_build 23 = .ok (.bipush 8, 2) := by decide +kernel
theorem dX1_build_25 : decode cX1_build 25 = .ok (.if_icmp .ge 111, 3) := by decide +kernel
theorem dX1_build_28 : decode cX1_build 28 = .ok (.aload_n 0, 1) := by decide +kernel
theorem dX1_build_29 : decode cX1_build 29 = .ok (.getfield 11, 3) := by decide +kernel
theorem dX1_build_32 : decode cX1_build 32 = .ok (.aload_n 0, 1) := by decide +kernel
theorem dX1_build_33 : decode cX1_build 33 = .ok (.getfield 54, 3) := by decide +kernel
theorem dX1_build_36 : decode cX1_build 36 = .ok (.aaload, 1) := by decide +kernel
theorem dX1_build_37 : decode cX1_build 37 = .ok (.invokestatic 57, 3) := by decide +kernel
theorem dX1_build_40 : decode cX1_build 40 = .ok (.ifCond .le 96, 3) := by decide +kernel
theorem dX1_build_43 : decode cX1_build 43 = .ok (.aload_n 0, 1) := by decide +kernel
theorem dX1_build_44 : decode cX1_build 44 = .ok (.getfield 20, 3) := by decide +kernel
theorem dX1_build_47 : decode cX1_build 47 = .ok (.aload_n 0, 1) := by decide +kernel
theorem dX1_build_48 : decode cX1_build 48 = .ok (.getfield 11, 3) := by decide +kernel
theorem dX1_build_51 : decode cX1_build 51 = .ok (.aload_n 0, 1) := by decide +kernel
theorem dX1_build_52 : decode cX1_build 52 = .ok (.getfield 54, 3) := by decide +kernel
theorem dX1_build_55 : decode cX1_build 55 = .ok (.aaload, 1) := by decide +kernel
theorem dX1_build_56 : decode cX1_build 56 = .ok (.invokestatic 72, 3) := by decide +kernel
theorem dX1_build_59 : decode cX1_build 59 = .ok (.aload_n 0, 1) := by decide +kernel
theorem dX1_build_60 : decode cX1_build 60 = .ok (.getfield 24, 3) := by decide +kernel
theorem dX1_build_63 : decode cX1_build 63 = .ok (.aload_n 0, 1) := by decide +kernel
theorem dX1_build_64 : decode cX1_build 64 = .ok (.getfield 11, 3) := by decide +kernel
theorem dX1_build_67 : decode cX1_build 67 = .ok (.aload_n 0, 1) := by decide +kernel
theorem dX1_build_68 : decode cX1_build 68 = .ok (.getfield 54, 3) := by decide +kernel
theorem dX1_build_71 : decode cX1_build 71 = .ok (.aaload, 1) := by decide +kernel
theorem dX1_build_72 : decode cX1_build 72 = .ok (.aload_n 0, 1) := by decide +kernel
theorem dX1_build_73 : decode cX1_build 73 = .ok (.getfield 20, 3) := by decide +kernel
theorem dX1_build_76 : decode cX1_build 76 = .ok (.invokevirtual 76, 3) := by decide +kernel
theorem dX1_build_79 : decode cX1_build 79 = .ok (.aload_n 0, 1) := by decide +kernel
theorem dX1_build_80 : decode cX1_build 80 = .ok (.getfield 54, 3) := by decide +kernel
theorem dX1_build_83 : decode cX1_build 83 = .ok (.ifCond .ne 8, 3) := by decide +kernel
theorem dX1_build_86 : decode cX1_build 86 = .ok (.aload_n 0, 1) := by decide +kernel
theorem dX1_build_87 : decode cX1_build 87 = .ok (.aload_n 2, 1) := by decide +kernel
theorem dX1_build_88 : decode cX1_build 88 = .ok (.invokevirtual 81, 3) := by decide +kernel
theorem dX1_build_91 : decode cX1_build 91 = .ok (.aload_n 0, 1) := by decide +kernel
theorem dX1_build_92 : decode cX1_build 92 = .ok (.getfield 16, 3) := by decide +kernel
theorem dX1_build_95 : decode cX1_build 95 = .ok (.aload_n 0, 1) := by decide +kernel
theorem dX1_build_96 : decode cX1_build 96 = .ok (.getfield 54, 3) := by decide +kernel
theorem dX1_build_99 : decode cX1_build 99 = .ok (.aload_n 0, 1) := by decide +kernel
theorem dX1_build_100 : decode cX1_build 100 = .ok (.getfield 24, 3) := by decide +kernel
theorem dX1_build_103 : decode cX1_build 103 = .ok (.invokevirtual 85, 3) := by decide +kernel
theorem dX1_build_106 : decode cX1_build 106 = .ok (.iastore, 1) := by decide +kernel
theorem dX1_build_107 : decode cX1_build 107 = .ok (.aload_n 0, 1) := by decide +kernel
theorem dX1_build_108 : decode cX1_build 108 = .ok (.dup, 1) := by decide +kernel
theorem dX1_build_109 : decode cX1_build 109 = .ok (.getfield 54, 3) := by decide +kernel
theorem dX1_build_112 : decode cX1_build 112 = .ok (.iconst 1, 1) := by decide +kernel
theorem dX1_build_113 : decode cX1_build 113 = .ok (.iadd, 1) := by decide +kernel
theorem dX1_build_114 : decode cX1_build 114 = .ok (.putfield 54, 3) := by decide +kernel
theorem dX1_build_117 : decode cX1_build 117 = .ok (.aload_n 0, 1) := by decide +kernel
theorem dX1_build_118 : decode cX1_build 118 = .ok (.getfield 24, 3) := by decide +kernel
theorem dX1_build_121 : decode cX1_build 121 = .ok (.aload_n 0, 1) := by decide +kernel
theorem dX1_build_122 : decode cX1_build 122 = .ok (.getfield 11, 3) := by decide +kernel
theorem dX1_build_125 : decode cX1_build 125 = .ok (.aload_n 0, 1) := by decide +kernel
theorem dX1_build_126 : decode cX1_build 126 = .ok (.getfield 54, 3) := by decide +kernel
theorem dX1_build_129 : decode cX1_build 129 = .ok (.aaload, 1) := by decide +kernel
theorem dX1_build_130 : decode cX1_build 130 = .ok (.invokevirtual 89, 3) := by decide +kernel
theorem dX1_build_133 : decode cX1_build 133 = .ok (.goto (-114), 3) := by decide +kernel
theorem dX1_build_136 : decode cX1_build 136 = .ok (.return_, 1) := by decide +kernel
theorem dX1_keepProof_0 : decode cX1_keepProof 0 = .ok (.aload_n 1, 1) := by decide +kernel
theorem dX1_keepProof_1 : decode cX1_keepProof 1 = .ok (.aload_n 0, 1) := by decide +kernel
theorem dX1_keepProof_2 : decode cX1_keepProof 2 = .ok (.getfield 24, 3) := by decide +kernel
theorem dX1_keepProof_5 : decode cX1_keepProof 5 = .ok (.getfield 93, 3) := by decide +kernel
theorem dX1_keepProof_8 : decode cX1_keepProof 8 = .ok (.putfield 34, 3) := by decide +kernel
theorem dX1_keepProof_11 : decode cX1_keepProof 11 = .ok (.iconst 0, 1) := by decide +kernel
theorem dX1_keepProof_12 : decode cX1_keepProof 12 = .ok (.istore_n 2, 1) := by decide +kernel
theorem dX1_keepProof_13 : decode cX1_keepProof 13 = .ok (.iload_n 2, 1) := by decide +kernel
theorem dX1_keepProof_14 : decode cX1_keepProof 14 = .ok (.aload_n 0, 1) := by decide +kernel
theorem dX1_keepProof_15 : decode cX1_keepProof 15 = .ok (.getfield 24, 3) := by decide +kernel
theorem dX1_keepProof_18 : decode cX1_keepProof 18 = .ok (.getfield 93, 3) := by decide +kernel
theorem dX1_keepProof_21 : decode cX1_keepProof 21 = .ok (.if_icmp .ge 45, 3) := by decide +kernel
theorem dX1_keepProof_24 : decode cX1_keepProof 24 = .ok (.iload_n 2, 1) := by decide +kernel
theorem dX1_keepProof_25 : decode cX1_keepProof 25 = .ok (.bipush 10, 2) := by decide +kernel
theorem dX1_keepProof_27 : decode cX1_keepProof 27 = .ok (.if_icmp .ge 39, 3) := by decide +kernel
theorem dX1_keepProof_30 : decode cX1_keepProof 30 = .ok (.aload_n 1, 1) := by decide +kernel
theorem dX1_keepProof_31 : decode cX1_keepProof 31 = .ok (.getfield 94, 3) := by decide +kernel
theorem dX1_keepProof_34 : decode cX1_keepProof 34 = .ok (.iload_n 2, 1) := by decide +kernel
theorem dX1_keepProof_35 : decode cX1_keepProof 35 = .ok (.aload_n 0, 1) := by decide +kernel
theorem dX1_keepProof_36 : decode cX1_keepProof 36 = .ok (.getfield 24, 3) := by decide +kernel
theorem dX1_keepProof_39 : decode cX1_keepProof 39 = .ok (.getfield 97, 3) := by decide +kernel
theorem dX1_keepProof_42 : decode cX1_keepProof 42 = .ok (.iload_n 2, 1) := by decide +kernel
theorem dX1_keepProof_43 : decode cX1_keepProof 43 = .ok (.iaload, 1) := by decide +kernel
theorem dX1_keepProof_44 : decode cX1_keepProof 44 = .ok (.iastore, 1) := by decide +kernel
theorem dX1_keepProof_45 : decode cX1_keepProof 45 = .ok (.aload_n 1, 1) := by decide +kernel
theorem dX1_keepProof_46 : decode cX1_keepProof 46 = .ok (.getfield 98, 3) := by decide +kernel
theorem dX1_keepProof_49 : decode cX1_keepProof 49 = .ok (.iload_n 2, 1) := by decide +kernel
theorem dX1_keepProof_50 : decode cX1_keepProof 50 = .ok (.aload_n 0, 1) := by decide +kernel
theorem dX1_keepProof_51 : decode cX1_keepProof 51 = .ok (.getfield 24, 3) := by decide +kernel
theorem dX1_keepProof_54 : decode cX1_keepProof 54 = .ok (.getfield 101, 3) := by decide +kernel
theorem dX1_keepProof_57 : decode cX1_keepProof 57 = .ok (.iload_n 2, 1) := by decide +kernel
theorem dX1_keepProof_58 : decode cX1_keepProof 58 = .ok (.iaload, 1) := by decide +kernel
theorem dX1_keepProof_59 : decode cX1_keepProof 59 = .ok (.iastore, 1) := by decide +kernel
theorem dX1_keepProof_60 : decode cX1_keepProof 60 = .ok (.iinc 2 1, 3) := by decide +kernel
theorem dX1_keepProof_63 : decode cX1_keepProof 63 = .ok (.goto (-50), 3) := by decide +kernel
theorem dX1_keepProof_66 : decode cX1_keepProof 66 = .ok (.return_, 1) := by decide +kernel
theorem dX2_init_0 : decode cX2_init 0 = .ok (.aload_n 0, 1) := by decide +kernel
theorem dX2_init_1 : decode cX2_init 1 = .ok (.invokespecial 3, 3) := by decide +kernel
theorem dX2_init_4 : decode cX2_init 4 = .ok (.aload_n 0, 1) := by decide +kernel
theorem dX2_init_5 : decode cX2_init 5 = .ok (.bipush 17, 2) := by decide +kernel
theorem dX2_init_7 : decode cX2_init 7 = .ok (.newarray .long, 2) := by decide +kernel
theorem dX2_init_9 : decode cX2_init 9 = .ok (.putfield 9, 3) := by decide +kernel
theorem dX2_init_12 : decode cX2_init 12 = .ok (.return_, 1) := by decide +kernel
theorem dX2_apply_0 : decode cX2_apply 0 = .ok (.aload_n 0, 1) := by decide +kernel
theorem dX2_apply_1 : decode cX2_apply 1 = .ok (.invokevirtual 15, 3) := by decide +kernel
theorem dX2_apply_4 : decode cX2_apply 4 = .ok (.iload_n 2, 1) := by decide +kernel
theorem dX2_apply_5 : decode cX2_apply 5 = .ok (.tableswitch 192 0 9 #[55, 65, 75, 93, 111, 118, 126, 133, 167, 184], 55) := by decide +kernel
theorem dX2_apply_60 : decode cX2_apply 60 = .ok (.aload_n 0, 1) := by decide +kernel
theorem dX2_apply_61 : decode cX2_apply 61 = .ok (.aload_n 1, 1) := by decide +kernel
theorem dX2_apply_62 : decode cX2_apply 62 = .ok (.iconst 0, 1) := by decide +kernel
theorem dX2_apply_63 : decode cX2_apply 63 = .ok (.lconst 1, 1) := by decide +kernel
theorem dX2_apply_64 : decode cX2_apply 64 = .ok (.invokevirtual 18, 3) := by decide +kernel
theorem dX2_apply_67 : decode cX2_apply 67 = .ok (.goto 132, 3) := by decide +kernel
theorem dX2_apply_70 : decode cX2_apply 70 = .ok (.aload_n 0, 1) := by decide +kernel
theorem dX2_apply_71 : decode cX2_apply 71 = .ok (.aload_n 1, 1) := by decide +kernel
theorem dX2_apply_72 : decode cX2_apply 72 = .ok (.iconst 1, 1) := by decide +kernel
theorem dX2_apply_73 : decode cX2_apply 73 = .ok (.lconst 1, 1) := by decide +kernel
theorem dX2_apply_74 : decode cX2_apply 74 = .ok (.invokevirtual 18, 3) := by decide +kernel
theorem dX2_apply_77 : decode cX2_apply 77 = .ok (.goto 122, 3) := by decide +kernel
theorem dX2_apply_80 : decode cX2_apply 80 = .ok (.aload_n 0, 1) := by decide +kernel
theorem dX2_apply_81 : decode cX2_apply 81 = .ok (.aload_n 1, 1) := by decide +kernel
theorem dX2_apply_82 : decode cX2_apply 82 = .ok (.iconst 0, 1) := by decide +kernel
theorem dX2_apply_83 : decode cX2_apply 83 = .ok (.lconst 1, 1) := by decide +kernel
theorem dX2_apply_84 : decode cX2_apply 84 = .ok (.invokevirtual 22, 3) := by decide +kernel
theorem dX2_apply_87 : decode cX2_apply 87 = .ok (.aload_n 0, 1) := by decide +kernel
theorem dX2_apply_88 : decode cX2_apply 88 = .ok (.aload_n 1, 1) := by decide +kernel
theorem dX2_apply_89 : decode cX2_apply 89 = .ok (.iconst 0, 1) := by decide +kernel
theorem dX2_apply_90 : decode cX2_apply 90 = .ok (.iload_n 3, 1) := by decide +kernel
theorem dX2_apply_91 : decode cX2_apply 91 = .ok (.i2l, 1) := by decide +kernel
theorem dX2_apply_92 : decode cX2_apply 92 = .ok (.invokevirtual 18, 3) := by decide +kernel
theorem dX2_apply_95 : decode cX2_apply 95 = .ok (.goto 104, 3) := by decide +kernel
theorem dX2_apply_98 : decode cX2_apply 98 = .ok (.aload_n 0, 1) := by decide +kernel
theorem dX2_apply_99 : decode cX2_apply 99 = .ok (.aload_n 1, 1) := by decide +kernel
theorem dX2_apply_100 : decode cX2_apply 100 = .ok (.iconst 1, 1) := by decide +kernel
theorem dX2_apply_101 : decode cX2_apply 101 = .ok (.lconst 1, 1) := by decide +kernel
theorem dX2_apply_102 : decode cX2_apply 102 = .ok (.invokevirtual 22, 3) := by decide +kernel
theorem dX2_apply_105 : decode cX2_apply 105 = .ok (.aload_n 0, 1) := by decide +kernel
theorem dX2_apply_106 : decode cX2_apply 106 = .ok (.aload_n 1, 1) := by decide +kernel
theorem dX2_apply_107 : decode cX2_apply 107 = .ok (.iconst 0, 1) := by decide +kernel
theorem dX2_apply_108 : decode cX2_apply 108 = .ok (.iload_n 3, 1) := by decide +kernel
theorem dX2_apply_109 : decode cX2_apply 109 = .ok (.i2l, 1) := by decide +kernel
theorem dX2_apply_110 : decode cX2_apply 110 = .ok (.invokevirtual 22, 3) := by decide +kernel
theorem dX2_apply_113 : decode cX2_apply 113 = .ok (.goto 86, 3) := by decide +kernel
theorem dX2_apply_116 : decode cX2_apply 116 = .ok (.aload_n 0, 1) := by decide +kernel
theorem dX2_apply_117 : decode cX2_apply 117 = .ok (.aload_n 1, 1) := by decide +kernel
theorem dX2_apply_118 : decode cX2_apply 118 = .ok (.iload_n 3, 1) := by decide +kernel
theorem dX2_apply_119 : decode cX2_apply 119 = .ok (.invokevirtual 25, 3) := by decide +kernel
theorem dX2_apply_122 : decode cX2_apply 122 = .ok (.ireturn, 1) := by decide +kernel
theorem dX2_apply_123 : decode cX2_apply 123 = .ok (.aload_n 0, 1) := by decide +kernel
theorem dX2_apply_124 : decode cX2_apply 124 = .ok (.aload_n 1, 1) := by decide +kernel
theorem dX2_apply_125 : decode cX2_apply 125 = .ok (.invokevirtual 29, 3) := by decide +kernel
theorem dX2_apply_128 : decode cX2_apply 128 = .ok (.goto 71, 3) := by decide +kernel
theorem dX2_apply_131 : decode cX2_apply 131 = .ok (.aload_n 0, 1) := by decide +kernel
theorem dX2_apply_132 : decode cX2_apply 132 = .ok (.aload_n 1, 1) := by decide +kernel
theorem dX2_apply_133 : decode cX2_apply 133 = .ok (.iload_n 3, 1) := by decide +kernel
theorem dX2_apply_134 : decode cX2_apply 134 = .ok (.invokevirtual 33, 3) := by decide +kernel
theorem dX2_apply_137 : decode cX2_apply 137 = .ok (.ireturn, 1) := by decide +kernel
theorem dX2_apply_138 : decode cX2_apply 138 = .ok (.aload_n 0, 1) := by decide +kernel
theorem dX2_apply_139 : decode cX2_apply 139 = .ok (.aload_n 1, 1) := by decide +kernel
theorem dX2_apply_140 : decode cX2_apply 140 = .ok (.iconst 0, 1) := by decide +kernel
theorem dX2_apply_141 : decode cX2_apply 141 = .ok (.lconst 1, 1) := by decide +kernel
theorem dX2_apply_142 : decode cX2_apply 142 = .ok (.invokevirtual 22, 3) := by decide +kernel
theorem dX2_apply_145 : decode cX2_apply 145 = .ok (.aload_n 0, 1) := by decide +kernel
theorem dX2_apply_146 : decode cX2_apply 146 = .ok (.aload_n 1, 1) := by decide +kernel
theorem dX2_apply_147 : decode cX2_apply 147 = .ok (.iconst 1, 1) := by decide +kernel
theorem dX2_apply_148 : decode cX2_apply 148 = .ok (.iload_n 3, 1) := by decide +kernel
theorem dX2_apply_149 : decode cX2_apply 149 = .ok (.i2l, 1) := by decide +kernel
theorem dX2_apply_150 : decode cX2_apply 150 = .ok (.invokevirtual 22, 3) := by decide +kernel
theorem dX2_apply_153 : decode cX2_apply 153 = .ok (.aload_n 0, 1) := by decide +kernel
theorem dX2_apply_154 : decode cX2_apply 154 = .ok (.aload_n 1, 1) := by decide +kernel
theorem dX2_apply_155 : decode cX2_apply 155 = .ok (.iconst 1, 1) := by decide +kernel
theorem dX2_apply_156 : decode cX2_apply 156 = .ok (.lconst 1, 1) := by decide +kernel
theorem dX2_apply_157 : decode cX2_apply 157 = .ok (.invokevirtual 18, 3) := by decide +kernel
theorem dX2_apply_160 : decode cX2_apply 160 = .ok (.aload_n 0, 1) := by decide +kernel
theorem dX2_apply_161 : decode cX2_apply 161 = .ok (.aload_n 1, 1) := by decide +kernel
theorem dX2_apply_162 : decode cX2_apply 162 = .ok (.iconst 2, 1) := by decide +kernel
theorem dX2_apply_163 : decode cX2_apply 163 = .ok (.ldc2_w 36, 3) := by decide +kernel
theorem dX2_apply_166 : decode cX2_apply 166 = .ok (.invokevirtual 18, 3) := by decide +kernel
theorem dX2_apply_169 : decode cX2_apply 169 = .ok (.goto 30, 3) := by decide +kernel
theorem dX2_apply_172 : decode cX2_apply 172 = .ok (.aload_n 0, 1) := by decide +kernel
theorem dX2_apply_173 : decode cX2_apply 173 = .ok (.aload_n 1, 1) := by decide +kernel
theorem dX2_apply_174 : decode cX2_apply 174 = .ok (.iconst 1, 1) := by decide +kernel
theorem dX2_apply_175 : decode cX2_apply 175 = .ok (.lconst 1, 1) := by decide +kernel
theorem dX2_apply_176 : decode cX2_apply 176 = .ok (.invokevirtual 22, 3) := by decide +kernel
theorem dX2_apply_179 : decode cX2_apply 179 = .ok (.aload_n 0, 1) := by decide +kernel
theorem dX2_apply_180 : decode cX2_apply 180 = .ok (.aload_n 1, 1) := by decide +kernel
theorem dX2_apply_181 : decode cX2_apply 181 = .ok (.iconst 1, 1) := by decide +kernel
theorem dX2_apply_182 : decode cX2_apply 182 = .ok (.lconst 1, 1) := by decide +kernel
theorem dX2_apply_183 : decode cX2_apply 183 = .ok (.invokevirtual 18, 3) := by decide +kernel
theorem dX2_apply_186 : decode cX2_apply 186 = .ok (.goto 13, 3) := by decide +kernel
theorem dX2_apply_189 : decode cX2_apply 189 = .ok (.aload_n 0, 1) := by decide +kernel
theorem dX2_apply_190 : decode cX2_apply 190 = .ok (.aload_n 1, 1) := by decide +kernel
theorem dX2_apply_191 : decode cX2_apply 191 = .ok (.invokevirtual 38, 3) := by decide +kernel
theorem dX2_apply_194 : decode cX2_apply 194 = .ok (.goto 5, 3) := by decide +kernel
theorem dX2_apply_197 : decode cX2_apply 197 = .ok (.iconst 0, 1) := by decide +kernel
theorem dX2_apply_198 : decode cX2_apply 198 = .ok (.ireturn, 1) := by decide +kernel
theorem dX2_apply_199 : decode cX2_apply 199 = .ok (.aload_n 0, 1) := by decide +kernel
theorem dX2_apply_200 : decode cX2_apply 200 = .ok (.getfield 9, 3) := by decide +kernel
theorem dX2_apply_203 : decode cX2_apply 203 = .ok (.invokestatic 41, 3) := by decide +kernel
theorem dX2_apply_206 : decode cX2_apply 206 = .ok (.ireturn, 1) := by decide +kernel
theorem dX2_sum_0 : decode cX2_sum 0 = .ok (.aload_n 0, 1) := by decide +kernel
theorem dX2_sum_1 : decode cX2_sum 1 = .ok (.invokevirtual 15, 3) := by decide +kernel
theorem dX2_sum_4 : decode cX2_sum 4 = .ok (.aload_n 0, 1) := by decide +kernel
theorem dX2_sum_5 : decode cX2_sum 5 = .ok (.aload_n 1, 1) := by decide +kernel
theorem dX2_sum_6 : decode cX2_sum 6 = .ok (.iconst 0, 1) := by decide +kernel
theorem dX2_sum_7 : decode cX2_sum 7 = .ok (.iload_n 3, 1) := by decide +kernel
theorem dX2_sum_8 : decode cX2_sum 8 = .ok (.i2l, 1) := by decide +kernel
theorem dX2_sum_9 : decode cX2_sum 9 = .ok (.invokevirtual 22, 3) := by decide +kernel
theorem dX2_sum_12 : decode cX2_sum 12 = .ok (.aload_n 0, 1) := by decide +kernel
theorem dX2_sum_13 : decode cX2_sum 13 = .ok (.aload_n 2, 1) := by decide +kernel
theorem dX2_sum_14 : decode cX2_sum 14 = .ok (.iconst 0, 1) := by decide +kernel
theorem dX2_sum_15 : decode cX2_sum 15 = .ok (.iload 4, 2) := by decide +kernel
theorem dX2_sum_17 : decode cX2_sum 17 = .ok (.i2l, 1) := by decide +kernel
theorem dX2_sum_18 : decode cX2_sum 18 = .ok (.invokevirtual 22, 3) := by decide +kernel
theorem dX2_sum_21 : decode cX2_sum 21 = .ok (.aload_n 0, 1) := by decide +kernel
theorem dX2_sum_22 : decode cX2_sum 22 = .ok (.getfield 9, 3) := by decide +kernel
theorem dX2_sum_25 : decode cX2_sum 25 = .ok (.invokestatic 41, 3) := by decide +kernel
theorem dX2_sum_28 : decode cX2_sum 28 = .ok (.ireturn, 1) := by decide +kernel
theorem dX2_product_0 : decode cX2_product 0 = .ok (.aload_n 0, 1) := by decide +kernel
theorem dX2_product_1 : decode cX2_product 1 = .ok (.invokevirtual 15, 3) := by decide +kernel
theorem dX2_product_4 : decode cX2_product 4 = .ok (.iconst 0, 1) := by decide +kernel
theorem dX2_product_5 : decode cX2_product 5 = .ok (.istore_n 3, 1) := by decide +kernel
theorem dX2_product_6 : decode cX2_product 6 = .ok (.iload_n 3, 1) := by decide +kernel
theorem dX2_product_7 : decode cX2_product 7 = .ok (.aload_n 1, 1) := by decide +kernel
theorem dX2_product_8 : decode cX2_product 8 = .ok (.arraylength, 1) := by decide +kernel
theorem dX2_product_9 : decode cX2_product 9 = .ok (.if_icmp .ge 18, 3) := by decide +kernel
theorem dX2_product_12 : decode cX2_product 12 = .ok (.aload_n 0, 1) := by decide +kernel
theorem dX2_product_13 : decode cX2_product 13 = .ok (.aload_n 2, 1) := by decide +kernel
theorem dX2_product_14 : decode cX2_product 14 = .ok (.iload_n 3, 1) := by decide +kernel
theorem dX2_product_15 : decode cX2_product 15 = .ok (.aload_n 1, 1) := by decide +kernel
theorem dX2_product_16 : decode cX2_product 16 = .ok (.iload_n 3, 1) := by decide +kernel
theorem dX2_product_17 : decode cX2_product 17 = .ok (.laload, 1) := by decide +kernel
theorem dX2_product_18 : decode cX2_product 18 = .ok (.invokevirtual 22, 3) := by decide +kernel
theorem dX2_product_21 : decode cX2_product 21 = .ok (.iinc 3 1, 3) := by decide +kernel
theorem dX2_product_24 : decode cX2_product 24 = .ok (.goto (-18), 3) := by decide +kernel
theorem dX2_product_27 : decode cX2_product 27 = .ok (.aload_n 0, 1) := by decide +kernel
theorem dX2_product_28 : decode cX2_product 28 = .ok (.getfield 9, 3) := by decide +kernel
theorem dX2_product_31 : decode cX2_product 31 = .ok (.invokestatic 41, 3) := by decide +kernel
theorem dX2_product_34 : decode cX2_product 34 = .ok (.ireturn, 1) := by decide +kernel
theorem dX2_clear_0 : decode cX2_clear 0 = .ok (.iconst 0, 1) := by decide +kernel
theorem dX2_clear_1 : decode cX2_clear 1 = .ok (.istore_n 1, 1) := by decide +kernel
theorem dX2_clear_2 : decode cX2_clear 2 = .ok (.iload_n 1, 1) := by decide +kernel
theorem dX2_clear_3 : decode cX2_clear 3 = .ok (.bipush 17, 2) := by decide +kernel
theorem dX2_clear_5 : decode cX2_clear 5 = .ok (.if_icmp .ge 16, 3) := by decide +kernel
theorem dX2_clear_8 : decode cX2_clear 8 = .ok (.aload_n 0, 1) := by decide +kernel
theorem dX2_clear_9 : decode cX2_clear 9 = .ok (.getfield 9, 3) := by decide +kernel
theorem dX2_clear_12 : decode cX2_clear 12 = .ok (.iload_n 1, 1) := by decide +kernel
theorem dX2_clear_13 : decode cX2_clear 13 = .ok (.lconst 0, 1) := by decide +kernel
theorem dX2_clear_14 : decode cX2_clear 14 = .ok (.lastore, 1) := by decide +kernel
theorem dX2_clear_15 : decode cX2_clear 15 = .ok (.iinc 1 1, 3) := by decide +kernel
theorem dX2_clear_18 : decode cX2_clear 18 = .ok (.goto (-16), 3) := by decide +kernel
theorem dX2_clear_21 : decode cX2_clear 21 = .ok (.return_, 1) := by decide +kernel
theorem dX2_addNumbers_0 : decode cX2_addNumbers 0 = .ok (.iconst 0, 1) := by decide +kernel
theorem dX2_addNumbers_1 : decode cX2_addNumbers 1 = .ok (.istore 5, 2) := by decide +kernel
theorem dX2_addNumbers_3 : decode cX2_addNumbers 3 = .ok (.iload 5, 2) := by decide +kernel
theorem dX2_addNumbers_5 : decode cX2_addNumbers 5 = .ok (.aload_n 1, 1) := by decide +kernel
theorem dX2_addNumbers_6 : decode cX2_addNumbers 6 = .ok (.arraylength, 1) := by decide +kernel
theorem dX2_addNumbers_7 : decode cX2_addNumbers 7 = .ok (.if_icmp .ge 36, 3) := by decide +kernel
theorem dX2_addNumbers_10 : decode cX2_addNumbers 10 = .ok (.iload 5, 2) := by decide +kernel
theorem dX2_addNumbers_12 : decode cX2_addNumbers 12 = .ok (.iload_n 2, 1) := by decide +kernel
theorem dX2_addNumbers_13 : decode cX2_addNumbers 13 = .ok (.iadd, 1) := by decide +kernel
theorem dX2_addNumbers_14 : decode cX2_addNumbers 14 = .ok (.bipush 17, 2) := by decide +kernel
theorem dX2_addNumbers_16 : decode cX2_addNumbers 16 = .ok (.if_icmp .ge 27, 3) := by decide +kernel
theorem dX2_addNumbers_19 : decode cX2_addNumbers 19 = .ok (.aload_n 0, 1) := by decide +kernel
theorem dX2_addNumbers_20 : decode cX2_addNumbers 20 = .ok (.getfield 9, 3) := by decide +kernel
theorem dX2_addNumbers_23 : decode cX2_addNumbers 23 = .ok (.iload 5, 2) := by decide +kernel
theorem dX2_addNumbers_25 : decode cX2_addNumbers 25 = .ok (.iload_n 2, 1) := by decide +kernel
theorem dX2_addNumbers_26 : decode cX2_addNumbers 26 = .ok (.iadd, 1) := by decide +kernel
theorem dX2_addNumbers_27 : decode cX2_addNumbers 27 = .ok (.dup2, 1) := by decide +kernel
theorem dX2_addNumbers_28 : decode cX2_addNumbers 28 = .ok (.laload, 1) := by decide +kernel
theorem dX2_addNumbers_29 : decode cX2_addNumbers 29 = .ok (.lload_n 3, 1) := by decide +kernel
theorem dX2_addNumbers_30 : decode cX2_addNumbers 30 = .ok (.aload_n 1, 1) := by decide +kernel
theorem dX2_addNumbers_31 : decode cX2_addNumbers 31 = .ok (.iload 5, 2) := by decide +kernel
theorem dX2_addNumbers_33 : decode cX2_addNumbers 33 = .ok (.laload, 1) := by decide +kernel
theorem dX2_addNumbers_34 : decode cX2_addNumbers 34 = .ok (.lmul, 1) := by decide +kernel
theorem dX2_addNumbers_35 : decode cX2_addNumbers 35 = .ok (.ladd, 1) := by decide +kernel
theorem dX2_addNumbers_36 : decode cX2_addNumbers 36 = .ok (.lastore, 1) := by decide +kernel
theorem dX2_addNumbers_37 : decode cX2_addNumbers 37 = .ok (.iinc 5 1, 3) := by decide +kernel
theorem dX2_addNumbers_40 : decode cX2_addNumbers 40 = .ok (.goto (-37), 3) := by decide +kernel
theorem dX2_addNumbers_43 : decode cX2_addNumbers 43 = .ok (.return_, 1) := by decide +kernel
theorem dX2_addSlope_0 : decode cX2_addSlope 0 = .ok (.iconst 1, 1) := by decide +kernel
theorem dX2_addSlope_1 : decode cX2_addSlope 1 = .ok (.istore 5, 2) := by decide +kernel
theorem dX2_addSlope_3 : decode cX2_addSlope 3 = .ok (.iload 5, 2) := by decide +kernel
theorem dX2_addSlope_5 : decode cX2_addSlope 5 = .ok (.aload_n 1, 1) := by decide +kernel
theorem dX2_addSlope_6 : decode cX2_addSlope 6 = .ok (.arraylength, 1) := by decide +kernel
theorem dX2_addSlope_7 : decode cX2_addSlope 7 = .ok (.if_icmp .ge 44, 3) := by decide +kernel
theorem dX2_addSlope_10 : decode cX2_addSlope 10 = .ok (.iload 5, 2) := by decide +kernel
theorem dX2_addSlope_12 : decode cX2_addSlope 12 = .ok (.iconst 1, 1) := by decide +kernel
theorem dX2_addSlope_13 : decode cX2_addSlope 13 = .ok (.isub, 1) := by decide +kernel
theorem dX2_addSlope_14 : decode cX2_addSlope 14 = .ok (.iload_n 2, 1) := by decide +kernel
theorem dX2_addSlope_15 : decode cX2_addSlope 15 = .ok (.iadd, 1) := by decide +kernel
theorem dX2_addSlope_16 : decode cX2_addSlope 16 = .ok (.bipush 17, 2) := by decide +kernel
theorem dX2_addSlope_18 : decode cX2_addSlope 18 = .ok (.if_icmp .ge 33, 3) := by decide +kernel
theorem dX2_addSlope_21 : decode cX2_addSlope 21 = .ok (.aload_n 0, 1) := by decide +kernel
theorem dX2_addSlope_22 : decode cX2_addSlope 22 = .ok (.getfield 9, 3) := by decide +kernel
theorem dX2_addSlope_25 : decode cX2_addSlope 25 = .ok (.iload 5, 2) := by decide +kernel
theorem dX2_addSlope_27 : decode cX2_addSlope 27 = .ok (.iconst 1, 1) := by decide +kernel
theorem dX2_addSlope_28 : decode cX2_addSlope 28 = .ok (.isub, 1) := by decide +kernel
theorem dX2_addSlope_29 : decode cX2_addSlope 29 = .ok (.iload_n 2, 1) := by decide +kernel
theorem dX2_addSlope_30 : decode cX2_addSlope 30 = .ok (.iadd, 1) := by decide +kernel
theorem dX2_addSlope_31 : decode cX2_addSlope 31 = .ok (.dup2, 1) := by decide +kernel
theorem dX2_addSlope_32 : decode cX2_addSlope 32 = .ok (.laload, 1) := by decide +kernel
theorem dX2_addSlope_33 : decode cX2_addSlope 33 = .ok (.lload_n 3, 1) := by decide +kernel
theorem dX2_addSlope_34 : decode cX2_addSlope 34 = .ok (.iload 5, 2) := by decide +kernel
theorem dX2_addSlope_36 : decode cX2_addSlope 36 = .ok (.i2l, 1) := by decide +kernel
theorem dX2_addSlope_37 : decode cX2_addSlope 37 = .ok (.lmul, 1) := by decide +kernel
theorem dX2_addSlope_38 : decode cX2_addSlope 38 = .ok (.aload_n 1, 1) := by decide +kernel
theorem dX2_addSlope_39 : decode cX2_addSlope 39 = .ok (.iload 5, 2) := by decide +kernel
theorem dX2_addSlope_41 : decode cX2_addSlope 41 = .ok (.laload, 1) := by decide +kernel
theorem dX2_addSlope_42 : decode cX2_addSlope 42 = .ok (.lmul, 1) := by decide +kernel
theorem dX2_addSlope_43 : decode cX2_addSlope 43 = .ok (.ladd, 1) := by decide +kernel
theorem dX2_addSlope_44 : decode cX2_addSlope 44 = .ok (.lastore, 1) := by decide +kernel
theorem dX2_addSlope_45 : decode cX2_addSlope 45 = .ok (.iinc 5 1, 3) := by decide +kernel
theorem dX2_addSlope_48 : decode cX2_addSlope 48 = .ok (.goto (-45), 3) := by decide +kernel
theorem dX2_addSlope_51 : decode cX2_addSlope 51 = .ok (.return_, 1) := by decide +kernel
theorem dX2_shift_0 : decode cX2_shift 0 = .ok (.aload_n 0, 1) := by decide +kernel
theorem dX2_shift_1 : decode cX2_shift 1 = .ok (.aload_n 1, 1) := by decide +kernel
theorem dX2_shift_2 : decode cX2_shift 2 = .ok (.iconst 0, 1) := by decide +kernel
theorem dX2_shift_3 : decode cX2_shift 3 = .ok (.lconst 1, 1) := by decide +kernel
theorem dX2_shift_4 : decode cX2_shift 4 = .ok (.invokevirtual 22, 3) := by decide +kernel
theorem dX2_shift_7 : decode cX2_shift 7 = .ok (.iconst 0, 1) := by decide +kernel
theorem dX2_shift_8 : decode cX2_shift 8 = .ok (.istore_n 3, 1) := by decide +kernel
theorem dX2_shift_9 : decode cX2_shift 9 = .ok (.iload_n 3, 1) := by decide +kernel
theorem dX2_shift_10 : decode cX2_shift 10 = .ok (.bipush 8, 2) := by decide +kernel
theorem dX2_shift_12 : decode cX2_shift 12 = .ok (.if_icmp .ge 77, 3) := by decide +kernel
theorem dX2_shift_15 : decode cX2_shift 15 = .ok (.bipush 7, 2) := by decide +kernel
theorem dX2_shift_17 : decode cX2_shift 17 = .ok (.istore 4, 2) := by decide +kernel
theorem dX2_shift_19 : decode cX2_shift 19 = .ok (.iload 4, 2) := by decide +kernel
theorem dX2_shift_21 : decode cX2_shift 21 = .ok (.iload_n 3, 1) := by decide +kernel
theorem dX2_shift_22 : decode cX2_shift 22 = .ok (.if_icmp .lt 61, 3) := by decide +kernel
theorem dX2_shift_25 : decode cX2_shift 25 = .ok (.aload_n 0, 1) := by decide +kernel
theorem dX2_shift_26 : decode cX2_shift 26 = .ok (.getfield 9, 3) := by decide +kernel
theorem dX2_shift_29 : decode cX2_shift 29 = .ok (.iload 4, 2) := by decide +kernel
theorem dX2_shift_31 : decode cX2_shift 31 = .ok (.dup2, 1) := by decide +kernel
theorem dX2_shift_32 : decode cX2_shift 32 = .ok (.laload, 1) := by decide +kernel
theorem dX2_shift_33 : decode cX2_shift 33 = .ok (.iload_n 2, 1) := by decide +kernel
theorem dX2_shift_34 : decode cX2_shift 34 = .ok (.i2l, 1) := by decide +kernel
theorem dX2_shift_35 : decode cX2_shift 35 = .ok (.aload_n 0, 1) := by decide +kernel
theorem dX2_shift_36 : decode cX2_shift 36 = .ok (.getfield 9, 3) := by decide +kernel
theorem dX2_shift_39 : decode cX2_shift 39 = .ok (.iload 4, 2) := by decide +kernel
theorem dX2_shift_41 : decode cX2_shift 41 = .ok (.iconst 1, 1) := by decide +kernel
theorem dX2_shift_42 : decode cX2_shift 42 = .ok (.iadd, 1) := by decide +kernel
theorem dX2_shift_43 : decode cX2_shift 43 = .ok (.laload, 1) := by decide +kernel
theorem dX2_shift_44 : decode cX2_shift 44 = .ok (.lmul, 1) := by decide +kernel
theorem dX2_shift_45 : decode cX2_shift 45 = .ok (.ladd, 1) := by decide +kernel
theorem dX2_shift_46 : decode cX2_shift 46 = .ok (.lastore, 1) := by decide +kernel
theorem dX2_shift_47 : decode cX2_shift 47 = .ok (.aload_n 0, 1) := by decide +kernel
theorem dX2_shift_48 : decode cX2_shift 48 = .ok (.getfield 9, 3) := by decide +kernel
theorem dX2_shift_51 : decode cX2_shift 51 = .ok (.iload 4, 2) := by decide +kernel
theorem dX2_shift_53 : decode cX2_shift 53 = .ok (.laload, 1) := by decide +kernel
theorem dX2_shift_54 : decode cX2_shift 54 = .ok (.ldc2_w 47, 3) := by decide +kernel
theorem dX2_shift_57 : decode cX2_shift 57 = .ok (.lcmp, 1) := by decide +kernel
theorem dX2_shift_58 : decode cX2_shift 58 = .ok (.ifCond .gt 17, 3) := by decide +kernel
theorem dX2_shift_61 : decode cX2_shift 61 = .ok (.aload_n 0, 1) := by decide +kernel
theorem dX2_shift_62 : decode cX2_shift 62 = .ok (.getfield 9, 3) := by decide +kernel
theorem dX2_shift_65 : decode cX2_shift 65 = .ok (.iload 4, 2) := by decide +kernel
theorem dX2_shift_67 : decode cX2_shift 67 = .ok (.laload, 1) := by decide +kernel
theorem dX2_shift_68 : decode cX2_shift 68 = .ok (.ldc2_w 49, 3) := by decide +kernel
theorem dX2_shift_71 : decode cX2_shift 71 = .ok (.lcmp, 1) := by decide +kernel
theorem dX2_shift_72 : decode cX2_shift 72 = .ok (.ifCond .ge 5, 3) := by decide +kernel
theorem dX2_shift_75 : decode cX2_shift 75 = .ok (.iconst 0, 1) := by decide +kernel
theorem dX2_shift_76 : decode cX2_shift 76 = .ok (.ireturn, 1) := by decide +kernel
theorem dX2_shift_77 : decode cX2_shift 77 = .ok (.iinc 4 (-1), 3) := by decide +kernel
theorem dX2_shift_80 : decode cX2_shift 80 = .ok (.goto (-61), 3) := by decide +kernel
theorem dX2_shift_83 : decode cX2_shift 83 = .ok (.iinc 3 1, 3) := by decide +kernel
theorem dX2_shift_86 : decode cX2_shift 86 = .ok (.goto (-77), 3) := by decide +kernel
theorem dX2_shift_89 : decode cX2_shift 89 = .ok (.aload_n 0, 1) := by decide +kernel
theorem dX2_shift_90 : decode cX2_shift 90 = .ok (.getfield 9, 3) := by decide +kernel
theorem dX2_shift_93 : decode cX2_shift 93 = .ok (.invokestatic 41, 3) := by decide +kernel
theorem dX2_shift_96 : decode cX2_shift 96 = .ok (.ireturn, 1) := by decide +kernel
theorem dX2_turn_0 : decode cX2_turn 0 = .ok (.aload_n 1, 1) := by decide +kernel
theorem dX2_turn_1 : decode cX2_turn 1 = .ok (.invokestatic 51, 3) := by decide +kernel
theorem dX2_turn_4 : decode cX2_turn 4 = .ok (.istore_n 2, 1) := by decide +kernel
theorem dX2_turn_5 : decode cX2_turn 5 = .ok (.iconst 0, 1) := by decide +kernel
theorem dX2_turn_6 : decode cX2_turn 6 = .ok (.istore_n 3, 1) := by decide +kernel
theorem dX2_turn_7 : decode cX2_turn 7 = .ok (.iload_n 3, 1) := by decide +kernel
theorem dX2_turn_8 : decode cX2_turn 8 = .ok (.iload_n 2, 1) := by decide +kernel
theorem dX2_turn_9 : decode cX2_turn 9 = .ok (.if_icmp .gt 20, 3) := by decide +kernel
theorem dX2_turn_12 : decode cX2_turn 12 = .ok (.aload_n 0, 1) := by decide +kernel
theorem dX2_turn_13 : decode cX2_turn 13 = .ok (.getfield 9, 3) := by decide +kernel
theorem dX2_turn_16 : decode cX2_turn 16 = .ok (.iload_n 2, 1) := by decide +kernel
theorem dX2_turn_17 : decode cX2_turn 17 = .ok (.iload_n 3, 1) := by decide +kernel
theorem dX2_turn_18 : decode cX2_turn 18 = .ok (.isub, 1) := by decide +kernel
theorem dX2_turn_19 : decode cX2_turn 19 = .ok (.aload_n 1, 1) := by decide +kernel
theorem dX2_turn_20 : decode cX2_turn 20 = .ok (.iload_n 3, 1) := by decide +kernel
theorem dX2_turn_21 : decode cX2_turn 21 = .ok (.laload, 1) := by decide +kernel
theorem dX2_turn_22 : decode cX2_turn 22 = .ok (.lastore, 1) := by decide +kernel
theorem dX2_turn_23 : decode cX2_turn 23 = .ok (.iinc 3 1, 3) := by decide +kernel
theorem dX2_turn_26 : decode cX2_turn 26 = .ok (.goto (-19), 3) := by decide +kernel
theorem dX2_turn_29 : decode cX2_turn 29 = .ok (.return_, 1) := by decide +kernel
theorem dX2_stretch_0 : decode cX2_stretch 0 = .ok (.iconst 0, 1) := by decide +kernel
theorem dX2_stretch_1 : decode cX2_stretch 1 = .ok (.istore_n 3, 1) := by decide +kernel
theorem dX2_stretch_2 : decode cX2_stretch 2 = .ok (.iload_n 3, 1) := by decide +kernel
theorem dX2_stretch_3 : decode cX2_stretch 3 = .ok (.aload_n 1, 1) := by decide +kernel
theorem dX2_stretch_4 : decode cX2_stretch 4 = .ok (.arraylength, 1) := by decide +kernel
theorem dX2_stretch_5 : decode cX2_stretch 5 = .ok (.if_icmp .ge 70, 3) := by decide +kernel
theorem dX2_stretch_8 : decode cX2_stretch 8 = .ok (.iload_n 3, 1) := by decide +kernel
theorem dX2_stretch_9 : decode cX2_stretch 9 = .ok (.bipush 17, 2) := by decide +kernel
theorem dX2_stretch_11 : decode cX2_stretch 11 = .ok (.if_icmp .ge 64, 3) := by decide +kernel
theorem dX2_stretch_14 : decode cX2_stretch 14 = .ok (.aload_n 1, 1) := by decide +kernel
theorem dX2_stretch_15 : decode cX2_stretch 15 = .ok (.iload_n 3, 1) := by decide +kernel
theorem dX2_stretch_16 : decode cX2_stretch 16 = .ok (.laload, 1) := by decide +kernel
theorem dX2_stretch_17 : decode cX2_stretch 17 = .ok (.lstore 4, 2) := by decide +kernel
theorem dX2_stretch_19 : decode cX2_stretch 19 = .ok (.iconst 0, 1) := by decide +kernel
theorem dX2_stretch_20 : decode cX2_stretch 20 = .ok (.istore 6, 2) := by decide +kernel
theorem dX2_stretch_22 : decode cX2_stretch 22 = .ok (.iload 6, 2) := by decide +kernel
theorem dX2_stretch_24 : decode cX2_stretch 24 = .ok (.iload_n 3, 1) := by decide +kernel
theorem dX2_stretch_25 : decode cX2_stretch 25 = .ok (.if_icmp .ge 36, 3) := by decide +kernel
theorem dX2_stretch_28 : decode cX2_stretch 28 = .ok (.lload 4, 2) := by decide +kernel
theorem dX2_stretch_30 : decode cX2_stretch 30 = .ok (.iload_n 2, 1) := by decide +kernel
theorem dX2_stretch_31 : decode cX2_stretch 31 = .ok (.i2l, 1) := by decide +kernel
theorem dX2_stretch_32 : decode cX2_stretch 32 = .ok (.lmul, 1) := by decide +kernel
theorem dX2_stretch_33 : decode cX2_stretch 33 = .ok (.lstore 4, 2) := by decide +kernel
theorem dX2_stretch_35 : decode cX2_stretch 35 = .ok (.lload 4, 2) := by decide +kernel
theorem dX2_stretch_37 : decode cX2_stretch 37 = .ok (.ldc2_w 55, 3) := by decide +kernel
theorem dX2_stretch_40 : decode cX2_stretch 40 = .ok (.lcmp, 1) := by decide +kernel
theorem dX2_stretch_41 : decode cX2_stretch 41 = .ok (.ifCond .gt 12, 3) := by decide +kernel
theorem dX2_stretch_44 : decode cX2_stretch 44 = .ok (.lload 4, 2) := by decide +kernel
theorem dX2_stretch_46 : decode cX2_stretch 46 = .ok (.ldc2_w 57, 3) := by decide +kernel
theorem dX2_stretch_49 : decode cX2_stretch 49 = .ok (.lcmp, 1) := by decide +kernel
theorem dX2_stretch_50 : decode cX2_stretch 50 = .ok (.ifCond .ge 5, 3) := by decide +kernel
theorem dX2_stretch_53 : decode cX2_stretch 53 = .ok (.iconst 0, 1) := by decide +kernel
theorem dX2_stretch_54 : decode cX2_stretch 54 = .ok (.ireturn, 1) := by decide +kernel
theorem dX2_stretch_55 : decode cX2_stretch 55 = .ok (.iinc 6 1, 3) := by decide +kernel
theorem dX2_stretch_58 : decode cX2_stretch 58 = .ok (.goto (-36), 3) := by decide +kernel
theorem dX2_stretch_61 : decode cX2_stretch 61 = .ok (.aload_n 0, 1) := by decide +kernel
theorem dX2_stretch_62 : decode cX2_stretch 62 = .ok (.getfield 9, 3) := by decide +kernel
theorem dX2_stretch_65 : decode cX2_stretch 65 = .ok (.iload_n 3, 1) := by decide +kernel
theorem dX2_stretch_66 : decode cX2_stretch 66 = .ok (.lload 4, 2) := by decide +kernel
theorem dX2_stretch_68 : decode cX2_stretch 68 = .ok (.lastore, 1) := by decide +kernel
theorem dX2_stretch_69 : decode cX2_stretch 69 = .ok (.iinc 3 1, 3) := by decide +kernel
theorem dX2_stretch_72 : decode cX2_stretch 72 = .ok (.goto (-70), 3) := by decide +kernel
theorem dX2_stretch_75 : decode cX2_stretch 75 = .ok (.iconst 1, 1) := by decide +kernel
theorem dX2_stretch_76 : decode cX2_stretch 76 = .ok (.ireturn, 1) := by decide +kernel
theorem dX2_weigh_0 : decode cX2_weigh 0 = .ok (.lconst 1, 1) := by decide +kernel
theorem dX2_weigh_1 : decode cX2_weigh 1 = .ok (.lstore_n 2, 1) := by decide +kernel
theorem dX2_weigh_2 : decode cX2_weigh 2 = .ok (.iconst 0, 1) := by decide +kernel
theorem dX2_weigh_3 : decode cX2_weigh 3 = .ok (.istore 4, 2) := by decide +kernel
theorem dX2_weigh_5 : decode cX2_weigh 5 = .ok (.iload 4, 2) := by decide +kernel
theorem dX2_weigh_7 : decode cX2_weigh 7 = .ok (.aload_n 1, 1) := by decide +kernel
theorem dX2_weigh_8 : decode cX2_weigh 8 = .ok (.arraylength, 1) := by decide +kernel
theorem dX2_weigh_9 : decode cX2_weigh 9 = .ok (.if_icmp .ge 39, 3) := by decide +kernel
theorem dX2_weigh_12 : decode cX2_weigh 12 = .ok (.iload 4, 2) := by decide +kernel
theorem dX2_weigh_14 : decode cX2_weigh 14 = .ok (.bipush 17, 2) := by decide +kernel
theorem dX2_weigh_16 : decode cX2_weigh 16 = .ok (.if_icmp .ge 32, 3) := by decide +kernel
theorem dX2_weigh_19 : decode cX2_weigh 19 = .ok (.lload_n 2, 1) := by decide +kernel
theorem dX2_weigh_20 : decode cX2_weigh 20 = .ok (.iload 4, 2) := by decide +kernel
theorem dX2_weigh_22 : decode cX2_weigh 22 = .ok (.iconst 1, 1) := by decide +kernel
theorem dX2_weigh_23 : decode cX2_weigh 23 = .ok (.invokestatic 59, 3) := by decide +kernel
theorem dX2_weigh_26 : decode cX2_weigh 26 = .ok (.i2l, 1) := by decide +kernel
theorem dX2_weigh_27 : decode cX2_weigh 27 = .ok (.lmul, 1) := by decide +kernel
theorem dX2_weigh_28 : decode cX2_weigh 28 = .ok (.lstore_n 2, 1) := by decide +kernel
theorem dX2_weigh_29 : decode cX2_weigh 29 = .ok (.aload_n 0, 1) := by decide +kernel
theorem dX2_weigh_30 : decode cX2_weigh 30 = .ok (.getfield 9, 3) := by decide +kernel
theorem dX2_weigh_33 : decode cX2_weigh 33 = .ok (.iload 4, 2) := by decide +kernel
theorem dX2_weigh_35 : decode cX2_weigh 35 = .ok (.aload_n 1, 1) := by decide +kernel
theorem dX2_weigh_36 : decode cX2_weigh 36 = .ok (.iload 4, 2) := by decide +kernel
theorem dX2_weigh_38 : decode cX2_weigh 38 = .ok (.laload, 1) := by decide +kernel
theorem dX2_weigh_39 : decode cX2_weigh 39 = .ok (.lload_n 2, 1) := by decide +kernel
theorem dX2_weigh_40 : decode cX2_weigh 40 = .ok (.lmul, 1) := by decide +kernel
theorem dX2_weigh_41 : decode cX2_weigh 41 = .ok (.lastore, 1) := by decide +kernel
theorem dX2_weigh_42 : decode cX2_weigh 42 = .ok (.iinc 4 1, 3) := by decide +kernel
theorem dX2_weigh_45 : decode cX2_weigh 45 = .ok (.goto (-40), 3) := by decide +kernel
theorem dX2_weigh_48 : decode cX2_weigh 48 = .ok (.return_, 1) := by decide +kernel
theorem dX3_degreeOf_0 : decode cX3_degreeOf 0 = .ok (.aload_n 0, 1) := by decide +kernel
theorem dX3_degreeOf_1 : decode cX3_degreeOf 1 = .ok (.arraylength, 1) := by decide +kernel
theorem dX3_degreeOf_2 : decode cX3_degreeOf 2 = .ok (.iconst 1, 1) := by decide +kernel
theorem dX3_degreeOf_3 : decode cX3_degreeOf 3 = .ok (.isub, 1) := by decide +kernel
theorem dX3_degreeOf_4 : decode cX3_degreeOf 4 = .ok (.istore_n 1, 1) := by decide +kernel
theorem dX3_degreeOf_5 : decode cX3_degreeOf 5 = .ok (.iload_n 1, 1) := by decide +kernel
theorem dX3_degreeOf_6 : decode cX3_degreeOf 6 = .ok (.ifCond .lt 17, 3) := by decide +kernel
theorem dX3_degreeOf_9 : decode cX3_degreeOf 9 = .ok (.aload_n 0, 1) := by decide +kernel
theorem dX3_degreeOf_10 : decode cX3_degreeOf 10 = .ok (.iload_n 1, 1) := by decide +kernel
theorem dX3_degreeOf_11 : decode cX3_degreeOf 11 = .ok (.laload, 1) := by decide +kernel
theorem dX3_degreeOf_12 : decode cX3_degreeOf 12 = .ok (.lconst 0, 1) := by decide +kernel
theorem dX3_degreeOf_13 : decode cX3_degreeOf 13 = .ok (.lcmp, 1) := by decide +kernel
theorem dX3_degreeOf_14 : decode cX3_degreeOf 14 = .ok (.ifCond .ne 9, 3) := by decide +kernel
theorem dX3_degreeOf_17 : decode cX3_degreeOf 17 = .ok (.iinc 1 (-1), 3) := by decide +kernel
theorem dX3_degreeOf_20 : decode cX3_degreeOf 20 = .ok (.goto (-15), 3) := by decide +kernel
theorem dX3_degreeOf_23 : decode cX3_degreeOf 23 = .ok (.iload_n 1, 1) := by decide +kernel
theorem dX3_degreeOf_24 : decode cX3_degreeOf 24 = .ok (.ireturn, 1) := by decide +kernel
theorem dX3_fits_0 : decode cX3_fits 0 = .ok (.iconst 0, 1) := by decide +kernel
theorem dX3_fits_1 : decode cX3_fits 1 = .ok (.istore_n 1, 1) := by decide +kernel
theorem dX3_fits_2 : decode cX3_fits 2 = .ok (.iload_n 1, 1) := by decide +kernel
theorem dX3_fits_3 : decode cX3_fits 3 = .ok (.aload_n 0, 1) := by decide +kernel
theorem dX3_fits_4 : decode cX3_fits 4 = .ok (.arraylength, 1) := by decide +kernel
theorem dX3_fits_5 : decode cX3_fits 5 = .ok (.if_icmp .ge 42, 3) := by decide +kernel
theorem dX3_fits_8 : decode cX3_fits 8 = .ok (.iload_n 1, 1) := by decide +kernel
theorem dX3_fits_9 : decode cX3_fits 9 = .ok (.bipush 8, 2) := by decide +kernel
theorem dX3_fits_11 : decode cX3_fits 11 = .ok (.if_icmp .gt 9, 3) := by decide +kernel
theorem dX3_fits_14 : decode cX3_fits 14 = .ok (.ldc2_w 9, 3) := by decide +kernel
theorem dX3_fits_17 : decode cX3_fits 17 = .ok (.goto 4, 3) := by decide +kernel
theorem dX3_fits_20 : decode cX3_fits 20 = .ok (.lconst 0, 1) := by decide +kernel
theorem dX3_fits_21 : decode cX3_fits 21 = .ok (.lstore_n 2, 1) := by decide +kernel
theorem dX3_fits_22 : decode cX3_fits 22 = .ok (.aload_n 0, 1) := by decide +kernel
theorem dX3_fits_23 : decode cX3_fits 23 = .ok (.iload_n 1, 1) := by decide +kernel
theorem dX3_fits_24 : decode cX3_fits 24 = .ok (.laload, 1) := by decide +kernel
theorem dX3_fits_25 : decode cX3_fits 25 = .ok (.lload_n 2, 1) := by decide +kernel
theorem dX3_fits_26 : decode cX3_fits 26 = .ok (.lcmp, 1) := by decide +kernel
theorem dX3_fits_27 : decode cX3_fits 27 = .ok (.ifCond .gt 12, 3) := by decide +kernel
theorem dX3_fits_30 : decode cX3_fits 30 = .ok (.aload_n 0, 1) := by decide +kernel
theorem dX3_fits_31 : decode cX3_fits 31 = .ok (.iload_n 1, 1) := by decide +kernel
theorem dX3_fits_32 : decode cX3_fits 32 = .ok (.laload, 1) := by decide +kernel
theorem dX3_fits_33 : decode cX3_fits 33 = .ok (.lload_n 2, 1) := by decide +kernel
theorem dX3_fits_34 : decode cX3_fits 34 = .ok (.lneg, 1) := by decide +kernel
theorem dX3_fits_35 : decode cX3_fits 35 = .ok (.lcmp, 1) := by decide +kernel
theorem dX3_fits_36 : decode cX3_fits 36 = .ok (.ifCond .ge 5, 3) := by decide +kernel
theorem dX3_fits_39 : decode cX3_fits 39 = .ok (.iconst 0, 1) := by decide +kernel
theorem dX3_fits_40 : decode cX3_fits 40 = .ok (.ireturn, 1) := by decide +kernel
theorem dX3_fits_41 : decode cX3_fits 41 = .ok (.iinc 1 1, 3) := by decide +kernel
theorem dX3_fits_44 : decode cX3_fits 44 = .ok (.goto (-42), 3) := by decide +kernel
theorem dX3_fits_47 : decode cX3_fits 47 = .ok (.iconst 1, 1) := by decide +kernel
theorem dX3_fits_48 : decode cX3_fits 48 = .ok (.ireturn, 1) := by decide +kernel
