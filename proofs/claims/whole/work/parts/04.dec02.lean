theorem dX3_setSlope_0 : decode cX3_setSlope 0 = .ok (.iconst 0, 1) := by decide +kernel
theorem dX3_setSlope_1 : decode cX3_setSlope 1 = .ok (.istore_n 2, 1) := by decide +kernel
theorem dX3_setSlope_2 : decode cX3_setSlope 2 = .ok (.iload_n 2, 1) := by decide +kernel
theorem dX3_setSlope_3 : decode cX3_setSlope 3 = .ok (.aload_n 0, 1) := by decide +kernel
theorem dX3_setSlope_4 : decode cX3_setSlope 4 = .ok (.arraylength, 1) := by decide +kernel
theorem dX3_setSlope_5 : decode cX3_setSlope 5 = .ok (.if_icmp .ge 34, 3) := by decide +kernel
theorem dX3_setSlope_8 : decode cX3_setSlope 8 = .ok (.aload_n 0, 1) := by decide +kernel
theorem dX3_setSlope_9 : decode cX3_setSlope 9 = .ok (.iload_n 2, 1) := by decide +kernel
theorem dX3_setSlope_10 : decode cX3_setSlope 10 = .ok (.iload_n 2, 1) := by decide +kernel
theorem dX3_setSlope_11 : decode cX3_setSlope 11 = .ok (.iconst 1, 1) := by decide +kernel
theorem dX3_setSlope_12 : decode cX3_setSlope 12 = .ok (.iadd, 1) := by decide +kernel
theorem dX3_setSlope_13 : decode cX3_setSlope 13 = .ok (.aload_n 1, 1) := by decide +kernel
theorem dX3_setSlope_14 : decode cX3_setSlope 14 = .ok (.arraylength, 1) := by decide +kernel
theorem dX3_setSlope_15 : decode cX3_setSlope 15 = .ok (.if_icmp .ge 16, 3) := by decide +kernel
theorem dX3_setSlope_18 : decode cX3_setSlope 18 = .ok (.aload_n 1, 1) := by decide +kernel
theorem dX3_setSlope_19 : decode cX3_setSlope 19 = .ok (.iload_n 2, 1) := by decide +kernel
theorem dX3_setSlope_20 : decode cX3_setSlope 20 = .ok (.iconst 1, 1) := by decide +kernel
theorem dX3_setSlope_21 : decode cX3_setSlope 21 = .ok (.iadd, 1) := by decide +kernel
theorem dX3_setSlope_22 : decode cX3_setSlope 22 = .ok (.laload, 1) := by decide +kernel
theorem dX3_setSlope_23 : decode cX3_setSlope 23 = .ok (.iload_n 2, 1) := by decide +kernel
theorem dX3_setSlope_24 : decode cX3_setSlope 24 = .ok (.iconst 1, 1) := by decide +kernel
theorem dX3_setSlope_25 : decode cX3_setSlope 25 = .ok (.iadd, 1) := by decide +kernel
theorem dX3_setSlope_26 : decode cX3_setSlope 26 = .ok (.i2l, 1) := by decide +kernel
theorem dX3_setSlope_27 : decode cX3_setSlope 27 = .ok (.lmul, 1) := by decide +kernel
theorem dX3_setSlope_28 : decode cX3_setSlope 28 = .ok (.goto 4, 3) := by decide +kernel
theorem dX3_setSlope_31 : decode cX3_setSlope 31 = .ok (.lconst 0, 1) := by decide +kernel
theorem dX3_setSlope_32 : decode cX3_setSlope 32 = .ok (.lastore, 1) := by decide +kernel
theorem dX3_setSlope_33 : decode cX3_setSlope 33 = .ok (.iinc 2 1, 3) := by decide +kernel
theorem dX3_setSlope_36 : decode cX3_setSlope 36 = .ok (.goto (-34), 3) := by decide +kernel
theorem dX3_setSlope_39 : decode cX3_setSlope 39 = .ok (.return_, 1) := by decide +kernel
theorem dX3_commonDivisor_0 : decode cX3_commonDivisor 0 = .ok (.lload_n 0, 1) := by decide +kernel
theorem dX3_commonDivisor_1 : decode cX3_commonDivisor 1 = .ok (.invokestatic 11, 3) := by decide +kernel
theorem dX3_commonDivisor_4 : decode cX3_commonDivisor 4 = .ok (.lstore 4, 2) := by decide +kernel
theorem dX3_commonDivisor_6 : decode cX3_commonDivisor 6 = .ok (.lload_n 2, 1) := by decide +kernel
theorem dX3_commonDivisor_7 : decode cX3_commonDivisor 7 = .ok (.invokestatic 11, 3) := by decide +kernel
theorem dX3_commonDivisor_10 : decode cX3_commonDivisor 10 = .ok (.lstore 6, 2) := by decide +kernel
theorem dX3_commonDivisor_12 : decode cX3_commonDivisor 12 = .ok (.iconst 0, 1) := by decide +kernel
theorem dX3_commonDivisor_13 : decode cX3_commonDivisor 13 = .ok (.istore 8, 2) := by decide +kernel
theorem dX3_commonDivisor_15 : decode cX3_commonDivisor 15 = .ok (.lload 6, 2) := by decide +kernel
theorem dX3_commonDivisor_17 : decode cX3_commonDivisor 17 = .ok (.lconst 0, 1) := by decide +kernel
theorem dX3_commonDivisor_18 : decode cX3_commonDivisor 18 = .ok (.lcmp, 1) := by decide +kernel
theorem dX3_commonDivisor_19 : decode cX3_commonDivisor 19 = .ok (.ifCond .eq 31, 3) := by decide +kernel
theorem dX3_commonDivisor_22 : decode cX3_commonDivisor 22 = .ok (.iload 8, 2) := by decide +kernel
theorem dX3_commonDivisor_24 : decode cX3_commonDivisor 24 = .ok (.bipush 100, 2) := by decide +kernel
theorem dX3_commonDivisor_26 : decode cX3_commonDivisor 26 = .ok (.if_icmp .ge 24, 3) := by decide +kernel
theorem dX3_commonDivisor_29 : decode cX3_commonDivisor 29 = .ok (.lload 4, 2) := by decide +kernel
theorem dX3_commonDivisor_31 : decode cX3_commonDivisor 31 = .ok (.lload 6, 2) := by decide +kernel
theorem dX3_commonDivisor_33 : decode cX3_commonDivisor 33 = .ok (.lrem, 1) := by decide +kernel
theorem dX3_commonDivisor_34 : decode cX3_commonDivisor 34 = .ok (.lstore 9, 2) := by decide +kernel
theorem dX3_commonDivisor_36 : decode cX3_commonDivisor 36 = .ok (.lload 6, 2) := by decide +kernel
theorem dX3_commonDivisor_38 : decode cX3_commonDivisor 38 = .ok (.lstore 4, 2) := by decide +kernel
theorem dX3_commonDivisor_40 : decode cX3_commonDivisor 40 = .ok (.lload 9, 2) := by decide +kernel
theorem dX3_commonDivisor_42 : decode cX3_commonDivisor 42 = .ok (.lstore 6, 2) := by decide +kernel
theorem dX3_commonDivisor_44 : decode cX3_commonDivisor 44 = .ok (.iinc 8 1, 3) := by decide +kernel
theorem dX3_commonDivisor_47 : decode cX3_commonDivisor 47 = .ok (.goto (-32), 3) := by decide +kernel
theorem dX3_commonDivisor_50 : decode cX3_commonDivisor 50 = .ok (.lload 4, 2) := by decide +kernel
theorem dX3_commonDivisor_52 : decode cX3_commonDivisor 52 = .ok (.lreturn, 1) := by decide +kernel
theorem dX3_makePrimitive_0 : decode cX3_makePrimitive 0 = .ok (.lconst 0, 1) := by decide +kernel
theorem dX3_makePrimitive_1 : decode cX3_makePrimitive 1 = .ok (.lstore_n 1, 1) := by decide +kernel
theorem dX3_makePrimitive_2 : decode cX3_makePrimitive 2 = .ok (.iconst 0, 1) := by decide +kernel
theorem dX3_makePrimitive_3 : decode cX3_makePrimitive 3 = .ok (.istore_n 3, 1) := by decide +kernel
theorem dX3_makePrimitive_4 : decode cX3_makePrimitive 4 = .ok (.iload_n 3, 1) := by decide +kernel
theorem dX3_makePrimitive_5 : decode cX3_makePrimitive 5 = .ok (.aload_n 0, 1) := by decide +kernel
theorem dX3_makePrimitive_6 : decode cX3_makePrimitive 6 = .ok (.arraylength, 1) := by decide +kernel
theorem dX3_makePrimitive_7 : decode cX3_makePrimitive 7 = .ok (.if_icmp .ge 17, 3) := by decide +kernel
theorem dX3_makePrimitive_10 : decode cX3_makePrimitive 10 = .ok (.lload_n 1, 1) := by decide +kernel
theorem dX3_makePrimitive_11 : decode cX3_makePrimitive 11 = .ok (.aload_n 0, 1) := by decide +kernel
theorem dX3_makePrimitive_12 : decode cX3_makePrimitive 12 = .ok (.iload_n 3, 1) := by decide +kernel
theorem dX3_makePrimitive_13 : decode cX3_makePrimitive 13 = .ok (.laload, 1) := by decide +kernel
theorem dX3_makePrimitive_14 : decode cX3_makePrimitive 14 = .ok (.invokestatic 19, 3) := by decide +kernel
theorem dX3_makePrimitive_17 : decode cX3_makePrimitive 17 = .ok (.lstore_n 1, 1) := by decide +kernel
theorem dX3_makePrimitive_18 : decode cX3_makePrimitive 18 = .ok (.iinc 3 1, 3) := by decide +kernel
theorem dX3_makePrimitive_21 : decode cX3_makePrimitive 21 = .ok (.goto (-17), 3) := by decide +kernel
theorem dX3_makePrimitive_24 : decode cX3_makePrimitive 24 = .ok (.lload_n 1, 1) := by decide +kernel
theorem dX3_makePrimitive_25 : decode cX3_makePrimitive 25 = .ok (.lconst 1, 1) := by decide +kernel
theorem dX3_makePrimitive_26 : decode cX3_makePrimitive 26 = .ok (.lcmp, 1) := by decide +kernel
theorem dX3_makePrimitive_27 : decode cX3_makePrimitive 27 = .ok (.ifCond .gt 4, 3) := by decide +kernel
theorem dX3_makePrimitive_30 : decode cX3_makePrimitive 30 = .ok (.return_, 1) := by decide +kernel
theorem dX3_makePrimitive_31 : decode cX3_makePrimitive 31 = .ok (.iconst 0, 1) := by decide +kernel
theorem dX3_makePrimitive_32 : decode cX3_makePrimitive 32 = .ok (.istore_n 3, 1) := by decide +kernel
theorem dX3_makePrimitive_33 : decode cX3_makePrimitive 33 = .ok (.iload_n 3, 1) := by decide +kernel
theorem dX3_makePrimitive_34 : decode cX3_makePrimitive 34 = .ok (.aload_n 0, 1) := by decide +kernel
theorem dX3_makePrimitive_35 : decode cX3_makePrimitive 35 = .ok (.arraylength, 1) := by decide +kernel
theorem dX3_makePrimitive_36 : decode cX3_makePrimitive 36 = .ok (.if_icmp .ge 16, 3) := by decide +kernel
theorem dX3_makePrimitive_39 : decode cX3_makePrimitive 39 = .ok (.aload_n 0, 1) := by decide +kernel
theorem dX3_makePrimitive_40 : decode cX3_makePrimitive 40 = .ok (.iload_n 3, 1) := by decide +kernel
theorem dX3_makePrimitive_41 : decode cX3_makePrimitive 41 = .ok (.dup2, 1) := by decide +kernel
theorem dX3_makePrimitive_42 : decode cX3_makePrimitive 42 = .ok (.laload, 1) := by decide +kernel
theorem dX3_makePrimitive_43 : decode cX3_makePrimitive 43 = .ok (.lload_n 1, 1) := by decide +kernel
theorem dX3_makePrimitive_44 : decode cX3_makePrimitive 44 = .ok (.ldiv, 1) := by decide +kernel
theorem dX3_makePrimitive_45 : decode cX3_makePrimitive 45 = .ok (.lastore, 1) := by decide +kernel
theorem dX3_makePrimitive_46 : decode cX3_makePrimitive 46 = .ok (.iinc 3 1, 3) := by decide +kernel
theorem dX3_makePrimitive_49 : decode cX3_makePrimitive 49 = .ok (.goto (-16), 3) := by decide +kernel
theorem dX3_makePrimitive_52 : decode cX3_makePrimitive 52 = .ok (.return_, 1) := by decide +kernel
theorem dX3_setQuotient_0 : decode cX3_setQuotient 0 = .ok (.aload_n 2, 1) := by decide +kernel
theorem dX3_setQuotient_1 : decode cX3_setQuotient 1 = .ok (.invokestatic 23, 3) := by decide +kernel
theorem dX3_setQuotient_4 : decode cX3_setQuotient 4 = .ok (.istore_n 3, 1) := by decide +kernel
theorem dX3_setQuotient_5 : decode cX3_setQuotient 5 = .ok (.iconst 0, 1) := by decide +kernel
theorem dX3_setQuotient_6 : decode cX3_setQuotient 6 = .ok (.istore 4, 2) := by decide +kernel
theorem dX3_setQuotient_8 : decode cX3_setQuotient 8 = .ok (.iload 4, 2) := by decide +kernel
theorem dX3_setQuotient_10 : decode cX3_setQuotient 10 = .ok (.aload_n 0, 1) := by decide +kernel
theorem dX3_setQuotient_11 : decode cX3_setQuotient 11 = .ok (.arraylength, 1) := by decide +kernel
theorem dX3_setQuotient_12 : decode cX3_setQuotient 12 = .ok (.if_icmp .ge 14, 3) := by decide +kernel
theorem dX3_setQuotient_15 : decode cX3_setQuotient 15 = .ok (.aload_n 0, 1) := by decide +kernel
theorem dX3_setQuotient_16 : decode cX3_setQuotient 16 = .ok (.iload 4, 2) := by decide +kernel
theorem dX3_setQuotient_18 : decode cX3_setQuotient 18 = .ok (.lconst 0, 1) := by decide +kernel
theorem dX3_setQuotient_19 : decode cX3_setQuotient 19 = .ok (.lastore, 1) := by decide +kernel
theorem dX3_setQuotient_20 : decode cX3_setQuotient 20 = .ok (.iinc 4 1, 3) := by decide +kernel
theorem dX3_setQuotient_23 : decode cX3_setQuotient 23 = .ok (.goto (-15), 3) := by decide +kernel
theorem dX3_setQuotient_26 : decode cX3_setQuotient 26 = .ok (.iload_n 3, 1) := by decide +kernel
theorem dX3_setQuotient_27 : decode cX3_setQuotient 27 = .ok (.ifCond .lt 11, 3) := by decide +kernel
theorem dX3_setQuotient_30 : decode cX3_setQuotient 30 = .ok (.aload_n 2, 1) := by decide +kernel
theorem dX3_setQuotient_31 : decode cX3_setQuotient 31 = .ok (.iload_n 3, 1) := by decide +kernel
theorem dX3_setQuotient_32 : decode cX3_setQuotient 32 = .ok (.laload, 1) := by decide +kernel
theorem dX3_setQuotient_33 : decode cX3_setQuotient 33 = .ok (.lconst 0, 1) := by decide +kernel
theorem dX3_setQuotient_34 : decode cX3_setQuotient 34 = .ok (.lcmp, 1) := by decide +kernel
theorem dX3_setQuotient_35 : decode cX3_setQuotient 35 = .ok (.ifCond .ne 4, 3) := by decide +kernel
theorem dX3_setQuotient_38 : decode cX3_setQuotient 38 = .ok (.return_, 1) := by decide +kernel
theorem dX3_setQuotient_39 : decode cX3_setQuotient 39 = .ok (.aload_n 1, 1) := by decide +kernel
theorem dX3_setQuotient_40 : decode cX3_setQuotient 40 = .ok (.invokestatic 23, 3) := by decide +kernel
theorem dX3_setQuotient_43 : decode cX3_setQuotient 43 = .ok (.iload_n 3, 1) := by decide +kernel
theorem dX3_setQuotient_44 : decode cX3_setQuotient 44 = .ok (.isub, 1) := by decide +kernel
theorem dX3_setQuotient_45 : decode cX3_setQuotient 45 = .ok (.istore 4, 2) := by decide +kernel
theorem dX3_setQuotient_47 : decode cX3_setQuotient 47 = .ok (.iload 4, 2) := by decide +kernel
theorem dX3_setQuotient_49 : decode cX3_setQuotient 49 = .ok (.ifCond .lt 73, 3) := by decide +kernel
theorem dX3_setQuotient_52 : decode cX3_setQuotient 52 = .ok (.iload 4, 2) := by decide +kernel
theorem dX3_setQuotient_54 : decode cX3_setQuotient 54 = .ok (.aload_n 0, 1) := by decide +kernel
theorem dX3_setQuotient_55 : decode cX3_setQuotient 55 = .ok (.arraylength, 1) := by decide +kernel
theorem dX3_setQuotient_56 : decode cX3_setQuotient 56 = .ok (.if_icmp .ge 60, 3) := by decide +kernel
theorem dX3_setQuotient_59 : decode cX3_setQuotient 59 = .ok (.iload 4, 2) := by decide +kernel
theorem dX3_setQuotient_61 : decode cX3_setQuotient 61 = .ok (.iload_n 3, 1) := by decide +kernel
theorem dX3_setQuotient_62 : decode cX3_setQuotient 62 = .ok (.iadd, 1) := by decide +kernel
theorem dX3_setQuotient_63 : decode cX3_setQuotient 63 = .ok (.aload_n 1, 1) := by decide +kernel
theorem dX3_setQuotient_64 : decode cX3_setQuotient 64 = .ok (.arraylength, 1) := by decide +kernel
theorem dX3_setQuotient_65 : decode cX3_setQuotient 65 = .ok (.if_icmp .ge 51, 3) := by decide +kernel
theorem dX3_setQuotient_68 : decode cX3_setQuotient 68 = .ok (.aload_n 0, 1) := by decide +kernel
theorem dX3_setQuotient_69 : decode cX3_setQuotient 69 = .ok (.iload 4, 2) := by decide +kernel
theorem dX3_setQuotient_71 : decode cX3_setQuotient 71 = .ok (.aload_n 1, 1) := by decide +kernel
theorem dX3_setQuotient_72 : decode cX3_setQuotient 72 = .ok (.iload 4, 2) := by decide +kernel
theorem dX3_setQuotient_74 : decode cX3_setQuotient 74 = .ok (.iload_n 3, 1) := by decide +kernel
theorem dX3_setQuotient_75 : decode cX3_setQuotient 75 = .ok (.iadd, 1) := by decide +kernel
theorem dX3_setQuotient_76 : decode cX3_setQuotient 76 = .ok (.laload, 1) := by decide +kernel
theorem dX3_setQuotient_77 : decode cX3_setQuotient 77 = .ok (.aload_n 2, 1) := by decide +kernel
theorem dX3_setQuotient_78 : decode cX3_setQuotient 78 = .ok (.iload_n 3, 1) := by decide +kernel
theorem dX3_setQuotient_79 : decode cX3_setQuotient 79 = .ok (.laload, 1) := by decide +kernel
theorem dX3_setQuotient_80 : decode cX3_setQuotient 80 = .ok (.ldiv, 1) := by decide +kernel
theorem dX3_setQuotient_81 : decode cX3_setQuotient 81 = .ok (.lastore, 1) := by decide +kernel
theorem dX3_setQuotient_82 : decode cX3_setQuotient 82 = .ok (.iconst 0, 1) := by decide +kernel
theorem dX3_setQuotient_83 : decode cX3_setQuotient 83 = .ok (.istore 5, 2) := by decide +kernel
theorem dX3_setQuotient_85 : decode cX3_setQuotient 85 = .ok (.iload 5, 2) := by decide +kernel
theorem dX3_setQuotient_87 : decode cX3_setQuotient 87 = .ok (.iload_n 3, 1) := by decide +kernel
theorem dX3_setQuotient_88 : decode cX3_setQuotient 88 = .ok (.if_icmp .gt 28, 3) := by decide +kernel
theorem dX3_setQuotient_91 : decode cX3_setQuotient 91 = .ok (.aload_n 1, 1) := by decide +kernel
theorem dX3_setQuotient_92 : decode cX3_setQuotient 92 = .ok (.iload 4, 2) := by decide +kernel
theorem dX3_setQuotient_94 : decode cX3_setQuotient 94 = .ok (.iload 5, 2) := by decide +kernel
theorem dX3_setQuotient_96 : decode cX3_setQuotient 96 = .ok (.iadd, 1) := by decide +kernel
theorem dX3_setQuotient_97 : decode cX3_setQuotient 97 = .ok (.dup2, 1) := by decide +kernel
theorem dX3_setQuotient_98 : decode cX3_setQuotient 98 = .ok (.laload, 1) := by decide +kernel
theorem dX3_setQuotient_99 : decode cX3_setQuotient 99 = .ok (.aload_n 0, 1) := by decide +kernel
theorem dX3_setQuotient_100 : decode cX3_setQuotient 100 = .ok (.iload 4, 2) := by decide +kernel
theorem dX3_setQuotient_102 : decode cX3_setQuotient 102 = .ok (.laload, 1) := by decide +kernel
theorem dX3_setQuotient_103 : decode cX3_setQuotient 103 = .ok (.aload_n 2, 1) := by decide +kernel
theorem dX3_setQuotient_104 : decode cX3_setQuotient 104 = .ok (.iload 5, 2) := by decide +kernel
theorem dX3_setQuotient_106 : decode cX3_setQuotient 106 = .ok (.laload, 1) := by decide +kernel
theorem dX3_setQuotient_107 : decode cX3_setQuotient 107 = .ok (.lmul, 1) := by decide +kernel
theorem dX3_setQuotient_108 : decode cX3_setQuotient 108 = .ok (.lsub, 1) := by decide +kernel
theorem dX3_setQuotient_109 : decode cX3_setQuotient 109 = .ok (.lastore, 1) := by decide +kernel
theorem dX3_setQuotient_110 : decode cX3_setQuotient 110 = .ok (.iinc 5 1, 3) := by decide +kernel
theorem dX3_setQuotient_113 : decode cX3_setQuotient 113 = .ok (.goto (-28), 3) := by decide +kernel
theorem dX3_setQuotient_116 : decode cX3_setQuotient 116 = .ok (.iinc 4 (-1), 3) := by decide +kernel
theorem dX3_setQuotient_119 : decode cX3_setQuotient 119 = .ok (.goto (-72), 3) := by decide +kernel
theorem dX3_setQuotient_122 : decode cX3_setQuotient 122 = .ok (.return_, 1) := by decide +kernel
theorem dX4_init_0 : decode cX4_init 0 = .ok (.aload_n 0, 1) := by decide +kernel
theorem dX4_init_1 : decode cX4_init 1 = .ok (.invokespecial 3, 3) := by decide +kernel
theorem dX4_init_4 : decode cX4_init 4 = .ok (.aload_n 0, 1) := by decide +kernel
theorem dX4_init_5 : decode cX4_init 5 = .ok (.bipush 9, 2) := by decide +kernel
theorem dX4_init_7 : decode cX4_init 7 = .ok (.bipush 9, 2) := by decide +kernel
theorem dX4_init_9 : decode cX4_init 9 = .ok (.multianewarray 9 2, 4) := by decide +kernel
theorem dX4_init_13 : decode cX4_init 13 = .ok (.putfield 11, 3) := by decide +kernel
theorem dX4_init_16 : decode cX4_init 16 = .ok (.aload_n 0, 1) := by decide +kernel
theorem dX4_init_17 : decode cX4_init 17 = .ok (.bipush 9, 2) := by decide +kernel
theorem dX4_init_19 : decode cX4_init 19 = .ok (.newarray .long, 2) := by decide +kernel
theorem dX4_init_21 : decode cX4_init 21 = .ok (.putfield 16, 3) := by decide +kernel
theorem dX4_init_24 : decode cX4_init 24 = .ok (.aload_n 0, 1) := by decide +kernel
theorem dX4_init_25 : decode cX4_init 25 = .ok (.bipush 8, 2) := by decide +kernel
theorem dX4_init_27 : decode cX4_init 27 = .ok (.newarray .long, 2) := by decide +kernel
theorem dX4_init_29 : decode cX4_init 29 = .ok (.putfield 20, 3) := by decide +kernel
theorem dX4_init_32 : decode cX4_init 32 = .ok (.aload_n 0, 1) := by decide +kernel
theorem dX4_init_33 : decode cX4_init 33 = .ok (.bipush 8, 2) := by decide +kernel
theorem dX4_init_35 : decode cX4_init 35 = .ok (.newarray .long, 2) := by decide +kernel
theorem dX4_init_37 : decode cX4_init 37 = .ok (.putfield 23, 3) := by decide +kernel
theorem dX4_init_40 : decode cX4_init 40 = .ok (.aload_n 0, 1) := by decide +kernel
theorem dX4_init_41 : decode cX4_init 41 = .ok (.bipush 8, 2) := by decide +kernel
theorem dX4_init_43 : decode cX4_init 43 = .ok (.newarray .int, 2) := by decide +kernel
theorem dX4_init_45 : decode cX4_init 45 = .ok (.putfield 26, 3) := by decide +kernel
theorem dX4_init_48 : decode cX4_init 48 = .ok (.aload_n 0, 1) := by decide +kernel
theorem dX4_init_49 : decode cX4_init 49 = .ok (.bipush 8, 2) := by decide +kernel
theorem dX4_init_51 : decode cX4_init 51 = .ok (.newarray .int, 2) := by decide +kernel
theorem dX4_init_53 : decode cX4_init 53 = .ok (.putfield 30, 3) := by decide +kernel
theorem dX4_init_56 : decode cX4_init 56 = .ok (.aload_n 0, 1) := by decide +kernel
theorem dX4_init_57 : decode cX4_init 57 = .ok (.new 33, 3) := by decide +kernel
theorem dX4_init_60 : decode cX4_init 60 = .ok (.dup, 1) := by decide +kernel
theorem dX4_init_61 : decode cX4_init 61 = .ok (.bipush 20, 2) := by decide +kernel
theorem dX4_init_63 : decode cX4_init 63 = .ok (.invokespecial 35, 3) := by decide +kernel
theorem dX4_init_66 : decode cX4_init 66 = .ok (.putfield 38, 3) := by decide +kernel
theorem dX4_init_69 : decode cX4_init 69 = .ok (.aload_n 0, 1) := by decide +kernel
theorem dX4_init_70 : decode cX4_init 70 = .ok (.new 33, 3) := by decide +kernel
theorem dX4_init_73 : decode cX4_init 73 = .ok (.dup, 1) := by decide +kernel
theorem dX4_init_74 : decode cX4_init 74 = .ok (.bipush 20, 2) := by decide +kernel
theorem dX4_init_76 : decode cX4_init 76 = .ok (.invokespecial 35, 3) := by decide +kernel
theorem dX4_init_79 : decode cX4_init 79 = .ok (.putfield 42, 3) := by decide +kernel
theorem dX4_init_82 : decode cX4_init 82 = .ok (.aload_n 0, 1) := by decide +kernel
theorem dX4_init_83 : decode cX4_init 83 = .ok (.new 33, 3) := by decide +kernel
theorem dX4_init_86 : decode cX4_init 86 = .ok (.dup, 1) := by decide +kernel
theorem dX4_init_87 : decode cX4_init 87 = .ok (.iconst 4, 1) := by decide +kernel
theorem dX4_init_88 : decode cX4_init 88 = .ok (.invokespecial 35, 3) := by decide +kernel
theorem dX4_init_91 : decode cX4_init 91 = .ok (.putfield 45, 3) := by decide +kernel
theorem dX4_init_94 : decode cX4_init 94 = .ok (.aload_n 0, 1) := by decide +kernel
theorem dX4_init_95 : decode cX4_init 95 = .ok (.aload_n 1, 1) := by decide +kernel
theorem dX4_init_96 : decode cX4_init 96 = .ok (.putfield 48, 3) := by decide +kernel
theorem dX4_init_99 : decode cX4_init 99 = .ok (.aload_n 0, 1) := by decide +kernel
theorem dX4_init_100 : decode cX4_init 100 = .ok (.aload_n 2, 1) := by decide +kernel
theorem dX4_init_101 : decode cX4_init 101 = .ok (.putfield 52, 3) := by decide +kernel
theorem dX4_init_104 : decode cX4_init 104 = .ok (.aload_n 0, 1) := by decide +kernel
theorem dX4_init_105 : decode cX4_init 105 = .ok (.aload_n 3, 1) := by decide +kernel
theorem dX4_init_106 : decode cX4_init 106 = .ok (.putfield 56, 3) := by decide +kernel
theorem dX4_init_109 : decode cX4_init 109 = .ok (.aload_n 0, 1) := by decide +kernel
theorem dX4_init_110 : decode cX4_init 110 = .ok (.getfield 45, 3) := by decide +kernel
theorem dX4_init_113 : decode cX4_init 113 = .ok (.lconst 1, 1) := by decide +kernel
theorem dX4_init_114 : decode cX4_init 114 = .ok (.invokevirtual 60, 3) := by decide +kernel
theorem dX4_init_117 : decode cX4_init 117 = .ok (.return_, 1) := by decide +kernel
theorem dX4_place_0 : decode cX4_place 0 = .ok (.aload_n 1, 1) := by decide +kernel
theorem dX4_place_1 : decode cX4_place 1 = .ok (.getfield 64, 3) := by decide +kernel
theorem dX4_place_4 : decode cX4_place 4 = .ok (.ifCond .eq 4, 3) := by decide +kernel
theorem dX4_place_7 : decode cX4_place 7 = .ok (.return_, 1) := by decide +kernel
theorem dX4_place_8 : decode cX4_place 8 = .ok (.aload_n 1, 1) := by decide +kernel
theorem dX4_place_9 : decode cX4_place 9 = .ok (.iconst 1, 1) := by decide +kernel
theorem dX4_place_10 : decode cX4_place 10 = .ok (.putfield 64, 3) := by decide +kernel
theorem dX4_place_13 : decode cX4_place 13 = .ok (.aload_n 0, 1) := by decide +kernel
theorem dX4_place_14 : decode cX4_place 14 = .ok (.aload_n 1, 1) := by decide +kernel
theorem dX4_place_15 : decode cX4_place 15 = .ok (.getfield 70, 3) := by decide +kernel
theorem dX4_place_18 : decode cX4_place 18 = .ok (.bipush 8, 2) := by decide +kernel
theorem dX4_place_20 : decode cX4_place 20 = .ok (.invokestatic 74, 3) := by decide +kernel
theorem dX4_place_23 : decode cX4_place 23 = .ok (.putfield 80, 3) := by decide +kernel
theorem dX4_place_26 : decode cX4_place 26 = .ok (.aload_n 0, 1) := by decide +kernel
theorem dX4_place_27 : decode cX4_place 27 = .ok (.getfield 80, 3) := by decide +kernel
theorem dX4_place_30 : decode cX4_place 30 = .ok (.iconst 1, 1) := by decide +kernel
theorem dX4_place_31 : decode cX4_place 31 = .ok (.if_icmp .ge 4, 3) := by decide +kernel
theorem dX4_place_34 : decode cX4_place 34 = .ok (.return_, 1) := by decide +kernel
theorem dX4_place_35 : decode cX4_place 35 = .ok (.aload_n 0, 1) := by decide +kernel
theorem dX4_place_36 : decode cX4_place 36 = .ok (.getfield 48, 3) := by decide +kernel
theorem dX4_place_39 : decode cX4_place 39 = .ok (.aload_n 1, 1) := by decide +kernel
theorem dX4_place_40 : decode cX4_place 40 = .ok (.getfield 81, 3) := by decide +kernel
theorem dX4_place_43 : decode cX4_place 43 = .ok (.aload_n 1, 1) := by decide +kernel
theorem dX4_place_44 : decode cX4_place 44 = .ok (.invokevirtual 84, 3) := by decide +kernel
theorem dX4_place_47 : decode cX4_place 47 = .ok (.aload_n 0, 1) := by decide +kernel
theorem dX4_place_48 : decode cX4_place 48 = .ok (.invokevirtual 90, 3) := by decide +kernel
theorem dX4_place_51 : decode cX4_place 51 = .ok (.aload_n 0, 1) := by decide +kernel
theorem dX4_place_52 : decode cX4_place 52 = .ok (.invokevirtual 93, 3) := by decide +kernel
theorem dX4_place_55 : decode cX4_place 55 = .ok (.iconst 0, 1) := by decide +kernel
theorem dX4_place_56 : decode cX4_place 56 = .ok (.istore_n 2, 1) := by decide +kernel
theorem dX4_place_57 : decode cX4_place 57 = .ok (.iload_n 2, 1) := by decide +kernel
theorem dX4_place_58 : decode cX4_place 58 = .ok (.aload_n 0, 1) := by decide +kernel
theorem dX4_place_59 : decode cX4_place 59 = .ok (.getfield 80, 3) := by decide +kernel
theorem dX4_place_62 : decode cX4_place 62 = .ok (.if_icmp .ge 106, 3) := by decide +kernel
theorem dX4_place_65 : decode cX4_place 65 = .ok (.aload_n 0, 1) := by decide +kernel
theorem dX4_place_66 : decode cX4_place 66 = .ok (.iload_n 2, 1) := by decide +kernel
theorem dX4_place_67 : decode cX4_place 67 = .ok (.invokevirtual 96, 3) := by decide +kernel
theorem dX4_place_70 : decode cX4_place 70 = .ok (.aload_n 0, 1) := by decide +kernel
theorem dX4_place_71 : decode cX4_place 71 = .ok (.iload_n 2, 1) := by decide +kernel
theorem dX4_place_72 : decode cX4_place 72 = .ok (.invokevirtual 99, 3) := by decide +kernel
theorem dX4_place_75 : decode cX4_place 75 = .ok (.aload_n 0, 1) := by decide +kernel
theorem dX4_place_76 : decode cX4_place 76 = .ok (.getfield 56, 3) := by decide +kernel
theorem dX4_place_79 : decode cX4_place 79 = .ok (.aload_n 0, 1) := by decide +kernel
theorem dX4_place_80 : decode cX4_place 80 = .ok (.getfield 23, 3) := by decide +kernel
theorem dX4_place_83 : decode cX4_place 83 = .ok (.iload_n 2, 1) := by decide +kernel
theorem dX4_place_84 : decode cX4_place 84 = .ok (.laload, 1) := by decide +kernel
theorem dX4_place_85 : decode cX4_place 85 = .ok (.bipush 12, 2) := by decide +kernel
theorem dX4_place_87 : decode cX4_place 87 = .ok (.invokevirtual 102, 3) := by decide +kernel
theorem dX4_place_90 : decode cX4_place 90 = .ok (.aload_n 1, 1) := by decide +kernel
theorem dX4_place_91 : decode cX4_place 91 = .ok (.getfield 108, 3) := by decide +kernel
theorem dX4_place_94 : decode cX4_place 94 = .ok (.iload_n 2, 1) := by decide +kernel
theorem dX4_place_95 : decode cX4_place 95 = .ok (.aload_n 0, 1) := by decide +kernel
theorem dX4_place_96 : decode cX4_place 96 = .ok (.getfield 23, 3) := by decide +kernel
theorem dX4_place_99 : decode cX4_place 99 = .ok (.iload_n 2, 1) := by decide +kernel
theorem dX4_place_100 : decode cX4_place 100 = .ok (.laload, 1) := by decide +kernel
theorem dX4_place_101 : decode cX4_place 101 = .ok (.lastore, 1) := by decide +kernel
theorem dX4_place_102 : decode cX4_place 102 = .ok (.aload_n 1, 1) := by decide +kernel
theorem dX4_place_103 : decode cX4_place 103 = .ok (.getfield 111, 3) := by decide +kernel
theorem dX4_place_106 : decode cX4_place 106 = .ok (.iload_n 2, 1) := by decide +kernel
theorem dX4_place_107 : decode cX4_place 107 = .ok (.aload_n 0, 1) := by decide +kernel
theorem dX4_place_108 : decode cX4_place 108 = .ok (.getfield 30, 3) := by decide +kernel
theorem dX4_place_111 : decode cX4_place 111 = .ok (.iload_n 2, 1) := by decide +kernel
theorem dX4_place_112 : decode cX4_place 112 = .ok (.iaload, 1) := by decide +kernel
theorem dX4_place_113 : decode cX4_place 113 = .ok (.iload_n 2, 1) := by decide +kernel
theorem dX4_place_114 : decode cX4_place 114 = .ok (.iconst 1, 1) := by decide +kernel
theorem dX4_place_115 : decode cX4_place 115 = .ok (.iadd, 1) := by decide +kernel
theorem dX4_place_116 : decode cX4_place 116 = .ok (.if_icmp .ne 14, 3) := by decide +kernel
theorem dX4_place_119 : decode cX4_place 119 = .ok (.aload_n 0, 1) := by decide +kernel
theorem dX4_place_120 : decode cX4_place 120 = .ok (.invokevirtual 115, 3) := by decide +kernel
theorem dX4_place_123 : decode cX4_place 123 = .ok (.ifCond .ne 7, 3) := by decide +kernel
theorem dX4_place_126 : decode cX4_place 126 = .ok (.iconst 1, 1) := by decide +kernel
theorem dX4_place_127 : decode cX4_place 127 = .ok (.goto 4, 3) := by decide +kernel
theorem dX4_place_130 : decode cX4_place 130 = .ok (.iconst 0, 1) := by decide +kernel
theorem dX4_place_131 : decode cX4_place 131 = .ok (.bastore, 1) := by decide +kernel
theorem dX4_place_132 : decode cX4_place 132 = .ok (.aload_n 1, 1) := by decide +kernel
theorem dX4_place_133 : decode cX4_place 133 = .ok (.getfield 119, 3) := by decide +kernel
theorem dX4_place_136 : decode cX4_place 136 = .ok (.iload_n 2, 1) := by decide +kernel
theorem dX4_place_137 : decode cX4_place 137 = .ok (.iconst 1, 1) := by decide +kernel
theorem dX4_place_138 : decode cX4_place 138 = .ok (.iastore, 1) := by decide +kernel
theorem dX4_place_139 : decode cX4_place 139 = .ok (.aload_n 1, 1) := by decide +kernel
theorem dX4_place_140 : decode cX4_place 140 = .ok (.getfield 122, 3) := by decide +kernel
theorem dX4_place_143 : decode cX4_place 143 = .ok (.iconst 1, 1) := by decide +kernel
theorem dX4_place_144 : decode cX4_place 144 = .ok (.if_icmp .le 18, 3) := by decide +kernel
theorem dX4_place_147 : decode cX4_place 147 = .ok (.aload_n 0, 1) := by decide +kernel
theorem dX4_place_148 : decode cX4_place 148 = .ok (.iload_n 2, 1) := by decide +kernel
theorem dX4_place_149 : decode cX4_place 149 = .ok (.invokevirtual 125, 3) := by decide +kernel
theorem dX4_place_152 : decode cX4_place 152 = .ok (.aload_n 1, 1) := by decide +kernel
theorem dX4_place_153 : decode cX4_place 153 = .ok (.getfield 119, 3) := by decide +kernel
theorem dX4_place_156 : decode cX4_place 156 = .ok (.iload_n 2, 1) := by decide +kernel
theorem dX4_place_157 : decode cX4_place 157 = .ok (.aload_n 0, 1) := by decide +kernel
theorem dX4_place_158 : decode cX4_place 158 = .ok (.invokevirtual 128, 3) := by decide +kernel
theorem dX4_place_161 : decode cX4_place 161 = .ok (.iastore, 1) := by decide +kernel
theorem dX4_place_162 : decode cX4_place 162 = .ok (.iinc 2 1, 3) := by decide +kernel
theorem dX4_place_165 : decode cX4_place 165 = .ok (.goto (-108), 3) := by decide +kernel
theorem dX4_place_168 : decode cX4_place 168 = .ok (.return_, 1) := by decide +kernel
theorem dX4_makeSimple_0 : decode cX4_makeSimple 0 = .ok (.iconst 0, 1) := by decide +kernel
theorem dX4_makeSimple_1 : decode cX4_makeSimple 1 = .ok (.istore_n 1, 1) := by decide +kernel
theorem dX4_makeSimple_2 : decode cX4_makeSimple 2 = .ok (.iload_n 1, 1) := by decide +kernel
theorem dX4_makeSimple_3 : decode cX4_makeSimple 3 = .ok (.aload_n 0, 1) := by decide +kernel
theorem dX4_makeSimple_4 : decode cX4_makeSimple 4 = .ok (.getfield 48, 3) := by decide +kernel
theorem dX4_makeSimple_7 : decode cX4_makeSimple 7 = .ok (.getfield 131, 3) := by decide +kernel
theorem dX4_makeSimple_10 : decode cX4_makeSimple 10 = .ok (.if_icmp .ge 59, 3) := by decide +kernel
theorem dX4_makeSimple_13 : decode cX4_makeSimple 13 = .ok (.iload_n 1, 1) := by decide +kernel
theorem dX4_makeSimple_14 : decode cX4_makeSimple 14 = .ok (.bipush 8, 2) := by decide +kernel
theorem dX4_makeSimple_16 : decode cX4_makeSimple 16 = .ok (.if_icmp .ge 53, 3) := by decide +kernel
theorem dX4_makeSimple_19 : decode cX4_makeSimple 19 = .ok (.aload_n 0, 1) := by decide +kernel
theorem dX4_makeSimple_20 : decode cX4_makeSimple 20 = .ok (.getfield 48, 3) := by decide +kernel
theorem dX4_makeSimple_23 : decode cX4_makeSimple 23 = .ok (.getfield 134, 3) := by decide +kernel
theorem dX4_makeSimple_26 : decode cX4_makeSimple 26 = .ok (.iload_n 1, 1) := by decide +kernel
theorem dX4_makeSimple_27 : decode cX4_makeSimple 27 = .ok (.aaload, 1) := by decide +kernel
theorem dX4_makeSimple_28 : decode cX4_makeSimple 28 = .ok (.iconst 0, 1) := by decide +kernel
theorem dX4_makeSimple_29 : decode cX4_makeSimple 29 = .ok (.aload_n 0, 1) := by decide +kernel
theorem dX4_makeSimple_30 : decode cX4_makeSimple 30 = .ok (.getfield 16, 3) := by decide +kernel
theorem dX4_makeSimple_33 : decode cX4_makeSimple 33 = .ok (.iconst 0, 1) := by decide +kernel
theorem dX4_makeSimple_34 : decode cX4_makeSimple 34 = .ok (.bipush 9, 2) := by decide +kernel
theorem dX4_makeSimple_36 : decode cX4_makeSimple 36 = .ok (.invokestatic 137, 3) := by decide +kernel
theorem dX4_makeSimple_39 : decode cX4_makeSimple 39 = .ok (.aload_n 0, 1) := by decide +kernel
theorem dX4_makeSimple_40 : decode cX4_makeSimple 40 = .ok (.getfield 11, 3) := by decide +kernel
theorem dX4_makeSimple_43 : decode cX4_makeSimple 43 = .ok (.iload_n 1, 1) := by decide +kernel
theorem dX4_makeSimple_44 : decode cX4_makeSimple 44 = .ok (.aaload, 1) := by decide +kernel
theorem dX4_makeSimple_45 : decode cX4_makeSimple 45 = .ok (.aload_n 0, 1) := by decide +kernel
theorem dX4_makeSimple_46 : decode cX4_makeSimple 46 = .ok (.getfield 16, 3) := by decide +kernel
theorem dX4_makeSimple_49 : decode cX4_makeSimple 49 = .ok (.aload_n 0, 1) := by decide +kernel
theorem dX4_makeSimple_50 : decode cX4_makeSimple 50 = .ok (.getfield 48, 3) := by decide +kernel
theorem dX4_makeSimple_53 : decode cX4_makeSimple 53 = .ok (.getfield 134, 3) := by decide +kernel
theorem dX4_makeSimple_56 : decode cX4_makeSimple 56 = .ok (.iload_n 1, 1) := by decide +kernel
theorem dX4_makeSimple_57 : decode cX4_makeSimple 57 = .ok (.iconst 1, 1) := by decide +kernel
theorem dX4_makeSimple_58 : decode cX4_makeSimple 58 = .ok (.iadd, 1) := by decide +kernel
theorem dX4_makeSimple_59 : decode cX4_makeSimple 59 = .ok (.aaload, 1) := by decide +kernel
theorem dX4_makeSimple_60 : decode cX4_makeSimple 60 = .ok (.invokestatic 143, 3) := by decide +kernel
theorem dX4_makeSimple_63 : decode cX4_makeSimple 63 = .ok (.iinc 1 1, 3) := by decide +kernel
theorem dX4_makeSimple_66 : decode cX4_makeSimple 66 = .ok (.goto (-64), 3) := by decide +kernel
theorem dX4_makeSimple_69 : decode cX4_makeSimple 69 = .ok (.aload_n 0, 1) := by decide +kernel
theorem dX4_makeSimple_70 : decode cX4_makeSimple 70 = .ok (.getfield 16, 3) := by decide +kernel
theorem dX4_makeSimple_73 : decode cX4_makeSimple 73 = .ok (.aload_n 0, 1) := by decide +kernel
theorem dX4_makeSimple_74 : decode cX4_makeSimple 74 = .ok (.getfield 11, 3) := by decide +kernel
theorem dX4_makeSimple_77 : decode cX4_makeSimple 77 = .ok (.iconst 0, 1) := by decide +kernel
theorem dX4_makeSimple_78 : decode cX4_makeSimple 78 = .ok (.aaload, 1) := by decide +kernel
theorem dX4_makeSimple_79 : decode cX4_makeSimple 79 = .ok (.invokestatic 149, 3) := by decide +kernel
theorem dX4_makeSimple_82 : decode cX4_makeSimple 82 = .ok (.aload_n 0, 1) := by decide +kernel
theorem dX4_makeSimple_83 : decode cX4_makeSimple 83 = .ok (.getfield 52, 3) := by decide +kernel
theorem dX4_makeSimple_86 : decode cX4_makeSimple 86 = .ok (.aload_n 0, 1) := by decide +kernel
theorem dX4_makeSimple_87 : decode cX4_makeSimple 87 = .ok (.getfield 11, 3) := by decide +kernel
theorem dX4_makeSimple_90 : decode cX4_makeSimple 90 = .ok (.iconst 0, 1) := by decide +kernel
theorem dX4_makeSimple_91 : decode cX4_makeSimple 91 = .ok (.aaload, 1) := by decide +kernel
theorem dX4_makeSimple_92 : decode cX4_makeSimple 92 = .ok (.aload_n 0, 1) := by decide +kernel
theorem dX4_makeSimple_93 : decode cX4_makeSimple 93 = .ok (.getfield 16, 3) := by decide +kernel
theorem dX4_makeSimple_96 : decode cX4_makeSimple 96 = .ok (.invokevirtual 153, 3) := by decide +kernel
theorem dX4_makeSimple_99 : decode cX4_makeSimple 99 = .ok (.aload_n 0, 1) := by decide +kernel
theorem dX4_makeSimple_100 : decode cX4_makeSimple 100 = .ok (.aload_n 0, 1) := by decide +kernel
theorem dX4_makeSimple_101 : decode cX4_makeSimple 101 = .ok (.getfield 52, 3) := by decide +kernel
theorem dX4_makeSimple_104 : decode cX4_makeSimple 104 = .ok (.invokevirtual 158, 3) := by decide +kernel
theorem dX4_makeSimple_107 : decode cX4_makeSimple 107 = .ok (.putfield 161, 3) := by decide +kernel
theorem dX4_makeSimple_110 : decode cX4_makeSimple 110 = .ok (.return_, 1) := by decide +kernel
theorem dX4_rootsUpToPoint_0 : decode cX4_rootsUpToPoint 0 = .ok (.iconst 0, 1) := by decide +kernel
theorem dX4_rootsUpToPoint_1 : decode cX4_rootsUpToPoint 1 = .ok (.istore_n 1, 1) := by decide +kernel
theorem dX4_rootsUpToPoint_2 : decode cX4_rootsUpToPoint 2 = .ok (.iconst 0, 1) := by decide +kernel
theorem dX4_rootsUpToPoint_3 : decode cX4_rootsUpToPoint 3 = .ok (.istore_n 2, 1) := by decide +kernel
theorem dX4_rootsUpToPoint_4 : decode cX4_rootsUpToPoint 4 = .ok (.iconst 0, 1) := by decide +kernel
theorem dX4_rootsUpToPoint_5 : decode cX4_rootsUpToPoint 5 = .ok (.istore_n 3, 1) := by decide +kernel
theorem dX4_rootsUpToPoint_6 : decode cX4_rootsUpToPoint 6 = .ok (.iload_n 3, 1) := by decide +kernel
theorem dX4_rootsUpToPoint_7 : decode cX4_rootsUpToPoint 7 = .ok (.aload_n 0, 1) := by decide +kernel
theorem dX4_rootsUpToPoint_8 : decode cX4_rootsUpToPoint 8 = .ok (.getfield 52, 3) := by decide +kernel
theorem dX4_rootsUpToPoint_11 : decode cX4_rootsUpToPoint 11 = .ok (.getfield 163, 3) := by decide +kernel
theorem dX4_rootsUpToPoint_14 : decode cX4_rootsUpToPoint 14 = .ok (.if_icmp .ge 62, 3) := by decide +kernel
theorem dX4_rootsUpToPoint_17 : decode cX4_rootsUpToPoint 17 = .ok (.iload_n 3, 1) := by decide +kernel
theorem dX4_rootsUpToPoint_18 : decode cX4_rootsUpToPoint 18 = .ok (.bipush 10, 2) := by decide +kernel
theorem dX4_rootsUpToPoint_20 : decode cX4_rootsUpToPoint 20 = .ok (.if_icmp .ge 56, 3) := by decide +kernel
theorem dX4_rootsUpToPoint_23 : decode cX4_rootsUpToPoint 23 = .ok (.aload_n 0, 1) := by decide +kernel
theorem dX4_rootsUpToPoint_24 : decode cX4_rootsUpToPoint 24 = .ok (.getfield 56, 3) := by decide +kernel
theorem dX4_rootsUpToPoint_27 : decode cX4_rootsUpToPoint 27 = .ok (.aload_n 0, 1) := by decide +kernel
theorem dX4_rootsUpToPoint_28 : decode cX4_rootsUpToPoint 28 = .ok (.getfield 52, 3) := by decide +kernel
theorem dX4_rootsUpToPoint_31 : decode cX4_rootsUpToPoint 31 = .ok (.getfield 166, 3) := by decide +kernel
theorem dX4_rootsUpToPoint_34 : decode cX4_rootsUpToPoint 34 = .ok (.iload_n 3, 1) := by decide +kernel
theorem dX4_rootsUpToPoint_35 : decode cX4_rootsUpToPoint 35 = .ok (.bipush 9, 2) := by decide +kernel
theorem dX4_rootsUpToPoint_37 : decode cX4_rootsUpToPoint 37 = .ok (.imul, 1) := by decide +kernel
theorem dX4_rootsUpToPoint_38 : decode cX4_rootsUpToPoint 38 = .ok (.aload_n 0, 1) := by decide +kernel
theorem dX4_rootsUpToPoint_39 : decode cX4_rootsUpToPoint 39 = .ok (.getfield 52, 3) := by decide +kernel
theorem dX4_rootsUpToPoint_42 : decode cX4_rootsUpToPoint 42 = .ok (.getfield 169, 3) := by decide +kernel
theorem dX4_rootsUpToPoint_45 : decode cX4_rootsUpToPoint 45 = .ok (.iload_n 3, 1) := by decide +kernel
theorem dX4_rootsUpToPoint_46 : decode cX4_rootsUpToPoint 46 = .ok (.iaload, 1) := by decide +kernel
theorem dX4_rootsUpToPoint_47 : decode cX4_rootsUpToPoint 47 = .ok (.invokevirtual 172, 3) := by decide +kernel
theorem dX4_rootsUpToPoint_50 : decode cX4_rootsUpToPoint 50 = .ok (.istore 4, 2) := by decide +kernel
theorem dX4_rootsUpToPoint_52 : decode cX4_rootsUpToPoint 52 = .ok (.iload 4, 2) := by decide +kernel
theorem dX4_rootsUpToPoint_54 : decode cX4_rootsUpToPoint 54 = .ok (.ifCond .eq 16, 3) := by decide +kernel
theorem dX4_rootsUpToPoint_57 : decode cX4_rootsUpToPoint 57 = .ok (.iload 4, 2) := by decide +kernel
theorem dX4_rootsUpToPoint_59 : decode cX4_rootsUpToPoint 59 = .ok (.iload_n 2, 1) := by decide +kernel
theorem dX4_rootsUpToPoint_60 : decode cX4_rootsUpToPoint 60 = .ok (.ineg, 1) := by decide +kernel
theorem dX4_rootsUpToPoint_61 : decode cX4_rootsUpToPoint 61 = .ok (.if_icmp .ne 6, 3) := by decide +kernel
theorem dX4_rootsUpToPoint_64 : decode cX4_rootsUpToPoint 64 = .ok (.iinc 1 1, 3) := by decide +kernel
theorem dX4_rootsUpToPoint_67 : decode cX4_rootsUpToPoint 67 = .ok (.iload 4, 2) := by decide +kernel
theorem dX4_rootsUpToPoint_69 : decode cX4_rootsUpToPoint 69 = .ok (.istore_n 2, 1) := by decide +kernel
theorem dX4_rootsUpToPoint_70 : decode cX4_rootsUpToPoint 70 = .ok (.iinc 3 1, 3) := by decide +kernel
theorem dX4_rootsUpToPoint_73 : decode cX4_rootsUpToPoint 73 = .ok (.goto (-67), 3) := by decide +kernel
theorem dX4_rootsUpToPoint_76 : decode cX4_rootsUpToPoint 76 = .ok (.aload_n 0, 1) := by decide +kernel
theorem dX4_rootsUpToPoint_77 : decode cX4_rootsUpToPoint 77 = .ok (.getfield 161, 3) := by decide +kernel
theorem dX4_rootsUpToPoint_80 : decode cX4_rootsUpToPoint 80 = .ok (.iload_n 1, 1) := by decide +kernel
theorem dX4_rootsUpToPoint_81 : decode cX4_rootsUpToPoint 81 = .ok (.isub, 1) := by decide +kernel
theorem dX4_rootsUpToPoint_82 : decode cX4_rootsUpToPoint 82 = .ok (.ireturn, 1) := by decide +kernel
theorem dX4_signOfAll_0 : decode cX4_signOfAll 0 = .ok (.aload_n 0, 1) := by decide +kernel
theorem dX4_signOfAll_1 : decode cX4_signOfAll 1 = .ok (.getfield 56, 3) := by decide +kernel
theorem dX4_signOfAll_4 : decode cX4_signOfAll 4 = .ok (.aload_n 0, 1) := by decide +kernel
theorem dX4_signOfAll_5 : decode cX4_signOfAll 5 = .ok (.getfield 52, 3) := by decide +kernel
theorem dX4_signOfAll_8 : decode cX4_signOfAll 8 = .ok (.getfield 166, 3) := by decide +kernel
theorem dX4_signOfAll_11 : decode cX4_signOfAll 11 = .ok (.iconst 0, 1) := by decide +kernel
theorem dX4_signOfAll_12 : decode cX4_signOfAll 12 = .ok (.aload_n 0, 1) := by decide +kernel
theorem dX4_signOfAll_13 : decode cX4_signOfAll 13 = .ok (.getfield 52, 3) := by decide +kernel
theorem dX4_signOfAll_16 : decode cX4_signOfAll 16 = .ok (.getfield 169, 3) := by decide +kernel
theorem dX4_signOfAll_19 : decode cX4_signOfAll 19 = .ok (.iconst 0, 1) := by decide +kernel
theorem dX4_signOfAll_20 : decode cX4_signOfAll 20 = .ok (.iaload, 1) := by decide +kernel
theorem dX4_signOfAll_21 : decode cX4_signOfAll 21 = .ok (.invokevirtual 172, 3) := by decide +kernel
theorem dX4_signOfAll_24 : decode cX4_signOfAll 24 = .ok (.ireturn, 1) := by decide +kernel
theorem dX4_startBrackets_0 : decode cX4_startBrackets 0 = .ok (.ldc2_w 176, 3) := by decide +kernel
theorem dX4_startBrackets_3 : decode cX4_startBrackets 3 = .ok (.lstore_n 1, 1) := by decide +kernel
theorem dX4_startBrackets_4 : decode cX4_startBrackets 4 = .ok (.iconst 0, 1) := by decide +kernel
theorem dX4_startBrackets_5 : decode cX4_startBrackets 5 = .ok (.istore_n 3, 1) := by decide +kernel
theorem dX4_startBrackets_6 : decode cX4_startBrackets 6 = .ok (.iload_n 3, 1) := by decide +kernel
theorem dX4_startBrackets_7 : decode cX4_startBrackets 7 = .ok (.bipush 27, 2) := by decide +kernel
theorem dX4_startBrackets_9 : decode cX4_startBrackets 9 = .ok (.if_icmp .ge 68, 3) := by decide +kernel
theorem dX4_startBrackets_12 : decode cX4_startBrackets 12 = .ok (.lconst 1, 1) := by decide +kernel
theorem dX4_startBrackets_13 : decode cX4_startBrackets 13 = .ok (.iload_n 3, 1) := by decide +kernel
theorem dX4_startBrackets_14 : decode cX4_startBrackets 14 = .ok (.bipush 12, 2) := by decide +kernel
theorem dX4_startBrackets_16 : decode cX4_startBrackets 16 = .ok (.iadd, 1) := by decide +kernel
theorem dX4_startBrackets_17 : decode cX4_startBrackets 17 = .ok (.lshl, 1) := by decide +kernel
theorem dX4_startBrackets_18 : decode cX4_startBrackets 18 = .ok (.lstore 4, 2) := by decide +kernel
theorem dX4_startBrackets_20 : decode cX4_startBrackets 20 = .ok (.aload_n 0, 1) := by decide +kernel
theorem dX4_startBrackets_21 : decode cX4_startBrackets 21 = .ok (.getfield 56, 3) := by decide +kernel
theorem dX4_startBrackets_24 : decode cX4_startBrackets 24 = .ok (.lload 4, 2) := by decide +kernel
theorem dX4_startBrackets_26 : decode cX4_startBrackets 26 = .ok (.bipush 12, 2) := by decide +kernel
theorem dX4_startBrackets_28 : decode cX4_startBrackets 28 = .ok (.invokevirtual 102, 3) := by decide +kernel
theorem dX4_startBrackets_31 : decode cX4_startBrackets 31 = .ok (.lload 4, 2) := by decide +kernel
theorem dX4_startBrackets_33 : decode cX4_startBrackets 33 = .ok (.lload_n 1, 1) := by decide +kernel
theorem dX4_startBrackets_34 : decode cX4_startBrackets 34 = .ok (.lcmp, 1) := by decide +kernel
theorem dX4_startBrackets_35 : decode cX4_startBrackets 35 = .ok (.ifCond .ge 36, 3) := by decide +kernel
theorem dX4_startBrackets_38 : decode cX4_startBrackets 38 = .ok (.aload_n 0, 1) := by decide +kernel
theorem dX4_startBrackets_39 : decode cX4_startBrackets 39 = .ok (.invokevirtual 178, 3) := by decide +kernel
theorem dX4_startBrackets_42 : decode cX4_startBrackets 42 = .ok (.aload_n 0, 1) := by decide +kernel
theorem dX4_startBrackets_43 : decode cX4_startBrackets 43 = .ok (.getfield 80, 3) := by decide +kernel
theorem dX4_startBrackets_46 : decode cX4_startBrackets 46 = .ok (.if_icmp .ne 25, 3) := by decide +kernel
theorem dX4_startBrackets_49 : decode cX4_startBrackets 49 = .ok (.aload_n 0, 1) := by decide +kernel
theorem dX4_startBrackets_50 : decode cX4_startBrackets 50 = .ok (.getfield 56, 3) := by decide +kernel
theorem dX4_startBrackets_53 : decode cX4_startBrackets 53 = .ok (.lload 4, 2) := by decide +kernel
theorem dX4_startBrackets_55 : decode cX4_startBrackets 55 = .ok (.lneg, 1) := by decide +kernel
theorem dX4_startBrackets_56 : decode cX4_startBrackets 56 = .ok (.bipush 12, 2) := by decide +kernel
theorem dX4_startBrackets_58 : decode cX4_startBrackets 58 = .ok (.invokevirtual 102, 3) := by decide +kernel
theorem dX4_startBrackets_61 : decode cX4_startBrackets 61 = .ok (.aload_n 0, 1) := by decide +kernel
theorem dX4_startBrackets_62 : decode cX4_startBrackets 62 = .ok (.invokevirtual 178, 3) := by decide +kernel
theorem dX4_startBrackets_65 : decode cX4_startBrackets 65 = .ok (.ifCond .ne 6, 3) := by decide +kernel
theorem dX4_startBrackets_68 : decode cX4_startBrackets 68 = .ok (.lload 4, 2) := by decide +kernel
theorem dX4_startBrackets_70 : decode cX4_startBrackets 70 = .ok (.lstore_n 1, 1) := by decide +kernel
theorem dX4_startBrackets_71 : decode cX4_startBrackets 71 = .ok (.iinc 3 1, 3) := by decide +kernel
theorem dX4_startBrackets_74 : decode cX4_startBrackets 74 = .ok (.goto (-68), 3) := by decide +kernel
theorem dX4_startBrackets_77 : decode cX4_startBrackets 77 = .ok (.iconst 0, 1) := by decide +kernel
theorem dX4_startBrackets_78 : decode cX4_startBrackets 78 = .ok (.istore_n 3, 1) := by decide +kernel
theorem dX4_startBrackets_79 : decode cX4_startBrackets 79 = .ok (.iload_n 3, 1) := by decide +kernel
theorem dX4_startBrackets_80 : decode cX4_startBrackets 80 = .ok (.aload_n 0, 1) := by decide +kernel
theorem dX4_startBrackets_81 : decode cX4_startBrackets 81 = .ok (.getfield 80, 3) := by decide +kernel
theorem dX4_startBrackets_84 : decode cX4_startBrackets 84 = .ok (.if_icmp .ge 41, 3) := by decide +kernel
theorem dX4_startBrackets_87 : decode cX4_startBrackets 87 = .ok (.aload_n 0, 1) := by decide +kernel
theorem dX4_startBrackets_88 : decode cX4_startBrackets 88 = .ok (.getfield 20, 3) := by decide +kernel
theorem dX4_startBrackets_91 : decode cX4_startBrackets 91 = .ok (.iload_n 3, 1) := by decide +kernel
theorem dX4_startBrackets_92 : decode cX4_startBrackets 92 = .ok (.lload_n 1, 1) := by decide +kernel
theorem dX4_startBrackets_93 : decode cX4_startBrackets 93 = .ok (.lneg, 1) := by decide +kernel
theorem dX4_startBrackets_94 : decode cX4_startBrackets 94 = .ok (.lastore, 1) := by decide +kernel
theorem dX4_startBrackets_95 : decode cX4_startBrackets 95 = .ok (.aload_n 0, 1) := by decide +kernel
theorem dX4_startBrackets_96 : decode cX4_startBrackets 96 = .ok (.getfield 23, 3) := by decide +kernel
theorem dX4_startBrackets_99 : decode cX4_startBrackets 99 = .ok (.iload_n 3, 1) := by decide +kernel
theorem dX4_startBrackets_100 : decode cX4_startBrackets 100 = .ok (.lload_n 1, 1) := by decide +kernel
theorem dX4_startBrackets_101 : decode cX4_startBrackets 101 = .ok (.lastore, 1) := by decide +kernel
theorem dX4_startBrackets_102 : decode cX4_startBrackets 102 = .ok (.aload_n 0, 1) := by decide +kernel
theorem dX4_startBrackets_103 : decode cX4_startBrackets 103 = .ok (.getfield 26, 3) := by decide +kernel
theorem dX4_startBrackets_106 : decode cX4_startBrackets 106 = .ok (.iload_n 3, 1) := by decide +kernel
theorem dX4_startBrackets_107 : decode cX4_startBrackets 107 = .ok (.iconst 0, 1) := by decide +kernel
theorem dX4_startBrackets_108 : decode cX4_startBrackets 108 = .ok (.iastore, 1) := by decide +kernel
theorem dX4_startBrackets_109 : decode cX4_startBrackets 109 = .ok (.aload_n 0, 1) := by decide +kernel
theorem dX4_startBrackets_110 : decode cX4_startBrackets 110 = .ok (.getfield 30, 3) := by decide +kernel
theorem dX4_startBrackets_113 : decode cX4_startBrackets 113 = .ok (.iload_n 3, 1) := by decide +kernel
theorem dX4_startBrackets_114 : decode cX4_startBrackets 114 = .ok (.aload_n 0, 1) := by decide +kernel
theorem dX4_startBrackets_115 : decode cX4_startBrackets 115 = .ok (.getfield 80, 3) := by decide +kernel
theorem dX4_startBrackets_118 : decode cX4_startBrackets 118 = .ok (.iastore, 1) := by decide +kernel
theorem dX4_startBrackets_119 : decode cX4_startBrackets 119 = .ok (.iinc 3 1, 3) := by decide +kernel
theorem dX4_startBrackets_122 : decode cX4_startBrackets 122 = .ok (.goto (-43), 3) := by decide +kernel
theorem dX4_startBrackets_125 : decode cX4_startBrackets 125 = .ok (.return_, 1) := by decide +kernel
theorem dX4_part_0 : decode cX4_part 0 = .ok (.iconst 0, 1) := by decide +kernel
theorem dX4_part_1 : decode cX4_part 1 = .ok (.istore_n 2, 1) := by decide +kernel
theorem dX4_part_2 : decode cX4_part 2 = .ok (.iload_n 2, 1) := by decide +kernel
theorem dX4_part_3 : decode cX4_part 3 = .ok (.bipush 40, 2) := by decide +kernel
theorem dX4_part_5 : decode cX4_part 5 = .ok (.if_icmp .gt 167, 3) := by decide +kernel
theorem dX4_part_8 : decode cX4_part 8 = .ok (.aload_n 0, 1) := by decide +kernel
theorem dX4_part_9 : decode cX4_part 9 = .ok (.getfield 30, 3) := by decide +kernel
theorem dX4_part_12 : decode cX4_part 12 = .ok (.iload_n 1, 1) := by decide +kernel
theorem dX4_part_13 : decode cX4_part 13 = .ok (.iaload, 1) := by decide +kernel
theorem dX4_part_14 : decode cX4_part 14 = .ok (.aload_n 0, 1) := by decide +kernel
theorem dX4_part_15 : decode cX4_part 15 = .ok (.getfield 26, 3) := by decide +kernel
theorem dX4_part_18 : decode cX4_part 18 = .ok (.iload_n 1, 1) := by decide +kernel
theorem dX4_part_19 : decode cX4_part 19 = .ok (.iaload, 1) := by decide +kernel
theorem dX4_part_20 : decode cX4_part 20 = .ok (.isub, 1) := by decide +kernel
theorem dX4_part_21 : decode cX4_part 21 = .ok (.iconst 1, 1) := by decide +kernel
theorem dX4_part_22 : decode cX4_part 22 = .ok (.if_icmp .le 21, 3) := by decide +kernel
theorem dX4_part_25 : decode cX4_part 25 = .ok (.aload_n 0, 1) := by decide +kernel
theorem dX4_part_26 : decode cX4_part 26 = .ok (.getfield 23, 3) := by decide +kernel
theorem dX4_part_29 : decode cX4_part 29 = .ok (.iload_n 1, 1) := by decide +kernel
theorem dX4_part_30 : decode cX4_part 30 = .ok (.laload, 1) := by decide +kernel
theorem dX4_part_31 : decode cX4_part 31 = .ok (.aload_n 0, 1) := by decide +kernel
theorem dX4_part_32 : decode cX4_part 32 = .ok (.getfield 20, 3) := by decide +kernel
theorem dX4_part_35 : decode cX4_part 35 = .ok (.iload_n 1, 1) := by decide +kernel
theorem dX4_part_36 : decode cX4_part 36 = .ok (.laload, 1) := by decide +kernel
theorem dX4_part_37 : decode cX4_part 37 = .ok (.lsub, 1) := by decide +kernel
theorem dX4_part_38 : decode cX4_part 38 = .ok (.lconst 1, 1) := by decide +kernel
theorem dX4_part_39 : decode cX4_part 39 = .ok (.lcmp, 1) := by decide +kernel
theorem dX4_part_40 : decode cX4_part 40 = .ok (.ifCond .gt 4, 3) := by decide +kernel
theorem dX4_part_43 : decode cX4_part 43 = .ok (.return_, 1) := by decide +kernel
theorem dX4_part_44 : decode cX4_part 44 = .ok (.aload_n 0, 1) := by decide +kernel
theorem dX4_part_45 : decode cX4_part 45 = .ok (.getfield 20, 3) := by decide +kernel
theorem dX4_part_48 : decode cX4_part 48 = .ok (.iload_n 1, 1) := by decide +kernel
theorem dX4_part_49 : decode cX4_part 49 = .ok (.laload, 1) := by decide +kernel
theorem dX4_part_50 : decode cX4_part 50 = .ok (.aload_n 0, 1) := by decide +kernel
theorem dX4_part_51 : decode cX4_part 51 = .ok (.getfield 23, 3) := by decide +kernel
theorem dX4_part_54 : decode cX4_part 54 = .ok (.iload_n 1, 1) := by decide +kernel
theorem dX4_part_55 : decode cX4_part 55 = .ok (.laload, 1) := by decide +kernel
theorem dX4_part_56 : decode cX4_part 56 = .ok (.ladd, 1) := by decide +kernel
theorem dX4_part_57 : decode cX4_part 57 = .ok (.iconst 1, 1) := by decide +kernel
theorem dX4_part_58 : decode cX4_part 58 = .ok (.lshr, 1) := by decide +kernel
theorem dX4_part_59 : decode cX4_part 59 = .ok (.lstore_n 3, 1) := by decide +kernel
theorem dX4_part_60 : decode cX4_part 60 = .ok (.aload_n 0, 1) := by decide +kernel
theorem dX4_part_61 : decode cX4_part 61 = .ok (.getfield 56, 3) := by decide +kernel
theorem dX4_part_64 : decode cX4_part 64 = .ok (.lload_n 3, 1) := by decide +kernel
theorem dX4_part_65 : decode cX4_part 65 = .ok (.bipush 12, 2) := by decide +kernel
theorem dX4_part_67 : decode cX4_part 67 = .ok (.invokevirtual 102, 3) := by decide +kernel
theorem dX4_part_70 : decode cX4_part 70 = .ok (.aload_n 0, 1) := by decide +kernel
theorem dX4_part_71 : decode cX4_part 71 = .ok (.invokevirtual 178, 3) := by decide +kernel
theorem dX4_part_74 : decode cX4_part 74 = .ok (.istore 5, 2) := by decide +kernel
theorem dX4_part_76 : decode cX4_part 76 = .ok (.iconst 0, 1) := by decide +kernel
theorem dX4_part_77 : decode cX4_part 77 = .ok (.istore 6, 2) := by decide +kernel
theorem dX4_part_79 : decode cX4_part 79 = .ok (.iload 6, 2) := by decide +kernel
theorem dX4_part_81 : decode cX4_part 81 = .ok (.aload_n 0, 1) := by decide +kernel
theorem dX4_part_82 : decode cX4_part 82 = .ok (.getfield 80, 3) := by decide +kernel
theorem dX4_part_85 : decode cX4_part 85 = .ok (.if_icmp .ge 81, 3) := by decide +kernel
theorem dX4_part_88 : decode cX4_part 88 = .ok (.iload 6, 2) := by decide +kernel
theorem dX4_part_90 : decode cX4_part 90 = .ok (.iload 5, 2) := by decide +kernel
theorem dX4_part_92 : decode cX4_part 92 = .ok (.if_icmp .ge 32, 3) := by decide +kernel
theorem dX4_part_95 : decode cX4_part 95 = .ok (.lload_n 3, 1) := by decide +kernel
theorem dX4_part_96 : decode cX4_part 96 = .ok (.aload_n 0, 1) := by decide +kernel
theorem dX4_part_97 : decode cX4_part 97 = .ok (.getfield 23, 3) := by decide +kernel
theorem dX4_part_100 : decode cX4_part 100 = .ok (.iload 6, 2) := by decide +kernel
theorem dX4_part_102 : decode cX4_part 102 = .ok (.laload, 1) := by decide +kernel
theorem dX4_part_103 : decode cX4_part 103 = .ok (.lcmp, 1) := by decide +kernel
theorem dX4_part_104 : decode cX4_part 104 = .ok (.ifCond .ge 20, 3) := by decide +kernel
theorem dX4_part_107 : decode cX4_part 107 = .ok (.aload_n 0, 1) := by decide +kernel
theorem dX4_part_108 : decode cX4_part 108 = .ok (.getfield 23, 3) := by decide +kernel
theorem dX4_part_111 : decode cX4_part 111 = .ok (.iload 6, 2) := by decide +kernel
theorem dX4_part_113 : decode cX4_part 113 = .ok (.lload_n 3, 1) := by decide +kernel
theorem dX4_part_114 : decode cX4_part 114 = .ok (.lastore, 1) := by decide +kernel
theorem dX4_part_115 : decode cX4_part 115 = .ok (.aload_n 0, 1) := by decide +kernel
theorem dX4_part_116 : decode cX4_part 116 = .ok (.getfield 30, 3) := by decide +kernel
theorem dX4_part_119 : decode cX4_part 119 = .ok (.iload 6, 2) := by decide +kernel
theorem dX4_part_121 : decode cX4_part 121 = .ok (.iload 5, 2) := by decide +kernel
theorem dX4_part_123 : decode cX4_part 123 = .ok (.iastore, 1) := by decide +kernel
theorem dX4_part_124 : decode cX4_part 124 = .ok (.iload 6, 2) := by decide +kernel
theorem dX4_part_126 : decode cX4_part 126 = .ok (.iload 5, 2) := by decide +kernel
theorem dX4_part_128 : decode cX4_part 128 = .ok (.if_icmp .lt 32, 3) := by decide +kernel
theorem dX4_part_131 : decode cX4_part 131 = .ok (.lload_n 3, 1) := by decide +kernel
theorem dX4_part_132 : decode cX4_part 132 = .ok (.aload_n 0, 1) := by decide +kernel
theorem dX4_part_133 : decode cX4_part 133 = .ok (.getfield 20, 3) := by decide +kernel
theorem dX4_part_136 : decode cX4_part 136 = .ok (.iload 6, 2) := by decide +kernel
theorem dX4_part_138 : decode cX4_part 138 = .ok (.laload, 1) := by decide +kernel
theorem dX4_part_139 : decode cX4_part 139 = .ok (.lcmp, 1) := by decide +kernel
theorem dX4_part_140 : decode cX4_part 140 = .ok (.ifCond .le 20, 3) := by decide +kernel
theorem dX4_part_143 : decode cX4_part 143 = .ok (.aload_n 0, 1) := by decide +kernel
theorem dX4_part_144 : decode cX4_part 144 = .ok (.getfield 20, 3) := by decide +kernel
theorem dX4_part_147 : decode cX4_part 147 = .ok (.iload 6, 2) := by decide +kernel
theorem dX4_part_149 : decode cX4_part 149 = .ok (.lload_n 3, 1) := by decide +kernel
theorem dX4_part_150 : decode cX4_part 150 = .ok (.lastore, 1) := by decide +kernel
theorem dX4_part_151 : decode cX4_part 151 = .ok (.aload_n 0, 1) := by decide +kernel
theorem dX4_part_152 : decode cX4_part 152 = .ok (.getfield 26, 3) := by decide +kernel
theorem dX4_part_155 : decode cX4_part 155 = .ok (.iload 6, 2) := by decide +kernel
theorem dX4_part_157 : decode cX4_part 157 = .ok (.iload 5, 2) := by decide +kernel
theorem dX4_part_159 : decode cX4_part 159 = .ok (.iastore, 1) := by decide +kernel
theorem dX4_part_160 : decode cX4_part 160 = .ok (.iinc 6 1, 3) := by decide +kernel
theorem dX4_part_163 : decode cX4_part 163 = .ok (.goto (-84), 3) := by decide +kernel
theorem dX4_part_166 : decode cX4_part 166 = .ok (.iinc 2 1, 3) := by decide +kernel
theorem dX4_part_169 : decode cX4_part 169 = .ok (.goto (-167), 3) := by decide +kernel
theorem dX4_part_172 : decode cX4_part 172 = .ok (.return_, 1) := by decide +kernel
theorem dX4_narrow_0 : decode cX4_narrow 0 = .ok (.aload_n 0, 1) := by decide +kernel
theorem dX4_narrow_1 : decode cX4_narrow 1 = .ok (.getfield 80, 3) := by decide +kernel
theorem dX4_narrow_4 : decode cX4_narrow 4 = .ok (.aload_n 0, 1) := by decide +kernel
theorem dX4_narrow_5 : decode cX4_narrow 5 = .ok (.getfield 26, 3) := by decide +kernel
theorem dX4_narrow_8 : decode cX4_narrow 8 = .ok (.iload_n 1, 1) := by decide +kernel
theorem dX4_narrow_9 : decode cX4_narrow 9 = .ok (.iaload, 1) := by decide +kernel
theorem dX4_narrow_10 : decode cX4_narrow 10 = .ok (.isub, 1) := by decide +kernel
theorem dX4_narrow_11 : decode cX4_narrow 11 = .ok (.istore_n 2, 1) := by decide +kernel
theorem dX4_narrow_12 : decode cX4_narrow 12 = .ok (.iload_n 2, 1) := by decide +kernel
theorem dX4_narrow_13 : decode cX4_narrow 13 = .ok (.iconst 1, 1) := by decide +kernel
theorem dX4_narrow_14 : decode cX4_narrow 14 = .ok (.iand, 1) := by decide +kernel
theorem dX4_narrow_15 : decode cX4_narrow 15 = .ok (.ifCond .ne 15, 3) := by decide +kernel
theorem dX4_narrow_18 : decode cX4_narrow 18 = .ok (.aload_n 0, 1) := by decide +kernel
theorem dX4_narrow_19 : decode cX4_narrow 19 = .ok (.getfield 52, 3) := by decide +kernel
theorem dX4_narrow_22 : decode cX4_narrow 22 = .ok (.getfield 181, 3) := by decide +kernel
theorem dX4_narrow_25 : decode cX4_narrow 25 = .ok (.iconst 0, 1) := by decide +kernel
theorem dX4_narrow_26 : decode cX4_narrow 26 = .ok (.iaload, 1) := by decide +kernel
theorem dX4_narrow_27 : decode cX4_narrow 27 = .ok (.goto 13, 3) := by decide +kernel
theorem dX4_narrow_30 : decode cX4_narrow 30 = .ok (.aload_n 0, 1) := by decide +kernel
theorem dX4_narrow_31 : decode cX4_narrow 31 = .ok (.getfield 52, 3) := by decide +kernel
theorem dX4_narrow_34 : decode cX4_narrow 34 = .ok (.getfield 181, 3) := by decide +kernel
theorem dX4_narrow_37 : decode cX4_narrow 37 = .ok (.iconst 0, 1) := by decide +kernel
theorem dX4_narrow_38 : decode cX4_narrow 38 = .ok (.iaload, 1) := by decide +kernel
theorem dX4_narrow_39 : decode cX4_narrow 39 = .ok (.ineg, 1) := by decide +kernel
theorem dX4_narrow_40 : decode cX4_narrow 40 = .ok (.istore_n 3, 1) := by decide +kernel
theorem dX4_narrow_41 : decode cX4_narrow 41 = .ok (.iconst 0, 1) := by decide +kernel
theorem dX4_narrow_42 : decode cX4_narrow 42 = .ok (.istore 4, 2) := by decide +kernel
theorem dX4_narrow_44 : decode cX4_narrow 44 = .ok (.iload 4, 2) := by decide +kernel
theorem dX4_narrow_46 : decode cX4_narrow 46 = .ok (.bipush 40, 2) := by decide +kernel
theorem dX4_narrow_48 : decode cX4_narrow 48 = .ok (.if_icmp .gt 83, 3) := by decide +kernel
theorem dX4_narrow_51 : decode cX4_narrow 51 = .ok (.aload_n 0, 1) := by decide +kernel
theorem dX4_narrow_52 : decode cX4_narrow 52 = .ok (.getfield 23, 3) := by decide +kernel
theorem dX4_narrow_55 : decode cX4_narrow 55 = .ok (.iload_n 1, 1) := by decide +kernel
theorem dX4_narrow_56 : decode cX4_narrow 56 = .ok (.laload, 1) := by decide +kernel
theorem dX4_narrow_57 : decode cX4_narrow 57 = .ok (.aload_n 0, 1) := by decide +kernel
theorem dX4_narrow_58 : decode cX4_narrow 58 = .ok (.getfield 20, 3) := by decide +kernel
theorem dX4_narrow_61 : decode cX4_narrow 61 = .ok (.iload_n 1, 1) := by decide +kernel
theorem dX4_narrow_62 : decode cX4_narrow 62 = .ok (.laload, 1) := by decide +kernel
theorem dX4_narrow_63 : decode cX4_narrow 63 = .ok (.lsub, 1) := by decide +kernel
theorem dX4_narrow_64 : decode cX4_narrow 64 = .ok (.lconst 1, 1) := by decide +kernel
theorem dX4_narrow_65 : decode cX4_narrow 65 = .ok (.lcmp, 1) := by decide +kernel
theorem dX4_narrow_66 : decode cX4_narrow 66 = .ok (.ifCond .gt 4, 3) := by decide +kernel
theorem dX4_narrow_69 : decode cX4_narrow 69 = .ok (.return_, 1) := by decide +kernel
theorem dX4_narrow_70 : decode cX4_narrow 70 = .ok (.aload_n 0, 1) := by decide +kernel
theorem dX4_narrow_71 : decode cX4_narrow 71 = .ok (.getfield 20, 3) := by decide +kernel
theorem dX4_narrow_74 : decode cX4_narrow 74 = .ok (.iload_n 1, 1) := by decide +kernel
theorem dX4_narrow_75 : decode cX4_narrow 75 = .ok (.laload, 1) := by decide +kernel
theorem dX4_narrow_76 : decode cX4_narrow 76 = .ok (.aload_n 0, 1) := by decide +kernel
theorem dX4_narrow_77 : decode cX4_narrow 77 = .ok (.getfield 23, 3) := by decide +kernel
theorem dX4_narrow_80 : decode cX4_narrow 80 = .ok (.iload_n 1, 1) := by decide +kernel
theorem dX4_narrow_81 : decode cX4_narrow 81 = .ok (.laload, 1) := by decide +kernel
theorem dX4_narrow_82 : decode cX4_narrow 82 = .ok (.ladd, 1) := by decide +kernel
theorem dX4_narrow_83 : decode cX4_narrow 83 = .ok (.iconst 1, 1) := by decide +kernel
theorem dX4_narrow_84 : decode cX4_narrow 84 = .ok (.lshr, 1) := by decide +kernel
theorem dX4_narrow_85 : decode cX4_narrow 85 = .ok (.lstore 5, 2) := by decide +kernel
theorem dX4_narrow_87 : decode cX4_narrow 87 = .ok (.aload_n 0, 1) := by decide +kernel
theorem dX4_narrow_88 : decode cX4_narrow 88 = .ok (.getfield 56, 3) := by decide +kernel
theorem dX4_narrow_91 : decode cX4_narrow 91 = .ok (.lload 5, 2) := by decide +kernel
theorem dX4_narrow_93 : decode cX4_narrow 93 = .ok (.bipush 12, 2) := by decide +kernel
theorem dX4_narrow_95 : decode cX4_narrow 95 = .ok (.invokevirtual 102, 3) := by decide +kernel
theorem dX4_narrow_98 : decode cX4_narrow 98 = .ok (.aload_n 0, 1) := by decide +kernel
theorem dX4_narrow_99 : decode cX4_narrow 99 = .ok (.invokevirtual 115, 3) := by decide +kernel
theorem dX4_narrow_102 : decode cX4_narrow 102 = .ok (.iload_n 3, 1) := by decide +kernel
theorem dX4_narrow_103 : decode cX4_narrow 103 = .ok (.if_icmp .ne 14, 3) := by decide +kernel
theorem dX4_narrow_106 : decode cX4_narrow 106 = .ok (.aload_n 0, 1) := by decide +kernel
theorem dX4_narrow_107 : decode cX4_narrow 107 = .ok (.getfield 20, 3) := by decide +kernel
theorem dX4_narrow_110 : decode cX4_narrow 110 = .ok (.iload_n 1, 1) := by decide +kernel
theorem dX4_narrow_111 : decode cX4_narrow 111 = .ok (.lload 5, 2) := by decide +kernel
theorem dX4_narrow_113 : decode cX4_narrow 113 = .ok (.lastore, 1) := by decide +kernel
theorem dX4_narrow_114 : decode cX4_narrow 114 = .ok (.goto 11, 3) := by decide +kernel
theorem dX4_narrow_117 : decode cX4_narrow 117 = .ok (.aload_n 0, 1) := by decide +kernel
theorem dX4_narrow_118 : decode cX4_narrow 118 = .ok (.getfield 23, 3) := by decide +kernel
theorem dX4_narrow_121 : decode cX4_narrow 121 = .ok (.iload_n 1, 1) := by decide +kernel
theorem dX4_narrow_122 : decode cX4_narrow 122 = .ok (.lload 5, 2) := by decide +kernel
theorem dX4_narrow_124 : decode cX4_narrow 124 = .ok (.lastore, 1) := by decide +kernel
theorem dX4_narrow_125 : decode cX4_narrow 125 = .ok (.iinc 4 1, 3) := by decide +kernel
theorem dX4_narrow_128 : decode cX4_narrow 128 = .ok (.goto (-84), 3) := by decide +kernel
theorem dX4_narrow_131 : decode cX4_narrow 131 = .ok (.return_, 1) := by decide +kernel
theorem dX4_repeatsInCell_0 : decode cX4_repeatsInCell 0 = .ok (.iconst 1, 1) := by decide +kernel
theorem dX4_repeatsInCell_1 : decode cX4_repeatsInCell 1 = .ok (.istore_n 1, 1) := by decide +kernel
theorem dX4_repeatsInCell_2 : decode cX4_repeatsInCell 2 = .ok (.iconst 1, 1) := by decide +kernel
theorem dX4_repeatsInCell_3 : decode cX4_repeatsInCell 3 = .ok (.istore_n 2, 1) := by decide +kernel
theorem dX4_repeatsInCell_4 : decode cX4_repeatsInCell 4 = .ok (.iload_n 2, 1) := by decide +kernel
theorem dX4_repeatsInCell_5 : decode cX4_repeatsInCell 5 = .ok (.aload_n 0, 1) := by decide +kernel
theorem dX4_repeatsInCell_6 : decode cX4_repeatsInCell 6 = .ok (.getfield 48, 3) := by decide +kernel
theorem dX4_repeatsInCell_9 : decode cX4_repeatsInCell 9 = .ok (.getfield 131, 3) := by decide +kernel
theorem dX4_repeatsInCell_12 : decode cX4_repeatsInCell 12 = .ok (.if_icmp .ge 43, 3) := by decide +kernel
theorem dX4_repeatsInCell_15 : decode cX4_repeatsInCell 15 = .ok (.iload_n 2, 1) := by decide +kernel
theorem dX4_repeatsInCell_16 : decode cX4_repeatsInCell 16 = .ok (.bipush 8, 2) := by decide +kernel
theorem dX4_repeatsInCell_18 : decode cX4_repeatsInCell 18 = .ok (.if_icmp .ge 37, 3) := by decide +kernel
theorem dX4_repeatsInCell_21 : decode cX4_repeatsInCell 21 = .ok (.aload_n 0, 1) := by decide +kernel
theorem dX4_repeatsInCell_22 : decode cX4_repeatsInCell 22 = .ok (.getfield 48, 3) := by decide +kernel
theorem dX4_repeatsInCell_25 : decode cX4_repeatsInCell 25 = .ok (.getfield 184, 3) := by decide +kernel
theorem dX4_repeatsInCell_28 : decode cX4_repeatsInCell 28 = .ok (.iload_n 2, 1) := by decide +kernel
theorem dX4_repeatsInCell_29 : decode cX4_repeatsInCell 29 = .ok (.iaload, 1) := by decide +kernel
theorem dX4_repeatsInCell_30 : decode cX4_repeatsInCell 30 = .ok (.ifCond .le 19, 3) := by decide +kernel
theorem dX4_repeatsInCell_33 : decode cX4_repeatsInCell 33 = .ok (.aload_n 0, 1) := by decide +kernel
theorem dX4_repeatsInCell_34 : decode cX4_repeatsInCell 34 = .ok (.aload_n 0, 1) := by decide +kernel
theorem dX4_repeatsInCell_35 : decode cX4_repeatsInCell 35 = .ok (.getfield 11, 3) := by decide +kernel
theorem dX4_repeatsInCell_38 : decode cX4_repeatsInCell 38 = .ok (.iload_n 2, 1) := by decide +kernel
theorem dX4_repeatsInCell_39 : decode cX4_repeatsInCell 39 = .ok (.aaload, 1) := by decide +kernel
theorem dX4_repeatsInCell_40 : decode cX4_repeatsInCell 40 = .ok (.invokevirtual 187, 3) := by decide +kernel
theorem dX4_repeatsInCell_43 : decode cX4_repeatsInCell 43 = .ok (.ifCond .eq 6, 3) := by decide +kernel
theorem dX4_repeatsInCell_46 : decode cX4_repeatsInCell 46 = .ok (.iinc 1 1, 3) := by decide +kernel
theorem dX4_repeatsInCell_49 : decode cX4_repeatsInCell 49 = .ok (.iinc 2 1, 3) := by decide +kernel
theorem dX4_repeatsInCell_52 : decode cX4_repeatsInCell 52 = .ok (.goto (-48), 3) := by decide +kernel
theorem dX4_repeatsInCell_55 : decode cX4_repeatsInCell 55 = .ok (.iload_n 1, 1) := by decide +kernel
theorem dX4_repeatsInCell_56 : decode cX4_repeatsInCell 56 = .ok (.ireturn, 1) := by decide +kernel
theorem dX4_refine_0 : decode cX4_refine 0 = .ok (.aload_n 0, 1) := by decide +kernel
theorem dX4_refine_1 : decode cX4_refine 1 = .ok (.getfield 38, 3) := by decide +kernel
theorem dX4_refine_4 : decode cX4_refine 4 = .ok (.aload_n 0, 1) := by decide +kernel
theorem dX4_refine_5 : decode cX4_refine 5 = .ok (.getfield 23, 3) := by decide +kernel
theorem dX4_refine_8 : decode cX4_refine 8 = .ok (.iload_n 1, 1) := by decide +kernel
theorem dX4_refine_9 : decode cX4_refine 9 = .ok (.laload, 1) := by decide +kernel
theorem dX4_refine_10 : decode cX4_refine 10 = .ok (.invokevirtual 60, 3) := by decide +kernel
theorem dX4_refine_13 : decode cX4_refine 13 = .ok (.aload_n 0, 1) := by decide +kernel
theorem dX4_refine_14 : decode cX4_refine 14 = .ok (.bipush 12, 2) := by decide +kernel
theorem dX4_refine_16 : decode cX4_refine 16 = .ok (.putfield 191, 3) := by decide +kernel
theorem dX4_refine_19 : decode cX4_refine 19 = .ok (.aload_n 0, 1) := by decide +kernel
theorem dX4_refine_20 : decode cX4_refine 20 = .ok (.getfield 26, 3) := by decide +kernel
theorem dX4_refine_23 : decode cX4_refine 23 = .ok (.iload_n 1, 1) := by decide +kernel
theorem dX4_refine_24 : decode cX4_refine 24 = .ok (.iaload, 1) := by decide +kernel
theorem dX4_refine_25 : decode cX4_refine 25 = .ok (.istore_n 2, 1) := by decide +kernel
theorem dX4_refine_26 : decode cX4_refine 26 = .ok (.aload_n 0, 1) := by decide +kernel
theorem dX4_refine_27 : decode cX4_refine 27 = .ok (.getfield 30, 3) := by decide +kernel
theorem dX4_refine_30 : decode cX4_refine 30 = .ok (.iload_n 1, 1) := by decide +kernel
theorem dX4_refine_31 : decode cX4_refine 31 = .ok (.iaload, 1) := by decide +kernel
theorem dX4_refine_32 : decode cX4_refine 32 = .ok (.istore_n 3, 1) := by decide +kernel
theorem dX4_refine_33 : decode cX4_refine 33 = .ok (.iload_n 3, 1) := by decide +kernel
theorem dX4_refine_34 : decode cX4_refine 34 = .ok (.iload_n 2, 1) := by decide +kernel
theorem dX4_refine_35 : decode cX4_refine 35 = .ok (.isub, 1) := by decide +kernel
theorem dX4_refine_36 : decode cX4_refine 36 = .ok (.iconst 1, 1) := by decide +kernel
theorem dX4_refine_37 : decode cX4_refine 37 = .ok (.if_icmp .le 112, 3) := by decide +kernel
theorem dX4_refine_40 : decode cX4_refine 40 = .ok (.aload_n 0, 1) := by decide +kernel
theorem dX4_refine_41 : decode cX4_refine 41 = .ok (.getfield 191, 3) := by decide +kernel
theorem dX4_refine_44 : decode cX4_refine 44 = .ok (.sipush 256, 3) := by decide +kernel
theorem dX4_refine_47 : decode cX4_refine 47 = .ok (.if_icmp .ge 102, 3) := by decide +kernel
theorem dX4_refine_50 : decode cX4_refine 50 = .ok (.aload_n 0, 1) := by decide +kernel
theorem dX4_refine_51 : decode cX4_refine 51 = .ok (.dup, 1) := by decide +kernel
theorem dX4_refine_52 : decode cX4_refine 52 = .ok (.getfield 191, 3) := by decide +kernel
theorem dX4_refine_55 : decode cX4_refine 55 = .ok (.iconst 1, 1) := by decide +kernel
theorem dX4_refine_56 : decode cX4_refine 56 = .ok (.iadd, 1) := by decide +kernel
theorem dX4_refine_57 : decode cX4_refine 57 = .ok (.putfield 191, 3) := by decide +kernel
theorem dX4_refine_60 : decode cX4_refine 60 = .ok (.aload_n 0, 1) := by decide +kernel
theorem dX4_refine_61 : decode cX4_refine 61 = .ok (.getfield 38, 3) := by decide +kernel
theorem dX4_refine_64 : decode cX4_refine 64 = .ok (.aload_n 0, 1) := by decide +kernel
theorem dX4_refine_65 : decode cX4_refine 65 = .ok (.getfield 38, 3) := by decide +kernel
theorem dX4_refine_68 : decode cX4_refine 68 = .ok (.lconst 1, 1) := by decide +kernel
theorem dX4_refine_69 : decode cX4_refine 69 = .ok (.iconst 0, 1) := by decide +kernel
theorem dX4_refine_70 : decode cX4_refine 70 = .ok (.invokevirtual 194, 3) := by decide +kernel
theorem dX4_refine_73 : decode cX4_refine 73 = .ok (.aload_n 0, 1) := by decide +kernel
theorem dX4_refine_74 : decode cX4_refine 74 = .ok (.getfield 42, 3) := by decide +kernel
theorem dX4_refine_77 : decode cX4_refine 77 = .ok (.aload_n 0, 1) := by decide +kernel
theorem dX4_refine_78 : decode cX4_refine 78 = .ok (.getfield 38, 3) := by decide +kernel
theorem dX4_refine_81 : decode cX4_refine 81 = .ok (.invokevirtual 198, 3) := by decide +kernel
theorem dX4_refine_84 : decode cX4_refine 84 = .ok (.aload_n 0, 1) := by decide +kernel
theorem dX4_refine_85 : decode cX4_refine 85 = .ok (.getfield 42, 3) := by decide +kernel
theorem dX4_refine_88 : decode cX4_refine 88 = .ok (.aload_n 0, 1) := by decide +kernel
theorem dX4_refine_89 : decode cX4_refine 89 = .ok (.getfield 45, 3) := by decide +kernel
theorem dX4_refine_92 : decode cX4_refine 92 = .ok (.ldc2_w 202, 3) := by decide +kernel
theorem dX4_refine_95 : decode cX4_refine 95 = .ok (.iconst 0, 1) := by decide +kernel
theorem dX4_refine_96 : decode cX4_refine 96 = .ok (.invokevirtual 194, 3) := by decide +kernel
theorem dX4_refine_99 : decode cX4_refine 99 = .ok (.aload_n 0, 1) := by decide +kernel
theorem dX4_refine_100 : decode cX4_refine 100 = .ok (.getfield 56, 3) := by decide +kernel
theorem dX4_refine_103 : decode cX4_refine 103 = .ok (.aload_n 0, 1) := by decide +kernel
theorem dX4_refine_104 : decode cX4_refine 104 = .ok (.getfield 42, 3) := by decide +kernel
theorem dX4_refine_107 : decode cX4_refine 107 = .ok (.aload_n 0, 1) := by decide +kernel
theorem dX4_refine_108 : decode cX4_refine 108 = .ok (.getfield 191, 3) := by decide +kernel
theorem dX4_refine_111 : decode cX4_refine 111 = .ok (.invokevirtual 204, 3) := by decide +kernel
theorem dX4_refine_114 : decode cX4_refine 114 = .ok (.aload_n 0, 1) := by decide +kernel
theorem dX4_refine_115 : decode cX4_refine 115 = .ok (.invokevirtual 178, 3) := by decide +kernel
theorem dX4_refine_118 : decode cX4_refine 118 = .ok (.istore 4, 2) := by decide +kernel
theorem dX4_refine_120 : decode cX4_refine 120 = .ok (.iload_n 1, 1) := by decide +kernel
theorem dX4_refine_121 : decode cX4_refine 121 = .ok (.iload 4, 2) := by decide +kernel
theorem dX4_refine_123 : decode cX4_refine 123 = .ok (.if_icmp .ge 20, 3) := by decide +kernel
theorem dX4_refine_126 : decode cX4_refine 126 = .ok (.aload_n 0, 1) := by decide +kernel
theorem dX4_refine_127 : decode cX4_refine 127 = .ok (.getfield 38, 3) := by decide +kernel
theorem dX4_refine_130 : decode cX4_refine 130 = .ok (.aload_n 0, 1) := by decide +kernel
theorem dX4_refine_131 : decode cX4_refine 131 = .ok (.getfield 42, 3) := by decide +kernel
theorem dX4_refine_134 : decode cX4_refine 134 = .ok (.invokevirtual 198, 3) := by decide +kernel
theorem dX4_refine_137 : decode cX4_refine 137 = .ok (.iload 4, 2) := by decide +kernel
theorem dX4_refine_139 : decode cX4_refine 139 = .ok (.istore_n 3, 1) := by decide +kernel
theorem dX4_refine_140 : decode cX4_refine 140 = .ok (.goto 6, 3) := by decide +kernel
theorem dX4_refine_143 : decode cX4_refine 143 = .ok (.iload 4, 2) := by decide +kernel
theorem dX4_refine_145 : decode cX4_refine 145 = .ok (.istore_n 2, 1) := by decide +kernel
theorem dX4_refine_146 : decode cX4_refine 146 = .ok (.goto (-113), 3) := by decide +kernel
theorem dX4_refine_149 : decode cX4_refine 149 = .ok (.return_, 1) := by decide +kernel
theorem dX4_isInCell_0 : decode cX4_isInCell 0 = .ok (.aload_n 0, 1) := by decide +kernel
theorem dX4_isInCell_1 : decode cX4_isInCell 1 = .ok (.getfield 42, 3) := by decide +kernel
theorem dX4_isInCell_4 : decode cX4_isInCell 4 = .ok (.aload_n 0, 1) := by decide +kernel
theorem dX4_isInCell_5 : decode cX4_isInCell 5 = .ok (.getfield 38, 3) := by decide +kernel
theorem dX4_isInCell_8 : decode cX4_isInCell 8 = .ok (.invokevirtual 198, 3) := by decide +kernel
theorem dX4_isInCell_11 : decode cX4_isInCell 11 = .ok (.aload_n 0, 1) := by decide +kernel
theorem dX4_isInCell_12 : decode cX4_isInCell 12 = .ok (.getfield 42, 3) := by decide +kernel
theorem dX4_isInCell_15 : decode cX4_isInCell 15 = .ok (.aload_n 0, 1) := by decide +kernel
theorem dX4_isInCell_16 : decode cX4_isInCell 16 = .ok (.getfield 45, 3) := by decide +kernel
theorem dX4_isInCell_19 : decode cX4_isInCell 19 = .ok (.ldc2_w 202, 3) := by decide +kernel
theorem dX4_isInCell_22 : decode cX4_isInCell 22 = .ok (.iconst 0, 1) := by decide +kernel
theorem dX4_isInCell_23 : decode cX4_isInCell 23 = .ok (.invokevirtual 194, 3) := by decide +kernel
theorem dX4_isInCell_26 : decode cX4_isInCell 26 = .ok (.aload_n 0, 1) := by decide +kernel
theorem dX4_isInCell_27 : decode cX4_isInCell 27 = .ok (.getfield 56, 3) := by decide +kernel
theorem dX4_isInCell_30 : decode cX4_isInCell 30 = .ok (.aload_n 0, 1) := by decide +kernel
theorem dX4_isInCell_31 : decode cX4_isInCell 31 = .ok (.getfield 42, 3) := by decide +kernel
theorem dX4_isInCell_34 : decode cX4_isInCell 34 = .ok (.aload_n 0, 1) := by decide +kernel
theorem dX4_isInCell_35 : decode cX4_isInCell 35 = .ok (.getfield 191, 3) := by decide +kernel
theorem dX4_isInCell_38 : decode cX4_isInCell 38 = .ok (.invokevirtual 204, 3) := by decide +kernel
theorem dX4_isInCell_41 : decode cX4_isInCell 41 = .ok (.aload_n 0, 1) := by decide +kernel
theorem dX4_isInCell_42 : decode cX4_isInCell 42 = .ok (.getfield 56, 3) := by decide +kernel
theorem dX4_isInCell_45 : decode cX4_isInCell 45 = .ok (.aload_n 1, 1) := by decide +kernel
theorem dX4_isInCell_46 : decode cX4_isInCell 46 = .ok (.invokevirtual 208, 3) := by decide +kernel
theorem dX4_isInCell_49 : decode cX4_isInCell 49 = .ok (.istore_n 2, 1) := by decide +kernel
theorem dX4_isInCell_50 : decode cX4_isInCell 50 = .ok (.iload_n 2, 1) := by decide +kernel
theorem dX4_isInCell_51 : decode cX4_isInCell 51 = .ok (.ifCond .ne 23, 3) := by decide +kernel
theorem dX4_isInCell_54 : decode cX4_isInCell 54 = .ok (.aload_n 0, 1) := by decide +kernel
theorem dX4_isInCell_55 : decode cX4_isInCell 55 = .ok (.getfield 16, 3) := by decide +kernel
theorem dX4_isInCell_58 : decode cX4_isInCell 58 = .ok (.aload_n 1, 1) := by decide +kernel
theorem dX4_isInCell_59 : decode cX4_isInCell 59 = .ok (.invokestatic 149, 3) := by decide +kernel
theorem dX4_isInCell_62 : decode cX4_isInCell 62 = .ok (.aload_n 0, 1) := by decide +kernel
theorem dX4_isInCell_63 : decode cX4_isInCell 63 = .ok (.getfield 56, 3) := by decide +kernel
theorem dX4_isInCell_66 : decode cX4_isInCell 66 = .ok (.aload_n 0, 1) := by decide +kernel
theorem dX4_isInCell_67 : decode cX4_isInCell 67 = .ok (.getfield 16, 3) := by decide +kernel
theorem dX4_isInCell_70 : decode cX4_isInCell 70 = .ok (.invokevirtual 208, 3) := by decide +kernel
theorem dX4_isInCell_73 : decode cX4_isInCell 73 = .ok (.istore_n 2, 1) := by decide +kernel
theorem dX4_isInCell_74 : decode cX4_isInCell 74 = .ok (.aload_n 0, 1) := by decide +kernel
theorem dX4_isInCell_75 : decode cX4_isInCell 75 = .ok (.getfield 56, 3) := by decide +kernel
theorem dX4_isInCell_78 : decode cX4_isInCell 78 = .ok (.aload_n 0, 1) := by decide +kernel
theorem dX4_isInCell_79 : decode cX4_isInCell 79 = .ok (.getfield 38, 3) := by decide +kernel
theorem dX4_isInCell_82 : decode cX4_isInCell 82 = .ok (.aload_n 0, 1) := by decide +kernel
theorem dX4_isInCell_83 : decode cX4_isInCell 83 = .ok (.getfield 191, 3) := by decide +kernel
theorem dX4_isInCell_86 : decode cX4_isInCell 86 = .ok (.invokevirtual 204, 3) := by decide +kernel
theorem dX4_isInCell_89 : decode cX4_isInCell 89 = .ok (.aload_n 0, 1) := by decide +kernel
theorem dX4_isInCell_90 : decode cX4_isInCell 90 = .ok (.getfield 56, 3) := by decide +kernel
theorem dX4_isInCell_93 : decode cX4_isInCell 93 = .ok (.aload_n 1, 1) := by decide +kernel
theorem dX4_isInCell_94 : decode cX4_isInCell 94 = .ok (.invokevirtual 208, 3) := by decide +kernel
theorem dX4_isInCell_97 : decode cX4_isInCell 97 = .ok (.iload_n 2, 1) := by decide +kernel
theorem dX4_isInCell_98 : decode cX4_isInCell 98 = .ok (.if_icmp .eq 7, 3) := by decide +kernel
theorem dX4_isInCell_101 : decode cX4_isInCell 101 = .ok (.iconst 1, 1) := by decide +kernel
theorem dX4_isInCell_102 : decode cX4_isInCell 102 = .ok (.goto 4, 3) := by decide +kernel
theorem dX4_isInCell_105 : decode cX4_isInCell 105 = .ok (.iconst 0, 1) := by decide +kernel
theorem dX4_isInCell_106 : decode cX4_isInCell 106 = .ok (.ireturn, 1) := by decide +kernel
theorem dX5_init_0 : decode cX5_init 0 = .ok (.aload_n 0, 1) := by decide +kernel
theorem dX5_init_1 : decode cX5_init 1 = .ok (.invokespecial 3, 3) := by decide +kernel
theorem dX5_init_4 : decode cX5_init 4 = .ok (.aload_n 0, 1) := by decide +kernel
theorem dX5_init_5 : decode cX5_init 5 = .ok (.new 9, 3) := by decide +kernel
theorem dX5_init_8 : decode cX5_init 8 = .ok (.dup, 1) := by decide +kernel
theorem dX5_init_9 : decode cX5_init 9 = .ok (.bipush 20, 2) := by decide +kernel
theorem dX5_init_11 : decode cX5_init 11 = .ok (.invokespecial 13, 3) := by decide +kernel
theorem dX5_init_14 : decode cX5_init 14 = .ok (.putfield 16, 3) := by decide +kernel
theorem dX5_init_17 : decode cX5_init 17 = .ok (.aload_n 0, 1) := by decide +kernel
theorem dX5_init_18 : decode cX5_init 18 = .ok (.bipush 9, 2) := by decide +kernel
theorem dX5_init_20 : decode cX5_init 20 = .ok (.anewarray 9, 3) := by decide +kernel
theorem dX5_init_23 : decode cX5_init 23 = .ok (.putfield 20, 3) := by decide +kernel
theorem dX5_init_26 : decode cX5_init 26 = .ok (.aload_n 0, 1) := by decide +kernel
theorem dX5_init_27 : decode cX5_init 27 = .ok (.new 9, 3) := by decide +kernel
theorem dX5_init_30 : decode cX5_init 30 = .ok (.dup, 1) := by decide +kernel
theorem dX5_init_31 : decode cX5_init 31 = .ok (.bipush 96, 2) := by decide +kernel
theorem dX5_init_33 : decode cX5_init 33 = .ok (.invokespecial 13, 3) := by decide +kernel
theorem dX5_init_36 : decode cX5_init 36 = .ok (.putfield 24, 3) := by decide +kernel
theorem dX5_init_39 : decode cX5_init 39 = .ok (.aload_n 0, 1) := by decide +kernel
theorem dX5_init_40 : decode cX5_init 40 = .ok (.new 9, 3) := by decide +kernel
theorem dX5_init_43 : decode cX5_init 43 = .ok (.dup, 1) := by decide +kernel
theorem dX5_init_44 : decode cX5_init 44 = .ok (.bipush 96, 2) := by decide +kernel
theorem dX5_init_46 : decode cX5_init 46 = .ok (.invokespecial 13, 3) := by decide +kernel
theorem dX5_init_49 : decode cX5_init 49 = .ok (.putfield 27, 3) := by decide +kernel
theorem dX5_init_52 : decode cX5_init 52 = .ok (.iconst 0, 1) := by decide +kernel
theorem dX5_init_53 : decode cX5_init 53 = .ok (.istore_n 1, 1) := by decide +kernel
theorem dX5_init_54 : decode cX5_init 54 = .ok (.iload_n 1, 1) := by decide +kernel
theorem dX5_init_55 : decode cX5_init 55 = .ok (.bipush 9, 2) := by decide +kernel
theorem dX5_init_57 : decode cX5_init 57 = .ok (.if_icmp .ge 23, 3) := by decide +kernel
theorem dX5_init_60 : decode cX5_init 60 = .ok (.aload_n 0, 1) := by decide +kernel
theorem dX5_init_61 : decode cX5_init 61 = .ok (.getfield 20, 3) := by decide +kernel
theorem dX5_init_64 : decode cX5_init 64 = .ok (.iload_n 1, 1) := by decide +kernel
theorem dX5_init_65 : decode cX5_init 65 = .ok (.new 9, 3) := by decide +kernel
theorem dX5_init_68 : decode cX5_init 68 = .ok (.dup, 1) := by decide +kernel
theorem dX5_init_69 : decode cX5_init 69 = .ok (.iconst 4, 1) := by decide +kernel
theorem dX5_init_70 : decode cX5_init 70 = .ok (.invokespecial 13, 3) := by decide +kernel
theorem dX5_init_73 : decode cX5_init 73 = .ok (.aastore, 1) := by decide +kernel
theorem dX5_init_74 : decode cX5_init 74 = .ok (.iinc 1 1, 3) := by decide +kernel
theorem dX5_init_77 : decode cX5_init 77 = .ok (.goto (-23), 3) := by decide +kernel
theorem dX5_init_80 : decode cX5_init 80 = .ok (.return_, 1) := by decide +kernel
theorem dX5_move_0 : decode cX5_move 0 = .ok (.aload_n 0, 1) := by decide +kernel
theorem dX5_move_1 : decode cX5_move 1 = .ok (.getfield 16, 3) := by decide +kernel
theorem dX5_move_4 : decode cX5_move 4 = .ok (.lload_n 1, 1) := by decide +kernel
theorem dX5_move_5 : decode cX5_move 5 = .ok (.invokevirtual 30, 3) := by decide +kernel
theorem dX5_move_8 : decode cX5_move 8 = .ok (.aload_n 0, 1) := by decide +kernel
theorem dX5_move_9 : decode cX5_move 9 = .ok (.iload_n 3, 1) := by decide +kernel
theorem dX5_move_10 : decode cX5_move 10 = .ok (.invokevirtual 34, 3) := by decide +kernel
theorem dX5_move_13 : decode cX5_move 13 = .ok (.return_, 1) := by decide +kernel
theorem dX5_moveTo_0 : decode cX5_moveTo 0 = .ok (.aload_n 0, 1) := by decide +kernel
theorem dX5_moveTo_1 : decode cX5_moveTo 1 = .ok (.getfield 16, 3) := by decide +kernel
theorem dX5_moveTo_4 : decode cX5_moveTo 4 = .ok (.aload_n 1, 1) := by decide +kernel
theorem dX5_moveTo_5 : decode cX5_moveTo 5 = .ok (.invokevirtual 37, 3) := by decide +kernel
theorem dX5_moveTo_8 : decode cX5_moveTo 8 = .ok (.aload_n 0, 1) := by decide +kernel
theorem dX5_moveTo_9 : decode cX5_moveTo 9 = .ok (.iload_n 2, 1) := by decide +kernel
theorem dX5_moveTo_10 : decode cX5_moveTo 10 = .ok (.invokevirtual 34, 3) := by decide +kernel
theorem dX5_moveTo_13 : decode cX5_moveTo 13 = .ok (.return_, 1) := by decide +kernel
theorem dX5_shorten_0 : decode cX5_shorten 0 = .ok (.aload_n 0, 1) := by decide +kernel
theorem dX5_shorten_1 : decode cX5_shorten 1 = .ok (.getfield 16, 3) := by decide +kernel
theorem dX5_shorten_4 : decode cX5_shorten 4 = .ok (.invokevirtual 41, 3) := by decide +kernel
theorem dX5_shorten_7 : decode cX5_shorten 7 = .ok (.ifCond .ne 7, 3) := by decide +kernel
theorem dX5_shorten_10 : decode cX5_shorten 10 = .ok (.iload_n 1, 1) := by decide +kernel
theorem dX5_shorten_11 : decode cX5_shorten 11 = .ok (.goto 14, 3) := by decide +kernel
theorem dX5_shorten_14 : decode cX5_shorten 14 = .ok (.aload_n 0, 1) := by decide +kernel
theorem dX5_shorten_15 : decode cX5_shorten 15 = .ok (.getfield 16, 3) := by decide +kernel
theorem dX5_shorten_18 : decode cX5_shorten 18 = .ok (.invokevirtual 45, 3) := by decide +kernel
theorem dX5_shorten_21 : decode cX5_shorten 21 = .ok (.iload_n 1, 1) := by decide +kernel
theorem dX5_shorten_22 : decode cX5_shorten 22 = .ok (.invokestatic 48, 3) := by decide +kernel
theorem dX5_shorten_25 : decode cX5_shorten 25 = .ok (.istore_n 2, 1) := by decide +kernel
theorem dX5_shorten_26 : decode cX5_shorten 26 = .ok (.aload_n 0, 1) := by decide +kernel
theorem dX5_shorten_27 : decode cX5_shorten 27 = .ok (.getfield 16, 3) := by decide +kernel
theorem dX5_shorten_30 : decode cX5_shorten 30 = .ok (.iload_n 2, 1) := by decide +kernel
theorem dX5_shorten_31 : decode cX5_shorten 31 = .ok (.invokevirtual 54, 3) := by decide +kernel
theorem dX5_shorten_34 : decode cX5_shorten 34 = .ok (.aload_n 0, 1) := by decide +kernel
theorem dX5_shorten_35 : decode cX5_shorten 35 = .ok (.iload_n 1, 1) := by decide +kernel
theorem dX5_shorten_36 : decode cX5_shorten 36 = .ok (.iload_n 2, 1) := by decide +kernel
theorem dX5_shorten_37 : decode cX5_shorten 37 = .ok (.isub, 1) := by decide +kernel
theorem dX5_shorten_38 : decode cX5_shorten 38 = .ok (.putfield 57, 3) := by decide +kernel
theorem dX5_shorten_41 : decode cX5_shorten 41 = .ok (.return_, 1) := by decide +kernel
theorem dX5_signOf_0 : decode cX5_signOf 0 = .ok (.aload_n 1, 1) := by decide +kernel
theorem dX5_signOf_1 : decode cX5_signOf 1 = .ok (.invokestatic 61, 3) := by decide +kernel
theorem dX5_signOf_4 : decode cX5_signOf 4 = .ok (.bipush 8, 2) := by decide +kernel
theorem dX5_signOf_6 : decode cX5_signOf 6 = .ok (.invokestatic 48, 3) := by decide +kernel
theorem dX5_signOf_9 : decode cX5_signOf 9 = .ok (.istore_n 2, 1) := by decide +kernel
theorem dX5_signOf_10 : decode cX5_signOf 10 = .ok (.iconst 0, 1) := by decide +kernel
theorem dX5_signOf_11 : decode cX5_signOf 11 = .ok (.istore_n 3, 1) := by decide +kernel
theorem dX5_signOf_12 : decode cX5_signOf 12 = .ok (.iload_n 3, 1) := by decide +kernel
theorem dX5_signOf_13 : decode cX5_signOf 13 = .ok (.iload_n 2, 1) := by decide +kernel
theorem dX5_signOf_14 : decode cX5_signOf 14 = .ok (.if_icmp .gt 21, 3) := by decide +kernel
theorem dX5_signOf_17 : decode cX5_signOf 17 = .ok (.aload_n 0, 1) := by decide +kernel
theorem dX5_signOf_18 : decode cX5_signOf 18 = .ok (.getfield 20, 3) := by decide +kernel
theorem dX5_signOf_21 : decode cX5_signOf 21 = .ok (.iload_n 3, 1) := by decide +kernel
theorem dX5_signOf_22 : decode cX5_signOf 22 = .ok (.aaload, 1) := by decide +kernel
theorem dX5_signOf_23 : decode cX5_signOf 23 = .ok (.aload_n 1, 1) := by decide +kernel
theorem dX5_signOf_24 : decode cX5_signOf 24 = .ok (.iload_n 3, 1) := by decide +kernel
theorem dX5_signOf_25 : decode cX5_signOf 25 = .ok (.laload, 1) := by decide +kernel
theorem dX5_signOf_26 : decode cX5_signOf 26 = .ok (.invokevirtual 30, 3) := by decide +kernel
theorem dX5_signOf_29 : decode cX5_signOf 29 = .ok (.iinc 3 1, 3) := by decide +kernel
theorem dX5_signOf_32 : decode cX5_signOf 32 = .ok (.goto (-20), 3) := by decide +kernel
theorem dX5_signOf_35 : decode cX5_signOf 35 = .ok (.aload_n 0, 1) := by decide +kernel
theorem dX5_signOf_36 : decode cX5_signOf 36 = .ok (.aload_n 0, 1) := by decide +kernel
theorem dX5_signOf_37 : decode cX5_signOf 37 = .ok (.getfield 20, 3) := by decide +kernel
theorem dX5_signOf_40 : decode cX5_signOf 40 = .ok (.iconst 0, 1) := by decide +kernel
theorem dX5_signOf_41 : decode cX5_signOf 41 = .ok (.iload_n 2, 1) := by decide +kernel
theorem dX5_signOf_42 : decode cX5_signOf 42 = .ok (.invokevirtual 67, 3) := by decide +kernel
theorem dX5_signOf_45 : decode cX5_signOf 45 = .ok (.ireturn, 1) := by decide +kernel
theorem dX5_signAmong_0 : decode cX5_signAmong 0 = .ok (.iload_n 3, 1) := by decide +kernel
theorem dX5_signAmong_1 : decode cX5_signAmong 1 = .ok (.ifCond .lt 15, 3) := by decide +kernel
theorem dX5_signAmong_4 : decode cX5_signAmong 4 = .ok (.iload_n 2, 1) := by decide +kernel
theorem dX5_signAmong_5 : decode cX5_signAmong 5 = .ok (.ifCond .lt 11, 3) := by decide +kernel
theorem dX5_signAmong_8 : decode cX5_signAmong 8 = .ok (.iload_n 2, 1) := by decide +kernel
theorem dX5_signAmong_9 : decode cX5_signAmong 9 = .ok (.iload_n 3, 1) := by decide +kernel
theorem dX5_signAmong_10 : decode cX5_signAmong 10 = .ok (.iadd, 1) := by decide +kernel
theorem dX5_signAmong_11 : decode cX5_signAmong 11 = .ok (.aload_n 1, 1) := by decide +kernel
theorem dX5_signAmong_12 : decode cX5_signAmong 12 = .ok (.arraylength, 1) := by decide +kernel
theorem dX5_signAmong_13 : decode cX5_signAmong 13 = .ok (.if_icmp .lt 5, 3) := by decide +kernel
theorem dX5_signAmong_16 : decode cX5_signAmong 16 = .ok (.iconst 0, 1) := by decide +kernel
theorem dX5_signAmong_17 : decode cX5_signAmong 17 = .ok (.ireturn, 1) := by decide +kernel
theorem dX5_signAmong_18 : decode cX5_signAmong 18 = .ok (.aload_n 0, 1) := by decide +kernel
theorem dX5_signAmong_19 : decode cX5_signAmong 19 = .ok (.getfield 24, 3) := by decide +kernel
theorem dX5_signAmong_22 : decode cX5_signAmong 22 = .ok (.aload_n 1, 1) := by decide +kernel
theorem dX5_signAmong_23 : decode cX5_signAmong 23 = .ok (.iload_n 2, 1) := by decide +kernel
theorem dX5_signAmong_24 : decode cX5_signAmong 24 = .ok (.iload_n 3, 1) := by decide +kernel
theorem dX5_signAmong_25 : decode cX5_signAmong 25 = .ok (.iadd, 1) := by decide +kernel
theorem dX5_signAmong_26 : decode cX5_signAmong 26 = .ok (.aaload, 1) := by decide +kernel
theorem dX5_signAmong_27 : decode cX5_signAmong 27 = .ok (.invokevirtual 37, 3) := by decide +kernel
theorem dX5_signAmong_30 : decode cX5_signAmong 30 = .ok (.iconst 0, 1) := by decide +kernel
theorem dX5_signAmong_31 : decode cX5_signAmong 31 = .ok (.istore 4, 2) := by decide +kernel
theorem dX5_signAmong_33 : decode cX5_signAmong 33 = .ok (.iload_n 3, 1) := by decide +kernel
theorem dX5_signAmong_34 : decode cX5_signAmong 34 = .ok (.iconst 1, 1) := by decide +kernel
theorem dX5_signAmong_35 : decode cX5_signAmong 35 = .ok (.isub, 1) := by decide +kernel
theorem dX5_signAmong_36 : decode cX5_signAmong 36 = .ok (.istore 5, 2) := by decide +kernel
theorem dX5_signAmong_38 : decode cX5_signAmong 38 = .ok (.iload 5, 2) := by decide +kernel
theorem dX5_signAmong_40 : decode cX5_signAmong 40 = .ok (.ifCond .lt 78, 3) := by decide +kernel
theorem dX5_signAmong_43 : decode cX5_signAmong 43 = .ok (.iload 4, 2) := by decide +kernel
theorem dX5_signAmong_45 : decode cX5_signAmong 45 = .ok (.aload_n 0, 1) := by decide +kernel
theorem dX5_signAmong_46 : decode cX5_signAmong 46 = .ok (.getfield 57, 3) := by decide +kernel
theorem dX5_signAmong_49 : decode cX5_signAmong 49 = .ok (.iadd, 1) := by decide +kernel
theorem dX5_signAmong_50 : decode cX5_signAmong 50 = .ok (.istore 4, 2) := by decide +kernel
theorem dX5_signAmong_52 : decode cX5_signAmong 52 = .ok (.aload_n 0, 1) := by decide +kernel
theorem dX5_signAmong_53 : decode cX5_signAmong 53 = .ok (.getfield 27, 3) := by decide +kernel
theorem dX5_signAmong_56 : decode cX5_signAmong 56 = .ok (.aload_n 0, 1) := by decide +kernel
theorem dX5_signAmong_57 : decode cX5_signAmong 57 = .ok (.getfield 24, 3) := by decide +kernel
theorem dX5_signAmong_60 : decode cX5_signAmong 60 = .ok (.aload_n 0, 1) := by decide +kernel
theorem dX5_signAmong_61 : decode cX5_signAmong 61 = .ok (.getfield 16, 3) := by decide +kernel
theorem dX5_signAmong_64 : decode cX5_signAmong 64 = .ok (.invokevirtual 71, 3) := by decide +kernel
theorem dX5_signAmong_67 : decode cX5_signAmong 67 = .ok (.aload_n 0, 1) := by decide +kernel
theorem dX5_signAmong_68 : decode cX5_signAmong 68 = .ok (.getfield 27, 3) := by decide +kernel
theorem dX5_signAmong_71 : decode cX5_signAmong 71 = .ok (.aload_n 1, 1) := by decide +kernel
theorem dX5_signAmong_72 : decode cX5_signAmong 72 = .ok (.iload_n 2, 1) := by decide +kernel
theorem dX5_signAmong_73 : decode cX5_signAmong 73 = .ok (.iload 5, 2) := by decide +kernel
theorem dX5_signAmong_75 : decode cX5_signAmong 75 = .ok (.iadd, 1) := by decide +kernel
theorem dX5_signAmong_76 : decode cX5_signAmong 76 = .ok (.aaload, 1) := by decide +kernel
theorem dX5_signAmong_77 : decode cX5_signAmong 77 = .ok (.lconst 1, 1) := by decide +kernel
theorem dX5_signAmong_78 : decode cX5_signAmong 78 = .ok (.iload 4, 2) := by decide +kernel
theorem dX5_signAmong_80 : decode cX5_signAmong 80 = .ok (.bipush 30, 2) := by decide +kernel
theorem dX5_signAmong_82 : decode cX5_signAmong 82 = .ok (.irem, 1) := by decide +kernel
theorem dX5_signAmong_83 : decode cX5_signAmong 83 = .ok (.lshl, 1) := by decide +kernel
theorem dX5_signAmong_84 : decode cX5_signAmong 84 = .ok (.iload 4, 2) := by decide +kernel
theorem dX5_signAmong_86 : decode cX5_signAmong 86 = .ok (.bipush 30, 2) := by decide +kernel
theorem dX5_signAmong_88 : decode cX5_signAmong 88 = .ok (.idiv, 1) := by decide +kernel
theorem dX5_signAmong_89 : decode cX5_signAmong 89 = .ok (.invokevirtual 75, 3) := by decide +kernel
theorem dX5_signAmong_92 : decode cX5_signAmong 92 = .ok (.aload_n 0, 1) := by decide +kernel
theorem dX5_signAmong_93 : decode cX5_signAmong 93 = .ok (.getfield 24, 3) := by decide +kernel
theorem dX5_signAmong_96 : decode cX5_signAmong 96 = .ok (.astore 6, 2) := by decide +kernel
theorem dX5_signAmong_98 : decode cX5_signAmong 98 = .ok (.aload_n 0, 1) := by decide +kernel
theorem dX5_signAmong_99 : decode cX5_signAmong 99 = .ok (.aload_n 0, 1) := by decide +kernel
theorem dX5_signAmong_100 : decode cX5_signAmong 100 = .ok (.getfield 27, 3) := by decide +kernel
theorem dX5_signAmong_103 : decode cX5_signAmong 103 = .ok (.putfield 24, 3) := by decide +kernel
theorem dX5_signAmong_106 : decode cX5_signAmong 106 = .ok (.aload_n 0, 1) := by decide +kernel
theorem dX5_signAmong_107 : decode cX5_signAmong 107 = .ok (.aload 6, 2) := by decide +kernel
theorem dX5_signAmong_109 : decode cX5_signAmong 109 = .ok (.putfield 27, 3) := by decide +kernel
theorem dX5_signAmong_112 : decode cX5_signAmong 112 = .ok (.iinc 5 (-1), 3) := by decide +kernel
theorem dX5_signAmong_115 : decode cX5_signAmong 115 = .ok (.goto (-77), 3) := by decide +kernel
theorem dX5_signAmong_118 : decode cX5_signAmong 118 = .ok (.aload_n 0, 1) := by decide +kernel
theorem dX5_signAmong_119 : decode cX5_signAmong 119 = .ok (.getfield 24, 3) := by decide +kernel
theorem dX5_signAmong_122 : decode cX5_signAmong 122 = .ok (.invokevirtual 41, 3) := by decide +kernel
theorem dX5_signAmong_125 : decode cX5_signAmong 125 = .ok (.ireturn, 1) := by decide +kernel
theorem dX6_isCounts_0 : decode cX6_isCounts 0 = .ok (.iconst 0, 1) := by decide +kernel
theorem dX6_isCounts_1 : decode cX6_isCounts 1 = .ok (.istore_n 1, 1) := by decide +kernel
theorem dX6_isCounts_2 : decode cX6_isCounts 2 = .ok (.iload_n 1, 1) := by decide +kernel
theorem dX6_isCounts_3 : decode cX6_isCounts 3 = .ok (.aload_n 0, 1) := by decide +kernel
theorem dX6_isCounts_4 : decode cX6_isCounts 4 = .ok (.arraylength, 1) := by decide +kernel
theorem dX6_isCounts_5 : decode cX6_isCounts 5 = .ok (.if_icmp .ge 19, 3) := by decide +kernel
theorem dX6_isCounts_8 : decode cX6_isCounts 8 = .ok (.aload_n 0, 1) := by decide +kernel
theorem dX6_isCounts_9 : decode cX6_isCounts 9 = .ok (.iload_n 1, 1) := by decide +kernel
theorem dX6_isCounts_10 : decode cX6_isCounts 10 = .ok (.laload, 1) := by decide +kernel
theorem dX6_isCounts_11 : decode cX6_isCounts 11 = .ok (.lconst 0, 1) := by decide +kernel
theorem dX6_isCounts_12 : decode cX6_isCounts 12 = .ok (.lcmp, 1) := by decide +kernel
theorem dX6_isCounts_13 : decode cX6_isCounts 13 = .ok (.ifCond .ge 5, 3) := by decide +kernel
theorem dX6_isCounts_16 : decode cX6_isCounts 16 = .ok (.iconst 0, 1) := by decide +kernel
theorem dX6_isCounts_17 : decode cX6_isCounts 17 = .ok (.ireturn, 1) := by decide +kernel
theorem dX6_isCounts_18 : decode cX6_isCounts 18 = .ok (.iinc 1 1, 3) := by decide +kernel
theorem dX6_isCounts_21 : decode cX6_isCounts 21 = .ok (.goto (-19), 3) := by decide +kernel
theorem dX6_isCounts_24 : decode cX6_isCounts 24 = .ok (.iconst 1, 1) := by decide +kernel
theorem dX6_isCounts_25 : decode cX6_isCounts 25 = .ok (.ireturn, 1) := by decide +kernel
theorem dX6_firstAgainstNewton_0 : decode cX6_firstAgainstNewton 0 = .ok (.iconst 1, 1) := by decide +kernel
theorem dX6_firstAgainstNewton_1 : decode cX6_firstAgainstNewton 1 = .ok (.istore_n 2, 1) := by decide +kernel
theorem dX6_firstAgainstNewton_2 : decode cX6_firstAgainstNewton 2 = .ok (.iload_n 2, 1) := by decide +kernel
theorem dX6_firstAgainstNewton_3 : decode cX6_firstAgainstNewton 3 = .ok (.iload_n 1, 1) := by decide +kernel
theorem dX6_firstAgainstNewton_4 : decode cX6_firstAgainstNewton 4 = .ok (.if_icmp .ge 63, 3) := by decide +kernel
theorem dX6_firstAgainstNewton_7 : decode cX6_firstAgainstNewton 7 = .ok (.iload_n 2, 1) := by decide +kernel
theorem dX6_firstAgainstNewton_8 : decode cX6_firstAgainstNewton 8 = .ok (.iconst 1, 1) := by decide +kernel
theorem dX6_firstAgainstNewton_9 : decode cX6_firstAgainstNewton 9 = .ok (.iadd, 1) := by decide +kernel
theorem dX6_firstAgainstNewton_10 : decode cX6_firstAgainstNewton 10 = .ok (.aload_n 0, 1) := by decide +kernel
theorem dX6_firstAgainstNewton_11 : decode cX6_firstAgainstNewton 11 = .ok (.arraylength, 1) := by decide +kernel
theorem dX6_firstAgainstNewton_12 : decode cX6_firstAgainstNewton 12 = .ok (.if_icmp .ge 55, 3) := by decide +kernel
theorem dX6_firstAgainstNewton_15 : decode cX6_firstAgainstNewton 15 = .ok (.aload_n 0, 1) := by decide +kernel
theorem dX6_firstAgainstNewton_16 : decode cX6_firstAgainstNewton 16 = .ok (.iload_n 2, 1) := by decide +kernel
theorem dX6_firstAgainstNewton_17 : decode cX6_firstAgainstNewton 17 = .ok (.laload, 1) := by decide +kernel
theorem dX6_firstAgainstNewton_18 : decode cX6_firstAgainstNewton 18 = .ok (.aload_n 0, 1) := by decide +kernel
theorem dX6_firstAgainstNewton_19 : decode cX6_firstAgainstNewton 19 = .ok (.iload_n 2, 1) := by decide +kernel
theorem dX6_firstAgainstNewton_20 : decode cX6_firstAgainstNewton 20 = .ok (.laload, 1) := by decide +kernel
theorem dX6_firstAgainstNewton_21 : decode cX6_firstAgainstNewton 21 = .ok (.lmul, 1) := by decide +kernel
theorem dX6_firstAgainstNewton_22 : decode cX6_firstAgainstNewton 22 = .ok (.iload_n 2, 1) := by decide +kernel
theorem dX6_firstAgainstNewton_23 : decode cX6_firstAgainstNewton 23 = .ok (.i2l, 1) := by decide +kernel
theorem dX6_firstAgainstNewton_24 : decode cX6_firstAgainstNewton 24 = .ok (.lmul, 1) := by decide +kernel
theorem dX6_firstAgainstNewton_25 : decode cX6_firstAgainstNewton 25 = .ok (.iload_n 1, 1) := by decide +kernel
theorem dX6_firstAgainstNewton_26 : decode cX6_firstAgainstNewton 26 = .ok (.iload_n 2, 1) := by decide +kernel
theorem dX6_firstAgainstNewton_27 : decode cX6_firstAgainstNewton 27 = .ok (.isub, 1) := by decide +kernel
theorem dX6_firstAgainstNewton_28 : decode cX6_firstAgainstNewton 28 = .ok (.i2l, 1) := by decide +kernel
theorem dX6_firstAgainstNewton_29 : decode cX6_firstAgainstNewton 29 = .ok (.lmul, 1) := by decide +kernel
theorem dX6_firstAgainstNewton_30 : decode cX6_firstAgainstNewton 30 = .ok (.lstore_n 3, 1) := by decide +kernel
theorem dX6_firstAgainstNewton_31 : decode cX6_firstAgainstNewton 31 = .ok (.lload_n 3, 1) := by decide +kernel
theorem dX6_firstAgainstNewton_32 : decode cX6_firstAgainstNewton 32 = .ok (.aload_n 0, 1) := by decide +kernel
theorem dX6_firstAgainstNewton_33 : decode cX6_firstAgainstNewton 33 = .ok (.iload_n 2, 1) := by decide +kernel
theorem dX6_firstAgainstNewton_34 : decode cX6_firstAgainstNewton 34 = .ok (.iconst 1, 1) := by decide +kernel
theorem dX6_firstAgainstNewton_35 : decode cX6_firstAgainstNewton 35 = .ok (.isub, 1) := by decide +kernel
theorem dX6_firstAgainstNewton_36 : decode cX6_firstAgainstNewton 36 = .ok (.laload, 1) := by decide +kernel
theorem dX6_firstAgainstNewton_37 : decode cX6_firstAgainstNewton 37 = .ok (.aload_n 0, 1) := by decide +kernel
theorem dX6_firstAgainstNewton_38 : decode cX6_firstAgainstNewton 38 = .ok (.iload_n 2, 1) := by decide +kernel
theorem dX6_firstAgainstNewton_39 : decode cX6_firstAgainstNewton 39 = .ok (.iconst 1, 1) := by decide +kernel
theorem dX6_firstAgainstNewton_40 : decode cX6_firstAgainstNewton 40 = .ok (.iadd, 1) := by decide +kernel
theorem dX6_firstAgainstNewton_41 : decode cX6_firstAgainstNewton 41 = .ok (.laload, 1) := by decide +kernel
theorem dX6_firstAgainstNewton_42 : decode cX6_firstAgainstNewton 42 = .ok (.lmul, 1) := by decide +kernel
theorem dX6_firstAgainstNewton_43 : decode cX6_firstAgainstNewton 43 = .ok (.iload_n 2, 1) := by decide +kernel
theorem dX6_firstAgainstNewton_44 : decode cX6_firstAgainstNewton 44 = .ok (.iconst 1, 1) := by decide +kernel
theorem dX6_firstAgainstNewton_45 : decode cX6_firstAgainstNewton 45 = .ok (.iadd, 1) := by decide +kernel
theorem dX6_firstAgainstNewton_46 : decode cX6_firstAgainstNewton 46 = .ok (.i2l, 1) := by decide +kernel
theorem dX6_firstAgainstNewton_47 : decode cX6_firstAgainstNewton 47 = .ok (.lmul, 1) := by decide +kernel
theorem dX6_firstAgainstNewton_48 : decode cX6_firstAgainstNewton 48 = .ok (.iload_n 1, 1) := by decide +kernel
theorem dX6_firstAgainstNewton_49 : decode cX6_firstAgainstNewton 49 = .ok (.iload_n 2, 1) := by decide +kernel
theorem dX6_firstAgainstNewton_50 : decode cX6_firstAgainstNewton 50 = .ok (.isub, 1) := by decide +kernel
theorem dX6_firstAgainstNewton_51 : decode cX6_firstAgainstNewton 51 = .ok (.iconst 1, 1) := by decide +kernel
theorem dX6_firstAgainstNewton_52 : decode cX6_firstAgainstNewton 52 = .ok (.iadd, 1) := by decide +kernel
theorem dX6_firstAgainstNewton_53 : decode cX6_firstAgainstNewton 53 = .ok (.i2l, 1) := by decide +kernel
theorem dX6_firstAgainstNewton_54 : decode cX6_firstAgainstNewton 54 = .ok (.lmul, 1) := by decide +kernel
theorem dX6_firstAgainstNewton_55 : decode cX6_firstAgainstNewton 55 = .ok (.lcmp, 1) := by decide +kernel
theorem dX6_firstAgainstNewton_56 : decode cX6_firstAgainstNewton 56 = .ok (.ifCond .ge 5, 3) := by decide +kernel
theorem dX6_firstAgainstNewton_59 : decode cX6_firstAgainstNewton 59 = .ok (.iload_n 2, 1) := by decide +kernel
theorem dX6_firstAgainstNewton_60 : decode cX6_firstAgainstNewton 60 = .ok (.ireturn, 1) := by decide +kernel
theorem dX6_firstAgainstNewton_61 : decode cX6_firstAgainstNewton 61 = .ok (.iinc 2 1, 3) := by decide +kernel
theorem dX6_firstAgainstNewton_64 : decode cX6_firstAgainstNewton 64 = .ok (.goto (-62), 3) := by decide +kernel
theorem dX6_firstAgainstNewton_67 : decode cX6_firstAgainstNewton 67 = .ok (.iconst 0, 1) := by decide +kernel
theorem dX6_firstAgainstNewton_68 : decode cX6_firstAgainstNewton 68 = .ok (.ireturn, 1) := by decide +kernel
theorem dX6_firstNotConcave_0 : decode cX6_firstNotConcave 0 = .ok (.iconst 1, 1) := by decide +kernel
theorem dX6_firstNotConcave_1 : decode cX6_firstNotConcave 1 = .ok (.istore_n 2, 1) := by decide +kernel
theorem dX6_firstNotConcave_2 : decode cX6_firstNotConcave 2 = .ok (.iload_n 2, 1) := by decide +kernel
theorem dX6_firstNotConcave_3 : decode cX6_firstNotConcave 3 = .ok (.iload_n 1, 1) := by decide +kernel
theorem dX6_firstNotConcave_4 : decode cX6_firstNotConcave 4 = .ok (.if_icmp .ge 41, 3) := by decide +kernel
theorem dX6_firstNotConcave_7 : decode cX6_firstNotConcave 7 = .ok (.iload_n 2, 1) := by decide +kernel
theorem dX6_firstNotConcave_8 : decode cX6_firstNotConcave 8 = .ok (.iconst 1, 1) := by decide +kernel
theorem dX6_firstNotConcave_9 : decode cX6_firstNotConcave 9 = .ok (.iadd, 1) := by decide +kernel
theorem dX6_firstNotConcave_10 : decode cX6_firstNotConcave 10 = .ok (.aload_n 0, 1) := by decide +kernel
theorem dX6_firstNotConcave_11 : decode cX6_firstNotConcave 11 = .ok (.arraylength, 1) := by decide +kernel
theorem dX6_firstNotConcave_12 : decode cX6_firstNotConcave 12 = .ok (.if_icmp .ge 33, 3) := by decide +kernel
theorem dX6_firstNotConcave_15 : decode cX6_firstNotConcave 15 = .ok (.aload_n 0, 1) := by decide +kernel
theorem dX6_firstNotConcave_16 : decode cX6_firstNotConcave 16 = .ok (.iload_n 2, 1) := by decide +kernel
theorem dX6_firstNotConcave_17 : decode cX6_firstNotConcave 17 = .ok (.laload, 1) := by decide +kernel
theorem dX6_firstNotConcave_18 : decode cX6_firstNotConcave 18 = .ok (.aload_n 0, 1) := by decide +kernel
theorem dX6_firstNotConcave_19 : decode cX6_firstNotConcave 19 = .ok (.iload_n 2, 1) := by decide +kernel
theorem dX6_firstNotConcave_20 : decode cX6_firstNotConcave 20 = .ok (.laload, 1) := by decide +kernel
theorem dX6_firstNotConcave_21 : decode cX6_firstNotConcave 21 = .ok (.lmul, 1) := by decide +kernel
theorem dX6_firstNotConcave_22 : decode cX6_firstNotConcave 22 = .ok (.aload_n 0, 1) := by decide +kernel
theorem dX6_firstNotConcave_23 : decode cX6_firstNotConcave 23 = .ok (.iload_n 2, 1) := by decide +kernel
theorem dX6_firstNotConcave_24 : decode cX6_firstNotConcave 24 = .ok (.iconst 1, 1) := by decide +kernel
theorem dX6_firstNotConcave_25 : decode cX6_firstNotConcave 25 = .ok (.isub, 1) := by decide +kernel
theorem dX6_firstNotConcave_26 : decode cX6_firstNotConcave 26 = .ok (.laload, 1) := by decide +kernel
theorem dX6_firstNotConcave_27 : decode cX6_firstNotConcave 27 = .ok (.aload_n 0, 1) := by decide +kernel
theorem dX6_firstNotConcave_28 : decode cX6_firstNotConcave 28 = .ok (.iload_n 2, 1) := by decide +kernel
theorem dX6_firstNotConcave_29 : decode cX6_firstNotConcave 29 = .ok (.iconst 1, 1) := by decide +kernel
theorem dX6_firstNotConcave_30 : decode cX6_firstNotConcave 30 = .ok (.iadd, 1) := by decide +kernel
theorem dX6_firstNotConcave_31 : decode cX6_firstNotConcave 31 = .ok (.laload, 1) := by decide +kernel
theorem dX6_firstNotConcave_32 : decode cX6_firstNotConcave 32 = .ok (.lmul, 1) := by decide +kernel
theorem dX6_firstNotConcave_33 : decode cX6_firstNotConcave 33 = .ok (.lcmp, 1) := by decide +kernel
theorem dX6_firstNotConcave_34 : decode cX6_firstNotConcave 34 = .ok (.ifCond .ge 5, 3) := by decide +kernel
theorem dX6_firstNotConcave_37 : decode cX6_firstNotConcave 37 = .ok (.iload_n 2, 1) := by decide +kernel
theorem dX6_firstNotConcave_38 : decode cX6_firstNotConcave 38 = .ok (.ireturn, 1) := by decide +kernel
theorem dX6_firstNotConcave_39 : decode cX6_firstNotConcave 39 = .ok (.iinc 2 1, 3) := by decide +kernel
theorem dX6_firstNotConcave_42 : decode cX6_firstNotConcave 42 = .ok (.goto (-40), 3) := by decide +kernel
theorem dX6_firstNotConcave_45 : decode cX6_firstNotConcave 45 = .ok (.iconst 0, 1) := by decide +kernel
theorem dX6_firstNotConcave_46 : decode cX6_firstNotConcave 46 = .ok (.ireturn, 1) := by decide +kernel
theorem dX6_holes_0 : decode cX6_holes 0 = .ok (.iconst 0, 1) := by decide +kernel
theorem dX6_holes_1 : decode cX6_holes 1 = .ok (.istore_n 2, 1) := by decide +kernel
theorem dX6_holes_2 : decode cX6_holes 2 = .ok (.iconst 0, 1) := by decide +kernel
theorem dX6_holes_3 : decode cX6_holes 3 = .ok (.istore_n 3, 1) := by decide +kernel
theorem dX6_holes_4 : decode cX6_holes 4 = .ok (.iconst 0, 1) := by decide +kernel
theorem dX6_holes_5 : decode cX6_holes 5 = .ok (.istore 4, 2) := by decide +kernel
theorem dX6_holes_7 : decode cX6_holes 7 = .ok (.iload 4, 2) := by decide +kernel
theorem dX6_holes_9 : decode cX6_holes 9 = .ok (.iload_n 1, 1) := by decide +kernel
theorem dX6_holes_10 : decode cX6_holes 10 = .ok (.if_icmp .ge 41, 3) := by decide +kernel
theorem dX6_holes_13 : decode cX6_holes 13 = .ok (.iload 4, 2) := by decide +kernel
theorem dX6_holes_15 : decode cX6_holes 15 = .ok (.aload_n 0, 1) := by decide +kernel
theorem dX6_holes_16 : decode cX6_holes 16 = .ok (.arraylength, 1) := by decide +kernel
theorem dX6_holes_17 : decode cX6_holes 17 = .ok (.if_icmp .ge 34, 3) := by decide +kernel
theorem dX6_holes_20 : decode cX6_holes 20 = .ok (.aload_n 0, 1) := by decide +kernel
theorem dX6_holes_21 : decode cX6_holes 21 = .ok (.iload 4, 2) := by decide +kernel
theorem dX6_holes_23 : decode cX6_holes 23 = .ok (.laload, 1) := by decide +kernel
theorem dX6_holes_24 : decode cX6_holes 24 = .ok (.lconst 0, 1) := by decide +kernel
theorem dX6_holes_25 : decode cX6_holes 25 = .ok (.lcmp, 1) := by decide +kernel
theorem dX6_holes_26 : decode cX6_holes 26 = .ok (.ifCond .eq 8, 3) := by decide +kernel
theorem dX6_holes_29 : decode cX6_holes 29 = .ok (.iconst 1, 1) := by decide +kernel
theorem dX6_holes_30 : decode cX6_holes 30 = .ok (.istore_n 3, 1) := by decide +kernel
theorem dX6_holes_31 : decode cX6_holes 31 = .ok (.goto 14, 3) := by decide +kernel
theorem dX6_holes_34 : decode cX6_holes 34 = .ok (.iload_n 3, 1) := by decide +kernel
theorem dX6_holes_35 : decode cX6_holes 35 = .ok (.ifCond .eq 10, 3) := by decide +kernel
theorem dX6_holes_38 : decode cX6_holes 38 = .ok (.iload_n 2, 1) := by decide +kernel
theorem dX6_holes_39 : decode cX6_holes 39 = .ok (.iconst 1, 1) := by decide +kernel
theorem dX6_holes_40 : decode cX6_holes 40 = .ok (.iload 4, 2) := by decide +kernel
theorem dX6_holes_42 : decode cX6_holes 42 = .ok (.ishl, 1) := by decide +kernel
theorem dX6_holes_43 : decode cX6_holes 43 = .ok (.ior, 1) := by decide +kernel
theorem dX6_holes_44 : decode cX6_holes 44 = .ok (.istore_n 2, 1) := by decide +kernel
theorem dX6_holes_45 : decode cX6_holes 45 = .ok (.iinc 4 1, 3) := by decide +kernel
theorem dX6_holes_48 : decode cX6_holes 48 = .ok (.goto (-41), 3) := by decide +kernel
theorem dX6_holes_51 : decode cX6_holes 51 = .ok (.iload_n 2, 1) := by decide +kernel
theorem dX6_holes_52 : decode cX6_holes 52 = .ok (.ireturn, 1) := by decide +kernel
theorem dX6_hasHump_0 : decode cX6_hasHump 0 = .ok (.iconst 0, 1) := by decide +kernel
theorem dX6_hasHump_1 : decode cX6_hasHump 1 = .ok (.istore_n 2, 1) := by decide +kernel
theorem dX6_hasHump_2 : decode cX6_hasHump 2 = .ok (.iconst 1, 1) := by decide +kernel
theorem dX6_hasHump_3 : decode cX6_hasHump 3 = .ok (.istore_n 3, 1) := by decide +kernel
theorem dX6_hasHump_4 : decode cX6_hasHump 4 = .ok (.iload_n 3, 1) := by decide +kernel
theorem dX6_hasHump_5 : decode cX6_hasHump 5 = .ok (.iload_n 1, 1) := by decide +kernel
theorem dX6_hasHump_6 : decode cX6_hasHump 6 = .ok (.if_icmp .gt 50, 3) := by decide +kernel
theorem dX6_hasHump_9 : decode cX6_hasHump 9 = .ok (.iload_n 3, 1) := by decide +kernel
theorem dX6_hasHump_10 : decode cX6_hasHump 10 = .ok (.aload_n 0, 1) := by decide +kernel
theorem dX6_hasHump_11 : decode cX6_hasHump 11 = .ok (.arraylength, 1) := by decide +kernel
theorem dX6_hasHump_12 : decode cX6_hasHump 12 = .ok (.if_icmp .ge 44, 3) := by decide +kernel
theorem dX6_hasHump_15 : decode cX6_hasHump 15 = .ok (.aload_n 0, 1) := by decide +kernel
theorem dX6_hasHump_16 : decode cX6_hasHump 16 = .ok (.iload_n 3, 1) := by decide +kernel
theorem dX6_hasHump_17 : decode cX6_hasHump 17 = .ok (.laload, 1) := by decide +kernel
theorem dX6_hasHump_18 : decode cX6_hasHump 18 = .ok (.aload_n 0, 1) := by decide +kernel
theorem dX6_hasHump_19 : decode cX6_hasHump 19 = .ok (.iload_n 3, 1) := by decide +kernel
theorem dX6_hasHump_20 : decode cX6_hasHump 20 = .ok (.iconst 1, 1) := by decide +kernel
theorem dX6_hasHump_21 : decode cX6_hasHump 21 = .ok (.isub, 1) := by decide +kernel
theorem dX6_hasHump_22 : decode cX6_hasHump 22 = .ok (.laload, 1) := by decide +kernel
theorem dX6_hasHump_23 : decode cX6_hasHump 23 = .ok (.lcmp, 1) := by decide +kernel
theorem dX6_hasHump_24 : decode cX6_hasHump 24 = .ok (.ifCond .ge 8, 3) := by decide +kernel
theorem dX6_hasHump_27 : decode cX6_hasHump 27 = .ok (.iconst 1, 1) := by decide +kernel
theorem dX6_hasHump_28 : decode cX6_hasHump 28 = .ok (.istore_n 2, 1) := by decide +kernel
theorem dX6_hasHump_29 : decode cX6_hasHump 29 = .ok (.goto 21, 3) := by decide +kernel
theorem dX6_hasHump_32 : decode cX6_hasHump 32 = .ok (.iload_n 2, 1) := by decide +kernel
theorem dX6_hasHump_33 : decode cX6_hasHump 33 = .ok (.ifCond .eq 17, 3) := by decide +kernel
theorem dX6_hasHump_36 : decode cX6_hasHump 36 = .ok (.aload_n 0, 1) := by decide +kernel
theorem dX6_hasHump_37 : decode cX6_hasHump 37 = .ok (.iload_n 3, 1) := by decide +kernel
theorem dX6_hasHump_38 : decode cX6_hasHump 38 = .ok (.laload, 1) := by decide +kernel
theorem dX6_hasHump_39 : decode cX6_hasHump 39 = .ok (.aload_n 0, 1) := by decide +kernel
theorem dX6_hasHump_40 : decode cX6_hasHump 40 = .ok (.iload_n 3, 1) := by decide +kernel
theorem dX6_hasHump_41 : decode cX6_hasHump 41 = .ok (.iconst 1, 1) := by decide +kernel
theorem dX6_hasHump_42 : decode cX6_hasHump 42 = .ok (.isub, 1) := by decide +kernel
theorem dX6_hasHump_43 : decode cX6_hasHump 43 = .ok (.laload, 1) := by decide +kernel
theorem dX6_hasHump_44 : decode cX6_hasHump 44 = .ok (.lcmp, 1) := by decide +kernel
theorem dX6_hasHump_45 : decode cX6_hasHump 45 = .ok (.ifCond .le 5, 3) := by decide +kernel
theorem dX6_hasHump_48 : decode cX6_hasHump 48 = .ok (.iconst 0, 1) := by decide +kernel
theorem dX6_hasHump_49 : decode cX6_hasHump 49 = .ok (.ireturn, 1) := by decide +kernel
theorem dX6_hasHump_50 : decode cX6_hasHump 50 = .ok (.iinc 3 1, 3) := by decide +kernel
theorem dX6_hasHump_53 : decode cX6_hasHump 53 = .ok (.goto (-49), 3) := by decide +kernel
theorem dX6_hasHump_56 : decode cX6_hasHump 56 = .ok (.iconst 1, 1) := by decide +kernel
theorem dX6_hasHump_57 : decode cX6_hasHump 57 = .ok (.ireturn, 1) := by decide +kernel
theorem dX6_modes_0 : decode cX6_modes 0 = .ok (.iconst 0, 1) := by decide +kernel
theorem dX6_modes_1 : decode cX6_modes 1 = .ok (.istore_n 2, 1) := by decide +kernel
theorem dX6_modes_2 : decode cX6_modes 2 = .ok (.ldc2_w 9, 3) := by decide +kernel
theorem dX6_modes_5 : decode cX6_modes 5 = .ok (.lstore_n 3, 1) := by decide +kernel
theorem dX6_modes_6 : decode cX6_modes 6 = .ok (.iconst 0, 1) := by decide +kernel
theorem dX6_modes_7 : decode cX6_modes 7 = .ok (.istore 5, 2) := by decide +kernel
theorem dX6_modes_9 : decode cX6_modes 9 = .ok (.iload 5, 2) := by decide +kernel
theorem dX6_modes_11 : decode cX6_modes 11 = .ok (.iload_n 1, 1) := by decide +kernel
theorem dX6_modes_12 : decode cX6_modes 12 = .ok (.if_icmp .gt 48, 3) := by decide +kernel
theorem dX6_modes_15 : decode cX6_modes 15 = .ok (.iload 5, 2) := by decide +kernel
theorem dX6_modes_17 : decode cX6_modes 17 = .ok (.aload_n 0, 1) := by decide +kernel
theorem dX6_modes_18 : decode cX6_modes 18 = .ok (.arraylength, 1) := by decide +kernel
theorem dX6_modes_19 : decode cX6_modes 19 = .ok (.if_icmp .ge 41, 3) := by decide +kernel
theorem dX6_modes_22 : decode cX6_modes 22 = .ok (.aload_n 0, 1) := by decide +kernel
theorem dX6_modes_23 : decode cX6_modes 23 = .ok (.iload 5, 2) := by decide +kernel
theorem dX6_modes_25 : decode cX6_modes 25 = .ok (.laload, 1) := by decide +kernel
theorem dX6_modes_26 : decode cX6_modes 26 = .ok (.lload_n 3, 1) := by decide +kernel
theorem dX6_modes_27 : decode cX6_modes 27 = .ok (.lcmp, 1) := by decide +kernel
theorem dX6_modes_28 : decode cX6_modes 28 = .ok (.ifCond .le 10, 3) := by decide +kernel
theorem dX6_modes_31 : decode cX6_modes 31 = .ok (.aload_n 0, 1) := by decide +kernel
theorem dX6_modes_32 : decode cX6_modes 32 = .ok (.iload 5, 2) := by decide +kernel
theorem dX6_modes_34 : decode cX6_modes 34 = .ok (.laload, 1) := by decide +kernel
theorem dX6_modes_35 : decode cX6_modes 35 = .ok (.lstore_n 3, 1) := by decide +kernel
theorem dX6_modes_36 : decode cX6_modes 36 = .ok (.iconst 0, 1) := by decide +kernel
theorem dX6_modes_37 : decode cX6_modes 37 = .ok (.istore_n 2, 1) := by decide +kernel
theorem dX6_modes_38 : decode cX6_modes 38 = .ok (.aload_n 0, 1) := by decide +kernel
theorem dX6_modes_39 : decode cX6_modes 39 = .ok (.iload 5, 2) := by decide +kernel
theorem dX6_modes_41 : decode cX6_modes 41 = .ok (.laload, 1) := by decide +kernel
theorem dX6_modes_42 : decode cX6_modes 42 = .ok (.lload_n 3, 1) := by decide +kernel
theorem dX6_modes_43 : decode cX6_modes 43 = .ok (.lcmp, 1) := by decide +kernel
theorem dX6_modes_44 : decode cX6_modes 44 = .ok (.ifCond .ne 10, 3) := by decide +kernel
theorem dX6_modes_47 : decode cX6_modes 47 = .ok (.iload_n 2, 1) := by decide +kernel
theorem dX6_modes_48 : decode cX6_modes 48 = .ok (.iconst 1, 1) := by decide +kernel
theorem dX6_modes_49 : decode cX6_modes 49 = .ok (.iload 5, 2) := by decide +kernel
theorem dX6_modes_51 : decode cX6_modes 51 = .ok (.ishl, 1) := by decide +kernel
theorem dX6_modes_52 : decode cX6_modes 52 = .ok (.ior, 1) := by decide +kernel
theorem dX6_modes_53 : decode cX6_modes 53 = .ok (.istore_n 2, 1) := by decide +kernel
theorem dX6_modes_54 : decode cX6_modes 54 = .ok (.iinc 5 1, 3) := by decide +kernel
theorem dX6_modes_57 : decode cX6_modes 57 = .ok (.goto (-48), 3) := by decide +kernel
theorem dX6_modes_60 : decode cX6_modes 60 = .ok (.iload_n 2, 1) := by decide +kernel
theorem dX6_modes_61 : decode cX6_modes 61 = .ok (.ireturn, 1) := by decide +kernel
theorem dX7_init_0 : decode cX7_init 0 = .ok (.aload_n 0, 1) := by decide +kernel
theorem dX7_init_1 : decode cX7_init 1 = .ok (.invokespecial 3, 3) := by decide +kernel
theorem dX7_init_4 : decode cX7_init 4 = .ok (.aload_n 0, 1) := by decide +kernel
theorem dX7_init_5 : decode cX7_init 5 = .ok (.bipush 90, 2) := by decide +kernel
theorem dX7_init_7 : decode cX7_init 7 = .ok (.anewarray 11, 3) := by decide +kernel
theorem dX7_init_10 : decode cX7_init 10 = .ok (.putfield 13, 3) := by decide +kernel
theorem dX7_init_13 : decode cX7_init 13 = .ok (.aload_n 0, 1) := by decide +kernel
theorem dX7_init_14 : decode cX7_init 14 = .ok (.bipush 10, 2) := by decide +kernel
theorem dX7_init_16 : decode cX7_init 16 = .ok (.newarray .int, 2) := by decide +kernel
theorem dX7_init_18 : decode cX7_init 18 = .ok (.putfield 17, 3) := by decide +kernel
theorem dX7_init_21 : decode cX7_init 21 = .ok (.aload_n 0, 1) := by decide +kernel
theorem dX7_init_22 : decode cX7_init 22 = .ok (.bipush 10, 2) := by decide +kernel
theorem dX7_init_24 : decode cX7_init 24 = .ok (.newarray .int, 2) := by decide +kernel
theorem dX7_init_26 : decode cX7_init 26 = .ok (.putfield 21, 3) := by decide +kernel
theorem dX7_init_29 : decode cX7_init 29 = .ok (.aload_n 0, 1) := by decide +kernel
theorem dX7_init_30 : decode cX7_init 30 = .ok (.bipush 9, 2) := by decide +kernel
theorem dX7_init_32 : decode cX7_init 32 = .ok (.anewarray 11, 3) := by decide +kernel
theorem dX7_init_35 : decode cX7_init 35 = .ok (.putfield 24, 3) := by decide +kernel
theorem dX7_init_38 : decode cX7_init 38 = .ok (.aload_n 0, 1) := by decide +kernel
theorem dX7_init_39 : decode cX7_init 39 = .ok (.new 11, 3) := by decide +kernel
theorem dX7_init_42 : decode cX7_init 42 = .ok (.dup, 1) := by decide +kernel
theorem dX7_init_43 : decode cX7_init 43 = .ok (.bipush 96, 2) := by decide +kernel
theorem dX7_init_45 : decode cX7_init 45 = .ok (.invokespecial 27, 3) := by decide +kernel
theorem dX7_init_48 : decode cX7_init 48 = .ok (.putfield 30, 3) := by decide +kernel
theorem dX7_init_51 : decode cX7_init 51 = .ok (.aload_n 0, 1) := by decide +kernel
theorem dX7_init_52 : decode cX7_init 52 = .ok (.new 11, 3) := by decide +kernel
theorem dX7_init_55 : decode cX7_init 55 = .ok (.dup, 1) := by decide +kernel
theorem dX7_init_56 : decode cX7_init 56 = .ok (.bipush 96, 2) := by decide +kernel
theorem dX7_init_58 : decode cX7_init 58 = .ok (.invokespecial 27, 3) := by decide +kernel
theorem dX7_init_61 : decode cX7_init 61 = .ok (.putfield 34, 3) := by decide +kernel
theorem dX7_init_64 : decode cX7_init 64 = .ok (.aload_n 0, 1) := by decide +kernel
theorem dX7_init_65 : decode cX7_init 65 = .ok (.new 11, 3) := by decide +kernel
theorem dX7_init_68 : decode cX7_init 68 = .ok (.dup, 1) := by decide +kernel
theorem dX7_init_69 : decode cX7_init 69 = .ok (.bipush 96, 2) := by decide +kernel
theorem dX7_init_71 : decode cX7_init 71 = .ok (.invokespecial 27, 3) := by decide +kernel
theorem dX7_init_74 : decode cX7_init 74 = .ok (.putfield 37, 3) := by decide +kernel
theorem dX7_init_77 : decode cX7_init 77 = .ok (.aload_n 0, 1) := by decide +kernel
theorem dX7_init_78 : decode cX7_init 78 = .ok (.new 11, 3) := by decide +kernel
