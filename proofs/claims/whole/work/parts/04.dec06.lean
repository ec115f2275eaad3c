theorem dX11_lays_112 : decode cX11_lays 112 = .ok (.iadd, 1) := by decide +kernel
theorem dX11_lays_113 : decode cX11_lays 113 = .ok (.istore_n 2, 1) := by decide +kernel
theorem dX11_lays_114 : decode cX11_lays 114 = .ok (.iconst 0, 1) := by decide +kernel
theorem dX11_lays_115 : decode cX11_lays 115 = .ok (.istore 4, 2) := by decide +kernel
theorem dX11_lays_117 : decode cX11_lays 117 = .ok (.iload 4, 2) := by decide +kernel
theorem dX11_lays_119 : decode cX11_lays 119 = .ok (.bipush 9, 2) := by decide +kernel
theorem dX11_lays_121 : decode cX11_lays 121 = .ok (.if_icmp .ge 25, 3) := by decide +kernel
theorem dX11_lays_124 : decode cX11_lays 124 = .ok (.aload_n 0, 1) := by decide +kernel
theorem dX11_lays_125 : decode cX11_lays 125 = .ok (.bipush 8, 2) := by decide +kernel
theorem dX11_lays_127 : decode cX11_lays 127 = .ok (.iload 4, 2) := by decide +kernel
theorem dX11_lays_129 : decode cX11_lays 129 = .ok (.aload_n 0, 1) := by decide +kernel
theorem dX11_lays_130 : decode cX11_lays 130 = .ok (.bipush 9, 2) := by decide +kernel
theorem dX11_lays_132 : decode cX11_lays 132 = .ok (.iload 4, 2) := by decide +kernel
theorem dX11_lays_134 : decode cX11_lays 134 = .ok (.invokevirtual 106, 3) := by decide +kernel
theorem dX11_lays_137 : decode cX11_lays 137 = .ok (.invokevirtual 130, 3) := by decide +kernel
theorem dX11_lays_140 : decode cX11_lays 140 = .ok (.iinc 4 1, 3) := by decide +kernel
theorem dX11_lays_143 : decode cX11_lays 143 = .ok (.goto (-26), 3) := by decide +kernel
theorem dX11_lays_146 : decode cX11_lays 146 = .ok (.aload_n 0, 1) := by decide +kernel
theorem dX11_lays_147 : decode cX11_lays 147 = .ok (.dup, 1) := by decide +kernel
theorem dX11_lays_148 : decode cX11_lays 148 = .ok (.getfield 134, 3) := by decide +kernel
theorem dX11_lays_151 : decode cX11_lays 151 = .ok (.iconst 1, 1) := by decide +kernel
theorem dX11_lays_152 : decode cX11_lays 152 = .ok (.iadd, 1) := by decide +kernel
theorem dX11_lays_153 : decode cX11_lays 153 = .ok (.putfield 134, 3) := by decide +kernel
theorem dX11_lays_156 : decode cX11_lays 156 = .ok (.goto (-122), 3) := by decide +kernel
theorem dX11_lays_159 : decode cX11_lays 159 = .ok (.return_, 1) := by decide +kernel
theorem dX11_setsPower_0 : decode cX11_setsPower 0 = .ok (.iconst 0, 1) := by decide +kernel
theorem dX11_setsPower_1 : decode cX11_setsPower 1 = .ok (.istore_n 3, 1) := by decide +kernel
theorem dX11_setsPower_2 : decode cX11_setsPower 2 = .ok (.iload_n 3, 1) := by decide +kernel
theorem dX11_setsPower_3 : decode cX11_setsPower 3 = .ok (.iload_n 2, 1) := by decide +kernel
theorem dX11_setsPower_4 : decode cX11_setsPower 4 = .ok (.bipush 16, 2) := by decide +kernel
theorem dX11_setsPower_6 : decode cX11_setsPower 6 = .ok (.idiv, 1) := by decide +kernel
theorem dX11_setsPower_7 : decode cX11_setsPower 7 = .ok (.if_icmp .gt 39, 3) := by decide +kernel
theorem dX11_setsPower_10 : decode cX11_setsPower 10 = .ok (.aload_n 0, 1) := by decide +kernel
theorem dX11_setsPower_11 : decode cX11_setsPower 11 = .ok (.getfield 8, 3) := by decide +kernel
theorem dX11_setsPower_14 : decode cX11_setsPower 14 = .ok (.sipush 200, 3) := by decide +kernel
theorem dX11_setsPower_17 : decode cX11_setsPower 17 = .ok (.iload_n 1, 1) := by decide +kernel
theorem dX11_setsPower_18 : decode cX11_setsPower 18 = .ok (.imul, 1) := by decide +kernel
theorem dX11_setsPower_19 : decode cX11_setsPower 19 = .ok (.iload_n 3, 1) := by decide +kernel
theorem dX11_setsPower_20 : decode cX11_setsPower 20 = .ok (.iadd, 1) := by decide +kernel
theorem dX11_setsPower_21 : decode cX11_setsPower 21 = .ok (.iload_n 3, 1) := by decide +kernel
theorem dX11_setsPower_22 : decode cX11_setsPower 22 = .ok (.iload_n 2, 1) := by decide +kernel
theorem dX11_setsPower_23 : decode cX11_setsPower 23 = .ok (.bipush 16, 2) := by decide +kernel
theorem dX11_setsPower_25 : decode cX11_setsPower 25 = .ok (.idiv, 1) := by decide +kernel
theorem dX11_setsPower_26 : decode cX11_setsPower 26 = .ok (.if_icmp .ne 12, 3) := by decide +kernel
theorem dX11_setsPower_29 : decode cX11_setsPower 29 = .ok (.iconst 1, 1) := by decide +kernel
theorem dX11_setsPower_30 : decode cX11_setsPower 30 = .ok (.iload_n 2, 1) := by decide +kernel
theorem dX11_setsPower_31 : decode cX11_setsPower 31 = .ok (.bipush 16, 2) := by decide +kernel
theorem dX11_setsPower_33 : decode cX11_setsPower 33 = .ok (.irem, 1) := by decide +kernel
theorem dX11_setsPower_34 : decode cX11_setsPower 34 = .ok (.ishl, 1) := by decide +kernel
theorem dX11_setsPower_35 : decode cX11_setsPower 35 = .ok (.goto 4, 3) := by decide +kernel
theorem dX11_setsPower_38 : decode cX11_setsPower 38 = .ok (.iconst 0, 1) := by decide +kernel
theorem dX11_setsPower_39 : decode cX11_setsPower 39 = .ok (.iastore, 1) := by decide +kernel
theorem dX11_setsPower_40 : decode cX11_setsPower 40 = .ok (.iinc 3 1, 3) := by decide +kernel
theorem dX11_setsPower_43 : decode cX11_setsPower 43 = .ok (.goto (-41), 3) := by decide +kernel
theorem dX11_setsPower_46 : decode cX11_setsPower 46 = .ok (.aload_n 0, 1) := by decide +kernel
theorem dX11_setsPower_47 : decode cX11_setsPower 47 = .ok (.getfield 14, 3) := by decide +kernel
theorem dX11_setsPower_50 : decode cX11_setsPower 50 = .ok (.iload_n 1, 1) := by decide +kernel
theorem dX11_setsPower_51 : decode cX11_setsPower 51 = .ok (.iload_n 2, 1) := by decide +kernel
theorem dX11_setsPower_52 : decode cX11_setsPower 52 = .ok (.bipush 16, 2) := by decide +kernel
theorem dX11_setsPower_54 : decode cX11_setsPower 54 = .ok (.idiv, 1) := by decide +kernel
theorem dX11_setsPower_55 : decode cX11_setsPower 55 = .ok (.iconst 1, 1) := by decide +kernel
theorem dX11_setsPower_56 : decode cX11_setsPower 56 = .ok (.iadd, 1) := by decide +kernel
theorem dX11_setsPower_57 : decode cX11_setsPower 57 = .ok (.iastore, 1) := by decide +kernel
theorem dX11_setsPower_58 : decode cX11_setsPower 58 = .ok (.aload_n 0, 1) := by decide +kernel
theorem dX11_setsPower_59 : decode cX11_setsPower 59 = .ok (.getfield 17, 3) := by decide +kernel
theorem dX11_setsPower_62 : decode cX11_setsPower 62 = .ok (.iload_n 1, 1) := by decide +kernel
theorem dX11_setsPower_63 : decode cX11_setsPower 63 = .ok (.iconst 1, 1) := by decide +kernel
theorem dX11_setsPower_64 : decode cX11_setsPower 64 = .ok (.iastore, 1) := by decide +kernel
theorem dX11_setsPower_65 : decode cX11_setsPower 65 = .ok (.return_, 1) := by decide +kernel
theorem dX11_signAt_0 : decode cX11_signAt 0 = .ok (.aload_n 0, 1) := by decide +kernel
theorem dX11_signAt_1 : decode cX11_signAt 1 = .ok (.bipush 16, 2) := by decide +kernel
theorem dX11_signAt_3 : decode cX11_signAt 3 = .ok (.iload_n 2, 1) := by decide +kernel
theorem dX11_signAt_4 : decode cX11_signAt 4 = .ok (.invokevirtual 146, 3) := by decide +kernel
theorem dX11_signAt_7 : decode cX11_signAt 7 = .ok (.aload_n 0, 1) := by decide +kernel
theorem dX11_signAt_8 : decode cX11_signAt 8 = .ok (.bipush 17, 2) := by decide +kernel
theorem dX11_signAt_10 : decode cX11_signAt 10 = .ok (.lconst 1, 1) := by decide +kernel
theorem dX11_signAt_11 : decode cX11_signAt 11 = .ok (.invokevirtual 74, 3) := by decide +kernel
theorem dX11_signAt_14 : decode cX11_signAt 14 = .ok (.aload_n 0, 1) := by decide +kernel
theorem dX11_signAt_15 : decode cX11_signAt 15 = .ok (.bipush 18, 2) := by decide +kernel
theorem dX11_signAt_17 : decode cX11_signAt 17 = .ok (.iload_n 1, 1) := by decide +kernel
theorem dX11_signAt_18 : decode cX11_signAt 18 = .ok (.aload_n 0, 1) := by decide +kernel
theorem dX11_signAt_19 : decode cX11_signAt 19 = .ok (.getfield 27, 3) := by decide +kernel
theorem dX11_signAt_22 : decode cX11_signAt 22 = .ok (.iload_n 1, 1) := by decide +kernel
theorem dX11_signAt_23 : decode cX11_signAt 23 = .ok (.iaload, 1) := by decide +kernel
theorem dX11_signAt_24 : decode cX11_signAt 24 = .ok (.invokestatic 81, 3) := by decide +kernel
theorem dX11_signAt_27 : decode cX11_signAt 27 = .ok (.invokevirtual 63, 3) := by decide +kernel
theorem dX11_signAt_30 : decode cX11_signAt 30 = .ok (.aload_n 0, 1) := by decide +kernel
theorem dX11_signAt_31 : decode cX11_signAt 31 = .ok (.getfield 27, 3) := by decide +kernel
theorem dX11_signAt_34 : decode cX11_signAt 34 = .ok (.iload_n 1, 1) := by decide +kernel
theorem dX11_signAt_35 : decode cX11_signAt 35 = .ok (.iaload, 1) := by decide +kernel
theorem dX11_signAt_36 : decode cX11_signAt 36 = .ok (.iconst 1, 1) := by decide +kernel
theorem dX11_signAt_37 : decode cX11_signAt 37 = .ok (.isub, 1) := by decide +kernel
theorem dX11_signAt_38 : decode cX11_signAt 38 = .ok (.istore_n 3, 1) := by decide +kernel
theorem dX11_signAt_39 : decode cX11_signAt 39 = .ok (.iload_n 3, 1) := by decide +kernel
theorem dX11_signAt_40 : decode cX11_signAt 40 = .ok (.ifCond .lt 61, 3) := by decide +kernel
theorem dX11_signAt_43 : decode cX11_signAt 43 = .ok (.aload_n 0, 1) := by decide +kernel
theorem dX11_signAt_44 : decode cX11_signAt 44 = .ok (.bipush 19, 2) := by decide +kernel
theorem dX11_signAt_46 : decode cX11_signAt 46 = .ok (.bipush 17, 2) := by decide +kernel
theorem dX11_signAt_48 : decode cX11_signAt 48 = .ok (.bipush 16, 2) := by decide +kernel
theorem dX11_signAt_50 : decode cX11_signAt 50 = .ok (.invokevirtual 84, 3) := by decide +kernel
theorem dX11_signAt_53 : decode cX11_signAt 53 = .ok (.aload_n 0, 1) := by decide +kernel
theorem dX11_signAt_54 : decode cX11_signAt 54 = .ok (.bipush 17, 2) := by decide +kernel
theorem dX11_signAt_56 : decode cX11_signAt 56 = .ok (.bipush 19, 2) := by decide +kernel
theorem dX11_signAt_58 : decode cX11_signAt 58 = .ok (.invokevirtual 63, 3) := by decide +kernel
theorem dX11_signAt_61 : decode cX11_signAt 61 = .ok (.aload_n 0, 1) := by decide +kernel
theorem dX11_signAt_62 : decode cX11_signAt 62 = .ok (.bipush 19, 2) := by decide +kernel
theorem dX11_signAt_64 : decode cX11_signAt 64 = .ok (.bipush 18, 2) := by decide +kernel
theorem dX11_signAt_66 : decode cX11_signAt 66 = .ok (.bipush 15, 2) := by decide +kernel
theorem dX11_signAt_68 : decode cX11_signAt 68 = .ok (.invokevirtual 84, 3) := by decide +kernel
theorem dX11_signAt_71 : decode cX11_signAt 71 = .ok (.aload_n 0, 1) := by decide +kernel
theorem dX11_signAt_72 : decode cX11_signAt 72 = .ok (.bipush 18, 2) := by decide +kernel
theorem dX11_signAt_74 : decode cX11_signAt 74 = .ok (.iload_n 1, 1) := by decide +kernel
theorem dX11_signAt_75 : decode cX11_signAt 75 = .ok (.iload_n 3, 1) := by decide +kernel
theorem dX11_signAt_76 : decode cX11_signAt 76 = .ok (.invokestatic 81, 3) := by decide +kernel
theorem dX11_signAt_79 : decode cX11_signAt 79 = .ok (.bipush 17, 2) := by decide +kernel
theorem dX11_signAt_81 : decode cX11_signAt 81 = .ok (.invokevirtual 84, 3) := by decide +kernel
theorem dX11_signAt_84 : decode cX11_signAt 84 = .ok (.aload_n 0, 1) := by decide +kernel
theorem dX11_signAt_85 : decode cX11_signAt 85 = .ok (.bipush 18, 2) := by decide +kernel
theorem dX11_signAt_87 : decode cX11_signAt 87 = .ok (.bipush 19, 2) := by decide +kernel
theorem dX11_signAt_89 : decode cX11_signAt 89 = .ok (.bipush 18, 2) := by decide +kernel
theorem dX11_signAt_91 : decode cX11_signAt 91 = .ok (.iconst 1, 1) := by decide +kernel
theorem dX11_signAt_92 : decode cX11_signAt 92 = .ok (.invokevirtual 88, 3) := by decide +kernel
theorem dX11_signAt_95 : decode cX11_signAt 95 = .ok (.iinc 3 (-1), 3) := by decide +kernel
theorem dX11_signAt_98 : decode cX11_signAt 98 = .ok (.goto (-59), 3) := by decide +kernel
theorem dX11_signAt_101 : decode cX11_signAt 101 = .ok (.aload_n 0, 1) := by decide +kernel
theorem dX11_signAt_102 : decode cX11_signAt 102 = .ok (.getfield 30, 3) := by decide +kernel
theorem dX11_signAt_105 : decode cX11_signAt 105 = .ok (.iload_n 1, 1) := by decide +kernel
theorem dX11_signAt_106 : decode cX11_signAt 106 = .ok (.iaload, 1) := by decide +kernel
theorem dX11_signAt_107 : decode cX11_signAt 107 = .ok (.aload_n 0, 1) := by decide +kernel
theorem dX11_signAt_108 : decode cX11_signAt 108 = .ok (.getfield 17, 3) := by decide +kernel
theorem dX11_signAt_111 : decode cX11_signAt 111 = .ok (.bipush 18, 2) := by decide +kernel
theorem dX11_signAt_113 : decode cX11_signAt 113 = .ok (.iaload, 1) := by decide +kernel
theorem dX11_signAt_114 : decode cX11_signAt 114 = .ok (.imul, 1) := by decide +kernel
theorem dX11_signAt_115 : decode cX11_signAt 115 = .ok (.ireturn, 1) := by decide +kernel
theorem dX11_changes_0 : decode cX11_changes 0 = .ok (.iconst 0, 1) := by decide +kernel
theorem dX11_changes_1 : decode cX11_changes 1 = .ok (.istore 4, 2) := by decide +kernel
theorem dX11_changes_3 : decode cX11_changes 3 = .ok (.iconst 0, 1) := by decide +kernel
theorem dX11_changes_4 : decode cX11_changes 4 = .ok (.istore 5, 2) := by decide +kernel
theorem dX11_changes_6 : decode cX11_changes 6 = .ok (.iconst 0, 1) := by decide +kernel
theorem dX11_changes_7 : decode cX11_changes 7 = .ok (.istore 6, 2) := by decide +kernel
theorem dX11_changes_9 : decode cX11_changes 9 = .ok (.iload 6, 2) := by decide +kernel
theorem dX11_changes_11 : decode cX11_changes 11 = .ok (.iload_n 2, 1) := by decide +kernel
theorem dX11_changes_12 : decode cX11_changes 12 = .ok (.if_icmp .ge 54, 3) := by decide +kernel
theorem dX11_changes_15 : decode cX11_changes 15 = .ok (.aload_n 0, 1) := by decide +kernel
theorem dX11_changes_16 : decode cX11_changes 16 = .ok (.iload_n 1, 1) := by decide +kernel
theorem dX11_changes_17 : decode cX11_changes 17 = .ok (.iload 6, 2) := by decide +kernel
theorem dX11_changes_19 : decode cX11_changes 19 = .ok (.iadd, 1) := by decide +kernel
theorem dX11_changes_20 : decode cX11_changes 20 = .ok (.iload_n 3, 1) := by decide +kernel
theorem dX11_changes_21 : decode cX11_changes 21 = .ok (.invokevirtual 149, 3) := by decide +kernel
theorem dX11_changes_24 : decode cX11_changes 24 = .ok (.istore 7, 2) := by decide +kernel
theorem dX11_changes_26 : decode cX11_changes 26 = .ok (.iload 7, 2) := by decide +kernel
theorem dX11_changes_28 : decode cX11_changes 28 = .ok (.ifCond .ne 6, 3) := by decide +kernel
theorem dX11_changes_31 : decode cX11_changes 31 = .ok (.goto 29, 3) := by decide +kernel
theorem dX11_changes_34 : decode cX11_changes 34 = .ok (.iload 5, 2) := by decide +kernel
theorem dX11_changes_36 : decode cX11_changes 36 = .ok (.iload 4, 2) := by decide +kernel
theorem dX11_changes_38 : decode cX11_changes 38 = .ok (.ifCond .eq 14, 3) := by decide +kernel
theorem dX11_changes_41 : decode cX11_changes 41 = .ok (.iload 7, 2) := by decide +kernel
theorem dX11_changes_43 : decode cX11_changes 43 = .ok (.iload 4, 2) := by decide +kernel
theorem dX11_changes_45 : decode cX11_changes 45 = .ok (.if_icmp .eq 7, 3) := by decide +kernel
theorem dX11_changes_48 : decode cX11_changes 48 = .ok (.iconst 1, 1) := by decide +kernel
theorem dX11_changes_49 : decode cX11_changes 49 = .ok (.goto 4, 3) := by decide +kernel
theorem dX11_changes_52 : decode cX11_changes 52 = .ok (.iconst 0, 1) := by decide +kernel
theorem dX11_changes_53 : decode cX11_changes 53 = .ok (.iadd, 1) := by decide +kernel
theorem dX11_changes_54 : decode cX11_changes 54 = .ok (.istore 5, 2) := by decide +kernel
theorem dX11_changes_56 : decode cX11_changes 56 = .ok (.iload 7, 2) := by decide +kernel
theorem dX11_changes_58 : decode cX11_changes 58 = .ok (.istore 4, 2) := by decide +kernel
theorem dX11_changes_60 : decode cX11_changes 60 = .ok (.iinc 6 1, 3) := by decide +kernel
theorem dX11_changes_63 : decode cX11_changes 63 = .ok (.goto (-54), 3) := by decide +kernel
theorem dX11_changes_66 : decode cX11_changes 66 = .ok (.iload 5, 2) := by decide +kernel
theorem dX11_changes_68 : decode cX11_changes 68 = .ok (.ireturn, 1) := by decide +kernel
theorem dX11_changesOut_0 : decode cX11_changesOut 0 = .ok (.iconst 0, 1) := by decide +kernel
theorem dX11_changesOut_1 : decode cX11_changesOut 1 = .ok (.istore 4, 2) := by decide +kernel
theorem dX11_changesOut_3 : decode cX11_changesOut 3 = .ok (.iconst 0, 1) := by decide +kernel
theorem dX11_changesOut_4 : decode cX11_changesOut 4 = .ok (.istore 5, 2) := by decide +kernel
theorem dX11_changesOut_6 : decode cX11_changesOut 6 = .ok (.iconst 0, 1) := by decide +kernel
theorem dX11_changesOut_7 : decode cX11_changesOut 7 = .ok (.istore 6, 2) := by decide +kernel
theorem dX11_changesOut_9 : decode cX11_changesOut 9 = .ok (.iload 6, 2) := by decide +kernel
theorem dX11_changesOut_11 : decode cX11_changesOut 11 = .ok (.iload_n 2, 1) := by decide +kernel
theorem dX11_changesOut_12 : decode cX11_changesOut 12 = .ok (.if_icmp .ge 76, 3) := by decide +kernel
theorem dX11_changesOut_15 : decode cX11_changesOut 15 = .ok (.iload_n 3, 1) := by decide +kernel
theorem dX11_changesOut_16 : decode cX11_changesOut 16 = .ok (.ifCond .eq 30, 3) := by decide +kernel
theorem dX11_changesOut_19 : decode cX11_changesOut 19 = .ok (.aload_n 0, 1) := by decide +kernel
theorem dX11_changesOut_20 : decode cX11_changesOut 20 = .ok (.getfield 27, 3) := by decide +kernel
theorem dX11_changesOut_23 : decode cX11_changesOut 23 = .ok (.iload_n 1, 1) := by decide +kernel
theorem dX11_changesOut_24 : decode cX11_changesOut 24 = .ok (.iload 6, 2) := by decide +kernel
theorem dX11_changesOut_26 : decode cX11_changesOut 26 = .ok (.iadd, 1) := by decide +kernel
theorem dX11_changesOut_27 : decode cX11_changesOut 27 = .ok (.iaload, 1) := by decide +kernel
theorem dX11_changesOut_28 : decode cX11_changesOut 28 = .ok (.iconst 2, 1) := by decide +kernel
theorem dX11_changesOut_29 : decode cX11_changesOut 29 = .ok (.irem, 1) := by decide +kernel
theorem dX11_changesOut_30 : decode cX11_changesOut 30 = .ok (.iconst 1, 1) := by decide +kernel
theorem dX11_changesOut_31 : decode cX11_changesOut 31 = .ok (.if_icmp .ne 15, 3) := by decide +kernel
theorem dX11_changesOut_34 : decode cX11_changesOut 34 = .ok (.aload_n 0, 1) := by decide +kernel
theorem dX11_changesOut_35 : decode cX11_changesOut 35 = .ok (.iload_n 1, 1) := by decide +kernel
theorem dX11_changesOut_36 : decode cX11_changesOut 36 = .ok (.iload 6, 2) := by decide +kernel
theorem dX11_changesOut_38 : decode cX11_changesOut 38 = .ok (.iadd, 1) := by decide +kernel
theorem dX11_changesOut_39 : decode cX11_changesOut 39 = .ok (.invokevirtual 152, 3) := by decide +kernel
theorem dX11_changesOut_42 : decode cX11_changesOut 42 = .ok (.ineg, 1) := by decide +kernel
theorem dX11_changesOut_43 : decode cX11_changesOut 43 = .ok (.goto 11, 3) := by decide +kernel
theorem dX11_changesOut_46 : decode cX11_changesOut 46 = .ok (.aload_n 0, 1) := by decide +kernel
theorem dX11_changesOut_47 : decode cX11_changesOut 47 = .ok (.iload_n 1, 1) := by decide +kernel
theorem dX11_changesOut_48 : decode cX11_changesOut 48 = .ok (.iload 6, 2) := by decide +kernel
theorem dX11_changesOut_50 : decode cX11_changesOut 50 = .ok (.iadd, 1) := by decide +kernel
theorem dX11_changesOut_51 : decode cX11_changesOut 51 = .ok (.invokevirtual 152, 3) := by decide +kernel
theorem dX11_changesOut_54 : decode cX11_changesOut 54 = .ok (.istore 7, 2) := by decide +kernel
theorem dX11_changesOut_56 : decode cX11_changesOut 56 = .ok (.iload 5, 2) := by decide +kernel
theorem dX11_changesOut_58 : decode cX11_changesOut 58 = .ok (.iload 4, 2) := by decide +kernel
theorem dX11_changesOut_60 : decode cX11_changesOut 60 = .ok (.ifCond .eq 14, 3) := by decide +kernel
theorem dX11_changesOut_63 : decode cX11_changesOut 63 = .ok (.iload 7, 2) := by decide +kernel
theorem dX11_changesOut_65 : decode cX11_changesOut 65 = .ok (.iload 4, 2) := by decide +kernel
theorem dX11_changesOut_67 : decode cX11_changesOut 67 = .ok (.if_icmp .eq 7, 3) := by decide +kernel
theorem dX11_changesOut_70 : decode cX11_changesOut 70 = .ok (.iconst 1, 1) := by decide +kernel
theorem dX11_changesOut_71 : decode cX11_changesOut 71 = .ok (.goto 4, 3) := by decide +kernel
theorem dX11_changesOut_74 : decode cX11_changesOut 74 = .ok (.iconst 0, 1) := by decide +kernel
theorem dX11_changesOut_75 : decode cX11_changesOut 75 = .ok (.iadd, 1) := by decide +kernel
theorem dX11_changesOut_76 : decode cX11_changesOut 76 = .ok (.istore 5, 2) := by decide +kernel
theorem dX11_changesOut_78 : decode cX11_changesOut 78 = .ok (.iload 7, 2) := by decide +kernel
theorem dX11_changesOut_80 : decode cX11_changesOut 80 = .ok (.istore 4, 2) := by decide +kernel
theorem dX11_changesOut_82 : decode cX11_changesOut 82 = .ok (.iinc 6 1, 3) := by decide +kernel
theorem dX11_changesOut_85 : decode cX11_changesOut 85 = .ok (.goto (-76), 3) := by decide +kernel
theorem dX11_changesOut_88 : decode cX11_changesOut 88 = .ok (.iload 5, 2) := by decide +kernel
theorem dX11_changesOut_90 : decode cX11_changesOut 90 = .ok (.ireturn, 1) := by decide +kernel
theorem dX11_realRoots_0 : decode cX11_realRoots 0 = .ok (.aload_n 0, 1) := by decide +kernel
theorem dX11_realRoots_1 : decode cX11_realRoots 1 = .ok (.aload_n 0, 1) := by decide +kernel
theorem dX11_realRoots_2 : decode cX11_realRoots 2 = .ok (.getfield 36, 3) := by decide +kernel
theorem dX11_realRoots_5 : decode cX11_realRoots 5 = .ok (.iload_n 1, 1) := by decide +kernel
theorem dX11_realRoots_6 : decode cX11_realRoots 6 = .ok (.iaload, 1) := by decide +kernel
theorem dX11_realRoots_7 : decode cX11_realRoots 7 = .ok (.aload_n 0, 1) := by decide +kernel
theorem dX11_realRoots_8 : decode cX11_realRoots 8 = .ok (.getfield 39, 3) := by decide +kernel
theorem dX11_realRoots_11 : decode cX11_realRoots 11 = .ok (.iload_n 1, 1) := by decide +kernel
theorem dX11_realRoots_12 : decode cX11_realRoots 12 = .ok (.iaload, 1) := by decide +kernel
theorem dX11_realRoots_13 : decode cX11_realRoots 13 = .ok (.iconst 1, 1) := by decide +kernel
theorem dX11_realRoots_14 : decode cX11_realRoots 14 = .ok (.invokevirtual 155, 3) := by decide +kernel
theorem dX11_realRoots_17 : decode cX11_realRoots 17 = .ok (.aload_n 0, 1) := by decide +kernel
theorem dX11_realRoots_18 : decode cX11_realRoots 18 = .ok (.aload_n 0, 1) := by decide +kernel
theorem dX11_realRoots_19 : decode cX11_realRoots 19 = .ok (.getfield 36, 3) := by decide +kernel
theorem dX11_realRoots_22 : decode cX11_realRoots 22 = .ok (.iload_n 1, 1) := by decide +kernel
theorem dX11_realRoots_23 : decode cX11_realRoots 23 = .ok (.iaload, 1) := by decide +kernel
theorem dX11_realRoots_24 : decode cX11_realRoots 24 = .ok (.aload_n 0, 1) := by decide +kernel
theorem dX11_realRoots_25 : decode cX11_realRoots 25 = .ok (.getfield 39, 3) := by decide +kernel
theorem dX11_realRoots_28 : decode cX11_realRoots 28 = .ok (.iload_n 1, 1) := by decide +kernel
theorem dX11_realRoots_29 : decode cX11_realRoots 29 = .ok (.iaload, 1) := by decide +kernel
theorem dX11_realRoots_30 : decode cX11_realRoots 30 = .ok (.iconst 0, 1) := by decide +kernel
theorem dX11_realRoots_31 : decode cX11_realRoots 31 = .ok (.invokevirtual 155, 3) := by decide +kernel
theorem dX11_realRoots_34 : decode cX11_realRoots 34 = .ok (.isub, 1) := by decide +kernel
theorem dX11_realRoots_35 : decode cX11_realRoots 35 = .ok (.ireturn, 1) := by decide +kernel
theorem dX11_roots_0 : decode cX11_roots 0 = .ok (.iconst 0, 1) := by decide +kernel
theorem dX11_roots_1 : decode cX11_roots 1 = .ok (.istore_n 1, 1) := by decide +kernel
theorem dX11_roots_2 : decode cX11_roots 2 = .ok (.iconst 0, 1) := by decide +kernel
theorem dX11_roots_3 : decode cX11_roots 3 = .ok (.istore_n 2, 1) := by decide +kernel
theorem dX11_roots_4 : decode cX11_roots 4 = .ok (.iload_n 2, 1) := by decide +kernel
theorem dX11_roots_5 : decode cX11_roots 5 = .ok (.aload_n 0, 1) := by decide +kernel
theorem dX11_roots_6 : decode cX11_roots 6 = .ok (.getfield 134, 3) := by decide +kernel
theorem dX11_roots_9 : decode cX11_roots 9 = .ok (.if_icmp .ge 17, 3) := by decide +kernel
theorem dX11_roots_12 : decode cX11_roots 12 = .ok (.iload_n 1, 1) := by decide +kernel
theorem dX11_roots_13 : decode cX11_roots 13 = .ok (.aload_n 0, 1) := by decide +kernel
theorem dX11_roots_14 : decode cX11_roots 14 = .ok (.iload_n 2, 1) := by decide +kernel
theorem dX11_roots_15 : decode cX11_roots 15 = .ok (.invokevirtual 159, 3) := by decide +kernel
theorem dX11_roots_18 : decode cX11_roots 18 = .ok (.iadd, 1) := by decide +kernel
theorem dX11_roots_19 : decode cX11_roots 19 = .ok (.istore_n 1, 1) := by decide +kernel
theorem dX11_roots_20 : decode cX11_roots 20 = .ok (.iinc 2 1, 3) := by decide +kernel
theorem dX11_roots_23 : decode cX11_roots 23 = .ok (.goto (-19), 3) := by decide +kernel
theorem dX11_roots_26 : decode cX11_roots 26 = .ok (.iload_n 1, 1) := by decide +kernel
theorem dX11_roots_27 : decode cX11_roots 27 = .ok (.ireturn, 1) := by decide +kernel
theorem dX11_upTo_0 : decode cX11_upTo 0 = .ok (.aload_n 0, 1) := by decide +kernel
theorem dX11_upTo_1 : decode cX11_upTo 1 = .ok (.bipush 15, 2) := by decide +kernel
theorem dX11_upTo_3 : decode cX11_upTo 3 = .ok (.lload_n 1, 1) := by decide +kernel
theorem dX11_upTo_4 : decode cX11_upTo 4 = .ok (.invokevirtual 74, 3) := by decide +kernel
theorem dX11_upTo_7 : decode cX11_upTo 7 = .ok (.iconst 0, 1) := by decide +kernel
theorem dX11_upTo_8 : decode cX11_upTo 8 = .ok (.istore 4, 2) := by decide +kernel
theorem dX11_upTo_10 : decode cX11_upTo 10 = .ok (.iconst 0, 1) := by decide +kernel
theorem dX11_upTo_11 : decode cX11_upTo 11 = .ok (.istore 5, 2) := by decide +kernel
theorem dX11_upTo_13 : decode cX11_upTo 13 = .ok (.iload 5, 2) := by decide +kernel
theorem dX11_upTo_15 : decode cX11_upTo 15 = .ok (.aload_n 0, 1) := by decide +kernel
theorem dX11_upTo_16 : decode cX11_upTo 16 = .ok (.getfield 134, 3) := by decide +kernel
theorem dX11_upTo_19 : decode cX11_upTo 19 = .ok (.if_icmp .ge 21, 3) := by decide +kernel
theorem dX11_upTo_22 : decode cX11_upTo 22 = .ok (.iload 4, 2) := by decide +kernel
theorem dX11_upTo_24 : decode cX11_upTo 24 = .ok (.aload_n 0, 1) := by decide +kernel
theorem dX11_upTo_25 : decode cX11_upTo 25 = .ok (.iload 5, 2) := by decide +kernel
theorem dX11_upTo_27 : decode cX11_upTo 27 = .ok (.iload_n 3, 1) := by decide +kernel
theorem dX11_upTo_28 : decode cX11_upTo 28 = .ok (.invokevirtual 162, 3) := by decide +kernel
theorem dX11_upTo_31 : decode cX11_upTo 31 = .ok (.iadd, 1) := by decide +kernel
theorem dX11_upTo_32 : decode cX11_upTo 32 = .ok (.istore 4, 2) := by decide +kernel
theorem dX11_upTo_34 : decode cX11_upTo 34 = .ok (.iinc 5 1, 3) := by decide +kernel
theorem dX11_upTo_37 : decode cX11_upTo 37 = .ok (.goto (-24), 3) := by decide +kernel
theorem dX11_upTo_40 : decode cX11_upTo 40 = .ok (.iload 4, 2) := by decide +kernel
theorem dX11_upTo_42 : decode cX11_upTo 42 = .ok (.ireturn, 1) := by decide +kernel
theorem dX11_below_0 : decode cX11_below 0 = .ok (.aload_n 0, 1) := by decide +kernel
theorem dX11_below_1 : decode cX11_below 1 = .ok (.lload_n 1, 1) := by decide +kernel
theorem dX11_below_2 : decode cX11_below 2 = .ok (.iload_n 3, 1) := by decide +kernel
theorem dX11_below_3 : decode cX11_below 3 = .ok (.invokevirtual 165, 3) := by decide +kernel
theorem dX11_below_6 : decode cX11_below 6 = .ok (.istore 4, 2) := by decide +kernel
theorem dX11_below_8 : decode cX11_below 8 = .ok (.iconst 0, 1) := by decide +kernel
theorem dX11_below_9 : decode cX11_below 9 = .ok (.istore 5, 2) := by decide +kernel
theorem dX11_below_11 : decode cX11_below 11 = .ok (.iload 5, 2) := by decide +kernel
theorem dX11_below_13 : decode cX11_below 13 = .ok (.aload_n 0, 1) := by decide +kernel
theorem dX11_below_14 : decode cX11_below 14 = .ok (.getfield 134, 3) := by decide +kernel
theorem dX11_below_17 : decode cX11_below 17 = .ok (.if_icmp .ge 34, 3) := by decide +kernel
theorem dX11_below_20 : decode cX11_below 20 = .ok (.iload 4, 2) := by decide +kernel
theorem dX11_below_22 : decode cX11_below 22 = .ok (.aload_n 0, 1) := by decide +kernel
theorem dX11_below_23 : decode cX11_below 23 = .ok (.aload_n 0, 1) := by decide +kernel
theorem dX11_below_24 : decode cX11_below 24 = .ok (.getfield 36, 3) := by decide +kernel
theorem dX11_below_27 : decode cX11_below 27 = .ok (.iload 5, 2) := by decide +kernel
theorem dX11_below_29 : decode cX11_below 29 = .ok (.iaload, 1) := by decide +kernel
theorem dX11_below_30 : decode cX11_below 30 = .ok (.iload_n 3, 1) := by decide +kernel
theorem dX11_below_31 : decode cX11_below 31 = .ok (.invokevirtual 149, 3) := by decide +kernel
theorem dX11_below_34 : decode cX11_below 34 = .ok (.ifCond .ne 7, 3) := by decide +kernel
theorem dX11_below_37 : decode cX11_below 37 = .ok (.iconst 1, 1) := by decide +kernel
theorem dX11_below_38 : decode cX11_below 38 = .ok (.goto 4, 3) := by decide +kernel
theorem dX11_below_41 : decode cX11_below 41 = .ok (.iconst 0, 1) := by decide +kernel
theorem dX11_below_42 : decode cX11_below 42 = .ok (.isub, 1) := by decide +kernel
theorem dX11_below_43 : decode cX11_below 43 = .ok (.istore 4, 2) := by decide +kernel
theorem dX11_below_45 : decode cX11_below 45 = .ok (.iinc 5 1, 3) := by decide +kernel
theorem dX11_below_48 : decode cX11_below 48 = .ok (.goto (-37), 3) := by decide +kernel
theorem dX11_below_51 : decode cX11_below 51 = .ok (.iload 4, 2) := by decide +kernel
theorem dX11_below_53 : decode cX11_below 53 = .ok (.ireturn, 1) := by decide +kernel
theorem dX11_isTray_0 : decode cX11_isTray 0 = .ok (.iload_n 1, 1) := by decide +kernel
theorem dX11_isTray_1 : decode cX11_isTray 1 = .ok (.i2l, 1) := by decide +kernel
theorem dX11_isTray_2 : decode cX11_isTray 2 = .ok (.lconst 0, 1) := by decide +kernel
theorem dX11_isTray_3 : decode cX11_isTray 3 = .ok (.ldc2_w 169, 3) := by decide +kernel
theorem dX11_isTray_6 : decode cX11_isTray 6 = .ok (.invokestatic 171, 3) := by decide +kernel
theorem dX11_isTray_9 : decode cX11_isTray 9 = .ok (.ireturn, 1) := by decide +kernel
theorem dX11_put_0 : decode cX11_put 0 = .ok (.bipush 24, 2) := by decide +kernel
theorem dX11_put_2 : decode cX11_put 2 = .ok (.istore_n 2, 1) := by decide +kernel
theorem dX11_put_3 : decode cX11_put 3 = .ok (.iload_n 2, 1) := by decide +kernel
theorem dX11_put_4 : decode cX11_put 4 = .ok (.ifCond .lt 32, 3) := by decide +kernel
theorem dX11_put_7 : decode cX11_put 7 = .ok (.aload_n 0, 1) := by decide +kernel
theorem dX11_put_8 : decode cX11_put 8 = .ok (.getfield 45, 3) := by decide +kernel
theorem dX11_put_11 : decode cX11_put 11 = .ok (.aload_n 0, 1) := by decide +kernel
theorem dX11_put_12 : decode cX11_put 12 = .ok (.getfield 175, 3) := by decide +kernel
theorem dX11_put_15 : decode cX11_put 15 = .ok (.iload_n 1, 1) := by decide +kernel
theorem dX11_put_16 : decode cX11_put 16 = .ok (.iload_n 2, 1) := by decide +kernel
theorem dX11_put_17 : decode cX11_put 17 = .ok (.ishr, 1) := by decide +kernel
theorem dX11_put_18 : decode cX11_put 18 = .ok (.i2b, 1) := by decide +kernel
theorem dX11_put_19 : decode cX11_put 19 = .ok (.bastore, 1) := by decide +kernel
theorem dX11_put_20 : decode cX11_put 20 = .ok (.aload_n 0, 1) := by decide +kernel
theorem dX11_put_21 : decode cX11_put 21 = .ok (.dup, 1) := by decide +kernel
theorem dX11_put_22 : decode cX11_put 22 = .ok (.getfield 175, 3) := by decide +kernel
theorem dX11_put_25 : decode cX11_put 25 = .ok (.iconst 1, 1) := by decide +kernel
theorem dX11_put_26 : decode cX11_put 26 = .ok (.iadd, 1) := by decide +kernel
theorem dX11_put_27 : decode cX11_put 27 = .ok (.putfield 175, 3) := by decide +kernel
theorem dX11_put_30 : decode cX11_put 30 = .ok (.iinc 2 (-8), 3) := by decide +kernel
theorem dX11_put_33 : decode cX11_put 33 = .ok (.goto (-30), 3) := by decide +kernel
theorem dX11_put_36 : decode cX11_put 36 = .ok (.return_, 1) := by decide +kernel
theorem dX11_feed_0 : decode cX11_feed 0 = .ok (.aload_n 0, 1) := by decide +kernel
theorem dX11_feed_1 : decode cX11_feed 1 = .ok (.iconst 0, 1) := by decide +kernel
theorem dX11_feed_2 : decode cX11_feed 2 = .ok (.putfield 49, 3) := by decide +kernel
theorem dX11_feed_5 : decode cX11_feed 5 = .ok (.aload_n 0, 1) := by decide +kernel
theorem dX11_feed_6 : decode cX11_feed 6 = .ok (.getfield 175, 3) := by decide +kernel
theorem dX11_feed_9 : decode cX11_feed 9 = .ok (.bipush 20, 2) := by decide +kernel
theorem dX11_feed_11 : decode cX11_feed 11 = .ok (.iadd, 1) := by decide +kernel
theorem dX11_feed_12 : decode cX11_feed 12 = .ok (.sipush 200, 3) := by decide +kernel
theorem dX11_feed_15 : decode cX11_feed 15 = .ok (.if_icmp .le 5, 3) := by decide +kernel
theorem dX11_feed_18 : decode cX11_feed 18 = .ok (.iconst (-1), 1) := by decide +kernel
theorem dX11_feed_19 : decode cX11_feed 19 = .ok (.ireturn, 1) := by decide +kernel
theorem dX11_feed_20 : decode cX11_feed 20 = .ok (.aload_n 0, 1) := by decide +kernel
theorem dX11_feed_21 : decode cX11_feed 21 = .ok (.iload_n 1, 1) := by decide +kernel
theorem dX11_feed_22 : decode cX11_feed 22 = .ok (.invokevirtual 178, 3) := by decide +kernel
theorem dX11_feed_25 : decode cX11_feed 25 = .ok (.aload_n 0, 1) := by decide +kernel
theorem dX11_feed_26 : decode cX11_feed 26 = .ok (.iload_n 2, 1) := by decide +kernel
theorem dX11_feed_27 : decode cX11_feed 27 = .ok (.invokevirtual 178, 3) := by decide +kernel
theorem dX11_feed_30 : decode cX11_feed 30 = .ok (.aload_n 0, 1) := by decide +kernel
theorem dX11_feed_31 : decode cX11_feed 31 = .ok (.iload_n 3, 1) := by decide +kernel
theorem dX11_feed_32 : decode cX11_feed 32 = .ok (.invokevirtual 178, 3) := by decide +kernel
theorem dX11_feed_35 : decode cX11_feed 35 = .ok (.aload_n 0, 1) := by decide +kernel
theorem dX11_feed_36 : decode cX11_feed 36 = .ok (.iload 4, 2) := by decide +kernel
theorem dX11_feed_38 : decode cX11_feed 38 = .ok (.invokevirtual 178, 3) := by decide +kernel
theorem dX11_feed_41 : decode cX11_feed 41 = .ok (.aload_n 0, 1) := by decide +kernel
theorem dX11_feed_42 : decode cX11_feed 42 = .ok (.iload 5, 2) := by decide +kernel
theorem dX11_feed_44 : decode cX11_feed 44 = .ok (.invokevirtual 178, 3) := by decide +kernel
theorem dX11_feed_47 : decode cX11_feed 47 = .ok (.aload_n 0, 1) := by decide +kernel
theorem dX11_feed_48 : decode cX11_feed 48 = .ok (.getfield 175, 3) := by decide +kernel
theorem dX11_feed_51 : decode cX11_feed 51 = .ok (.ireturn, 1) := by decide +kernel
theorem dX11_end_0 : decode cX11_end 0 = .ok (.aload_n 0, 1) := by decide +kernel
theorem dX11_end_1 : decode cX11_end 1 = .ok (.iconst 0, 1) := by decide +kernel
theorem dX11_end_2 : decode cX11_end 2 = .ok (.putfield 49, 3) := by decide +kernel
theorem dX11_end_5 : decode cX11_end 5 = .ok (.iload_n 1, 1) := by decide +kernel
theorem dX11_end_6 : decode cX11_end 6 = .ok (.i2l, 1) := by decide +kernel
theorem dX11_end_7 : decode cX11_end 7 = .ok (.lconst 0, 1) := by decide +kernel
theorem dX11_end_8 : decode cX11_end 8 = .ok (.aload_n 0, 1) := by decide +kernel
theorem dX11_end_9 : decode cX11_end 9 = .ok (.getfield 175, 3) := by decide +kernel
theorem dX11_end_12 : decode cX11_end 12 = .ok (.i2l, 1) := by decide +kernel
theorem dX11_end_13 : decode cX11_end 13 = .ok (.invokestatic 171, 3) := by decide +kernel
theorem dX11_end_16 : decode cX11_end 16 = .ok (.ifCond .ne 5, 3) := by decide +kernel
theorem dX11_end_19 : decode cX11_end 19 = .ok (.iconst 0, 1) := by decide +kernel
theorem dX11_end_20 : decode cX11_end 20 = .ok (.ireturn, 1) := by decide +kernel
theorem dX11_end_21 : decode cX11_end 21 = .ok (.aload_n 0, 1) := by decide +kernel
theorem dX11_end_22 : decode cX11_end 22 = .ok (.iload_n 1, 1) := by decide +kernel
theorem dX11_end_23 : decode cX11_end 23 = .ok (.putfield 175, 3) := by decide +kernel
theorem dX11_end_26 : decode cX11_end 26 = .ok (.iconst 1, 1) := by decide +kernel
theorem dX11_end_27 : decode cX11_end 27 = .ok (.ireturn, 1) := by decide +kernel
theorem dX11_here_0 : decode cX11_here 0 = .ok (.aload_n 0, 1) := by decide +kernel
theorem dX11_here_1 : decode cX11_here 1 = .ok (.getfield 181, 3) := by decide +kernel
theorem dX11_here_4 : decode cX11_here 4 = .ok (.aload_n 0, 1) := by decide +kernel
theorem dX11_here_5 : decode cX11_here 5 = .ok (.getfield 184, 3) := by decide +kernel
theorem dX11_here_8 : decode cX11_here 8 = .ok (.if_icmp .ge 44, 3) := by decide +kernel
theorem dX11_here_11 : decode cX11_here 11 = .ok (.aload_n 0, 1) := by decide +kernel
theorem dX11_here_12 : decode cX11_here 12 = .ok (.getfield 45, 3) := by decide +kernel
theorem dX11_here_15 : decode cX11_here 15 = .ok (.aload_n 0, 1) := by decide +kernel
theorem dX11_here_16 : decode cX11_here 16 = .ok (.getfield 181, 3) := by decide +kernel
theorem dX11_here_19 : decode cX11_here 19 = .ok (.baload, 1) := by decide +kernel
theorem dX11_here_20 : decode cX11_here 20 = .ok (.bipush 32, 2) := by decide +kernel
theorem dX11_here_22 : decode cX11_here 22 = .ok (.if_icmp .eq 17, 3) := by decide +kernel
theorem dX11_here_25 : decode cX11_here 25 = .ok (.aload_n 0, 1) := by decide +kernel
theorem dX11_here_26 : decode cX11_here 26 = .ok (.getfield 45, 3) := by decide +kernel
theorem dX11_here_29 : decode cX11_here 29 = .ok (.aload_n 0, 1) := by decide +kernel
theorem dX11_here_30 : decode cX11_here 30 = .ok (.getfield 181, 3) := by decide +kernel
theorem dX11_here_33 : decode cX11_here 33 = .ok (.baload, 1) := by decide +kernel
theorem dX11_here_34 : decode cX11_here 34 = .ok (.bipush 10, 2) := by decide +kernel
theorem dX11_here_36 : decode cX11_here 36 = .ok (.if_icmp .ne 16, 3) := by decide +kernel
theorem dX11_here_39 : decode cX11_here 39 = .ok (.aload_n 0, 1) := by decide +kernel
theorem dX11_here_40 : decode cX11_here 40 = .ok (.dup, 1) := by decide +kernel
theorem dX11_here_41 : decode cX11_here 41 = .ok (.getfield 181, 3) := by decide +kernel
theorem dX11_here_44 : decode cX11_here 44 = .ok (.iconst 1, 1) := by decide +kernel
theorem dX11_here_45 : decode cX11_here 45 = .ok (.iadd, 1) := by decide +kernel
theorem dX11_here_46 : decode cX11_here 46 = .ok (.putfield 181, 3) := by decide +kernel
theorem dX11_here_49 : decode cX11_here 49 = .ok (.goto (-49), 3) := by decide +kernel
theorem dX11_here_52 : decode cX11_here 52 = .ok (.aload_n 0, 1) := by decide +kernel
theorem dX11_here_53 : decode cX11_here 53 = .ok (.getfield 181, 3) := by decide +kernel
theorem dX11_here_56 : decode cX11_here 56 = .ok (.aload_n 0, 1) := by decide +kernel
theorem dX11_here_57 : decode cX11_here 57 = .ok (.getfield 184, 3) := by decide +kernel
theorem dX11_here_60 : decode cX11_here 60 = .ok (.if_icmp .ge 19, 3) := by decide +kernel
theorem dX11_here_63 : decode cX11_here 63 = .ok (.aload_n 0, 1) := by decide +kernel
theorem dX11_here_64 : decode cX11_here 64 = .ok (.getfield 45, 3) := by decide +kernel
theorem dX11_here_67 : decode cX11_here 67 = .ok (.aload_n 0, 1) := by decide +kernel
theorem dX11_here_68 : decode cX11_here 68 = .ok (.getfield 181, 3) := by decide +kernel
theorem dX11_here_71 : decode cX11_here 71 = .ok (.baload, 1) := by decide +kernel
theorem dX11_here_72 : decode cX11_here 72 = .ok (.sipush 255, 3) := by decide +kernel
theorem dX11_here_75 : decode cX11_here 75 = .ok (.iand, 1) := by decide +kernel
theorem dX11_here_76 : decode cX11_here 76 = .ok (.goto 4, 3) := by decide +kernel
theorem dX11_here_79 : decode cX11_here 79 = .ok (.iconst (-1), 1) := by decide +kernel
theorem dX11_here_80 : decode cX11_here 80 = .ok (.ireturn, 1) := by decide +kernel
theorem dX11_fails_0 : decode cX11_fails 0 = .ok (.aload_n 0, 1) := by decide +kernel
theorem dX11_fails_1 : decode cX11_fails 1 = .ok (.getfield 187, 3) := by decide +kernel
theorem dX11_fails_4 : decode cX11_fails 4 = .ok (.ifCond .ne 13, 3) := by decide +kernel
theorem dX11_fails_7 : decode cX11_fails 7 = .ok (.aload_n 0, 1) := by decide +kernel
theorem dX11_fails_8 : decode cX11_fails 8 = .ok (.iload_n 1, 1) := by decide +kernel
theorem dX11_fails_9 : decode cX11_fails 9 = .ok (.bipush 8, 2) := by decide +kernel
theorem dX11_fails_11 : decode cX11_fails 11 = .ok (.iload_n 2, 1) := by decide +kernel
theorem dX11_fails_12 : decode cX11_fails 12 = .ok (.imul, 1) := by decide +kernel
theorem dX11_fails_13 : decode cX11_fails 13 = .ok (.iadd, 1) := by decide +kernel
theorem dX11_fails_14 : decode cX11_fails 14 = .ok (.putfield 187, 3) := by decide +kernel
theorem dX11_fails_17 : decode cX11_fails 17 = .ok (.return_, 1) := by decide +kernel
theorem dX11_number_0 : decode cX11_number 0 = .ok (.aload_n 0, 1) := by decide +kernel
theorem dX11_number_1 : decode cX11_number 1 = .ok (.invokevirtual 190, 3) := by decide +kernel
theorem dX11_number_4 : decode cX11_number 4 = .ok (.pop, 1) := by decide +kernel
theorem dX11_number_5 : decode cX11_number 5 = .ok (.aload_n 0, 1) := by decide +kernel
theorem dX11_number_6 : decode cX11_number 6 = .ok (.getfield 181, 3) := by decide +kernel
theorem dX11_number_9 : decode cX11_number 9 = .ok (.istore_n 3, 1) := by decide +kernel
theorem dX11_number_10 : decode cX11_number 10 = .ok (.lconst 0, 1) := by decide +kernel
theorem dX11_number_11 : decode cX11_number 11 = .ok (.lstore 4, 2) := by decide +kernel
theorem dX11_number_13 : decode cX11_number 13 = .ok (.aload_n 0, 1) := by decide +kernel
theorem dX11_number_14 : decode cX11_number 14 = .ok (.getfield 181, 3) := by decide +kernel
theorem dX11_number_17 : decode cX11_number 17 = .ok (.aload_n 0, 1) := by decide +kernel
theorem dX11_number_18 : decode cX11_number 18 = .ok (.getfield 184, 3) := by decide +kernel
theorem dX11_number_21 : decode cX11_number 21 = .ok (.if_icmp .ge 75, 3) := by decide +kernel
theorem dX11_number_24 : decode cX11_number 24 = .ok (.aload_n 0, 1) := by decide +kernel
theorem dX11_number_25 : decode cX11_number 25 = .ok (.getfield 45, 3) := by decide +kernel
theorem dX11_number_28 : decode cX11_number 28 = .ok (.aload_n 0, 1) := by decide +kernel
theorem dX11_number_29 : decode cX11_number 29 = .ok (.getfield 181, 3) := by decide +kernel
theorem dX11_number_32 : decode cX11_number 32 = .ok (.baload, 1) := by decide +kernel
theorem dX11_number_33 : decode cX11_number 33 = .ok (.i2l, 1) := by decide +kernel
theorem dX11_number_34 : decode cX11_number 34 = .ok (.ldc2_w 194, 3) := by decide +kernel
theorem dX11_number_37 : decode cX11_number 37 = .ok (.ldc2_w 196, 3) := by decide +kernel
theorem dX11_number_40 : decode cX11_number 40 = .ok (.invokestatic 171, 3) := by decide +kernel
theorem dX11_number_43 : decode cX11_number 43 = .ok (.ifCond .eq 53, 3) := by decide +kernel
theorem dX11_number_46 : decode cX11_number 46 = .ok (.lload 4, 2) := by decide +kernel
theorem dX11_number_48 : decode cX11_number 48 = .ok (.ldc2_w 198, 3) := by decide +kernel
theorem dX11_number_51 : decode cX11_number 51 = .ok (.lcmp, 1) := by decide +kernel
theorem dX11_number_52 : decode cX11_number 52 = .ok (.ifCond .le 8, 3) := by decide +kernel
theorem dX11_number_55 : decode cX11_number 55 = .ok (.lload 4, 2) := by decide +kernel
theorem dX11_number_57 : decode cX11_number 57 = .ok (.goto 24, 3) := by decide +kernel
theorem dX11_number_60 : decode cX11_number 60 = .ok (.ldc2_w 200, 3) := by decide +kernel
theorem dX11_number_63 : decode cX11_number 63 = .ok (.lload 4, 2) := by decide +kernel
theorem dX11_number_65 : decode cX11_number 65 = .ok (.lmul, 1) := by decide +kernel
theorem dX11_number_66 : decode cX11_number 66 = .ok (.aload_n 0, 1) := by decide +kernel
theorem dX11_number_67 : decode cX11_number 67 = .ok (.getfield 45, 3) := by decide +kernel
theorem dX11_number_70 : decode cX11_number 70 = .ok (.aload_n 0, 1) := by decide +kernel
theorem dX11_number_71 : decode cX11_number 71 = .ok (.getfield 181, 3) := by decide +kernel
theorem dX11_number_74 : decode cX11_number 74 = .ok (.baload, 1) := by decide +kernel
theorem dX11_number_75 : decode cX11_number 75 = .ok (.i2l, 1) := by decide +kernel
theorem dX11_number_76 : decode cX11_number 76 = .ok (.ladd, 1) := by decide +kernel
theorem dX11_number_77 : decode cX11_number 77 = .ok (.ldc2_w 194, 3) := by decide +kernel
theorem dX11_number_80 : decode cX11_number 80 = .ok (.lsub, 1) := by decide +kernel
theorem dX11_number_81 : decode cX11_number 81 = .ok (.lstore 4, 2) := by decide +kernel
theorem dX11_number_83 : decode cX11_number 83 = .ok (.aload_n 0, 1) := by decide +kernel
theorem dX11_number_84 : decode cX11_number 84 = .ok (.dup, 1) := by decide +kernel
theorem dX11_number_85 : decode cX11_number 85 = .ok (.getfield 181, 3) := by decide +kernel
theorem dX11_number_88 : decode cX11_number 88 = .ok (.iconst 1, 1) := by decide +kernel
theorem dX11_number_89 : decode cX11_number 89 = .ok (.iadd, 1) := by decide +kernel
theorem dX11_number_90 : decode cX11_number 90 = .ok (.putfield 181, 3) := by decide +kernel
theorem dX11_number_93 : decode cX11_number 93 = .ok (.goto (-80), 3) := by decide +kernel
theorem dX11_number_96 : decode cX11_number 96 = .ok (.lload 4, 2) := by decide +kernel
theorem dX11_number_98 : decode cX11_number 98 = .ok (.lload_n 1, 1) := by decide +kernel
theorem dX11_number_99 : decode cX11_number 99 = .ok (.lcmp, 1) := by decide +kernel
theorem dX11_number_100 : decode cX11_number 100 = .ok (.ifCond .le 9, 3) := by decide +kernel
theorem dX11_number_103 : decode cX11_number 103 = .ok (.aload_n 0, 1) := by decide +kernel
theorem dX11_number_104 : decode cX11_number 104 = .ok (.iconst 2, 1) := by decide +kernel
theorem dX11_number_105 : decode cX11_number 105 = .ok (.iload_n 3, 1) := by decide +kernel
theorem dX11_number_106 : decode cX11_number 106 = .ok (.invokevirtual 202, 3) := by decide +kernel
theorem dX11_number_109 : decode cX11_number 109 = .ok (.lload 4, 2) := by decide +kernel
theorem dX11_number_111 : decode cX11_number 111 = .ok (.lreturn, 1) := by decide +kernel
theorem dX11_isDigit_0 : decode cX11_isDigit 0 = .ok (.aload_n 0, 1) := by decide +kernel
theorem dX11_isDigit_1 : decode cX11_isDigit 1 = .ok (.invokevirtual 190, 3) := by decide +kernel
theorem dX11_isDigit_4 : decode cX11_isDigit 4 = .ok (.i2l, 1) := by decide +kernel
theorem dX11_isDigit_5 : decode cX11_isDigit 5 = .ok (.ldc2_w 194, 3) := by decide +kernel
theorem dX11_isDigit_8 : decode cX11_isDigit 8 = .ok (.ldc2_w 196, 3) := by decide +kernel
theorem dX11_isDigit_11 : decode cX11_isDigit 11 = .ok (.invokestatic 171, 3) := by decide +kernel
theorem dX11_isDigit_14 : decode cX11_isDigit 14 = .ok (.ireturn, 1) := by decide +kernel
theorem dX11_term_0 : decode cX11_term 0 = .ok (.aload_n 0, 1) := by decide +kernel
theorem dX11_term_1 : decode cX11_term 1 = .ok (.invokevirtual 205, 3) := by decide +kernel
theorem dX11_term_4 : decode cX11_term 4 = .ok (.ifCond .ne 22, 3) := by decide +kernel
theorem dX11_term_7 : decode cX11_term 7 = .ok (.aload_n 0, 1) := by decide +kernel
theorem dX11_term_8 : decode cX11_term 8 = .ok (.invokevirtual 190, 3) := by decide +kernel
theorem dX11_term_11 : decode cX11_term 11 = .ok (.bipush 120, 2) := by decide +kernel
theorem dX11_term_13 : decode cX11_term 13 = .ok (.if_icmp .eq 13, 3) := by decide +kernel
theorem dX11_term_16 : decode cX11_term 16 = .ok (.aload_n 0, 1) := by decide +kernel
theorem dX11_term_17 : decode cX11_term 17 = .ok (.iconst 1, 1) := by decide +kernel
theorem dX11_term_18 : decode cX11_term 18 = .ok (.aload_n 0, 1) := by decide +kernel
theorem dX11_term_19 : decode cX11_term 19 = .ok (.getfield 181, 3) := by decide +kernel
theorem dX11_term_22 : decode cX11_term 22 = .ok (.invokevirtual 202, 3) := by decide +kernel
theorem dX11_term_25 : decode cX11_term 25 = .ok (.return_, 1) := by decide +kernel
theorem dX11_term_26 : decode cX11_term 26 = .ok (.aload_n 0, 1) := by decide +kernel
theorem dX11_term_27 : decode cX11_term 27 = .ok (.invokevirtual 205, 3) := by decide +kernel
theorem dX11_term_30 : decode cX11_term 30 = .ok (.ifCond .eq 13, 3) := by decide +kernel
theorem dX11_term_33 : decode cX11_term 33 = .ok (.aload_n 0, 1) := by decide +kernel
theorem dX11_term_34 : decode cX11_term 34 = .ok (.ldc2_w 198, 3) := by decide +kernel
theorem dX11_term_37 : decode cX11_term 37 = .ok (.invokevirtual 209, 3) := by decide +kernel
theorem dX11_term_40 : decode cX11_term 40 = .ok (.goto 4, 3) := by decide +kernel
theorem dX11_term_43 : decode cX11_term 43 = .ok (.lconst 1, 1) := by decide +kernel
theorem dX11_term_44 : decode cX11_term 44 = .ok (.lstore_n 2, 1) := by decide +kernel
theorem dX11_term_45 : decode cX11_term 45 = .ok (.iconst 0, 1) := by decide +kernel
theorem dX11_term_46 : decode cX11_term 46 = .ok (.istore 4, 2) := by decide +kernel
theorem dX11_term_48 : decode cX11_term 48 = .ok (.aload_n 0, 1) := by decide +kernel
theorem dX11_term_49 : decode cX11_term 49 = .ok (.getfield 187, 3) := by decide +kernel
theorem dX11_term_52 : decode cX11_term 52 = .ok (.ifCond .ne 70, 3) := by decide +kernel
theorem dX11_term_55 : decode cX11_term 55 = .ok (.aload_n 0, 1) := by decide +kernel
theorem dX11_term_56 : decode cX11_term 56 = .ok (.invokevirtual 190, 3) := by decide +kernel
theorem dX11_term_59 : decode cX11_term 59 = .ok (.bipush 120, 2) := by decide +kernel
theorem dX11_term_61 : decode cX11_term 61 = .ok (.if_icmp .ne 61, 3) := by decide +kernel
theorem dX11_term_64 : decode cX11_term 64 = .ok (.aload_n 0, 1) := by decide +kernel
theorem dX11_term_65 : decode cX11_term 65 = .ok (.dup, 1) := by decide +kernel
theorem dX11_term_66 : decode cX11_term 66 = .ok (.getfield 181, 3) := by decide +kernel
theorem dX11_term_69 : decode cX11_term 69 = .ok (.iconst 1, 1) := by decide +kernel
theorem dX11_term_70 : decode cX11_term 70 = .ok (.iadd, 1) := by decide +kernel
theorem dX11_term_71 : decode cX11_term 71 = .ok (.putfield 181, 3) := by decide +kernel
theorem dX11_term_74 : decode cX11_term 74 = .ok (.iconst 1, 1) := by decide +kernel
theorem dX11_term_75 : decode cX11_term 75 = .ok (.istore 4, 2) := by decide +kernel
theorem dX11_term_77 : decode cX11_term 77 = .ok (.aload_n 0, 1) := by decide +kernel
theorem dX11_term_78 : decode cX11_term 78 = .ok (.invokevirtual 190, 3) := by decide +kernel
theorem dX11_term_81 : decode cX11_term 81 = .ok (.bipush 94, 2) := by decide +kernel
theorem dX11_term_83 : decode cX11_term 83 = .ok (.if_icmp .ne 39, 3) := by decide +kernel
theorem dX11_term_86 : decode cX11_term 86 = .ok (.aload_n 0, 1) := by decide +kernel
theorem dX11_term_87 : decode cX11_term 87 = .ok (.dup, 1) := by decide +kernel
theorem dX11_term_88 : decode cX11_term 88 = .ok (.getfield 181, 3) := by decide +kernel
theorem dX11_term_91 : decode cX11_term 91 = .ok (.iconst 1, 1) := by decide +kernel
theorem dX11_term_92 : decode cX11_term 92 = .ok (.iadd, 1) := by decide +kernel
theorem dX11_term_93 : decode cX11_term 93 = .ok (.putfield 181, 3) := by decide +kernel
theorem dX11_term_96 : decode cX11_term 96 = .ok (.aload_n 0, 1) := by decide +kernel
theorem dX11_term_97 : decode cX11_term 97 = .ok (.invokevirtual 205, 3) := by decide +kernel
theorem dX11_term_100 : decode cX11_term 100 = .ok (.ifCond .ne 12, 3) := by decide +kernel
theorem dX11_term_103 : decode cX11_term 103 = .ok (.aload_n 0, 1) := by decide +kernel
theorem dX11_term_104 : decode cX11_term 104 = .ok (.iconst 1, 1) := by decide +kernel
theorem dX11_term_105 : decode cX11_term 105 = .ok (.aload_n 0, 1) := by decide +kernel
theorem dX11_term_106 : decode cX11_term 106 = .ok (.getfield 181, 3) := by decide +kernel
theorem dX11_term_109 : decode cX11_term 109 = .ok (.invokevirtual 202, 3) := by decide +kernel
theorem dX11_term_112 : decode cX11_term 112 = .ok (.aload_n 0, 1) := by decide +kernel
theorem dX11_term_113 : decode cX11_term 113 = .ok (.ldc2_w 212, 3) := by decide +kernel
theorem dX11_term_116 : decode cX11_term 116 = .ok (.invokevirtual 209, 3) := by decide +kernel
theorem dX11_term_119 : decode cX11_term 119 = .ok (.l2i, 1) := by decide +kernel
theorem dX11_term_120 : decode cX11_term 120 = .ok (.istore 4, 2) := by decide +kernel
theorem dX11_term_122 : decode cX11_term 122 = .ok (.aload_n 0, 1) := by decide +kernel
theorem dX11_term_123 : decode cX11_term 123 = .ok (.getfield 187, 3) := by decide +kernel
theorem dX11_term_126 : decode cX11_term 126 = .ok (.ifCond .ne 30, 3) := by decide +kernel
theorem dX11_term_129 : decode cX11_term 129 = .ok (.aload_n 0, 1) := by decide +kernel
theorem dX11_term_130 : decode cX11_term 130 = .ok (.bipush 21, 2) := by decide +kernel
theorem dX11_term_132 : decode cX11_term 132 = .ok (.iload 4, 2) := by decide +kernel
theorem dX11_term_134 : decode cX11_term 134 = .ok (.aload_n 0, 1) := by decide +kernel
theorem dX11_term_135 : decode cX11_term 135 = .ok (.bipush 21, 2) := by decide +kernel
theorem dX11_term_137 : decode cX11_term 137 = .ok (.iload 4, 2) := by decide +kernel
theorem dX11_term_139 : decode cX11_term 139 = .ok (.invokevirtual 106, 3) := by decide +kernel
theorem dX11_term_142 : decode cX11_term 142 = .ok (.iload_n 1, 1) := by decide +kernel
theorem dX11_term_143 : decode cX11_term 143 = .ok (.ifCond .eq 8, 3) := by decide +kernel
theorem dX11_term_146 : decode cX11_term 146 = .ok (.lload_n 2, 1) := by decide +kernel
theorem dX11_term_147 : decode cX11_term 147 = .ok (.lneg, 1) := by decide +kernel
theorem dX11_term_148 : decode cX11_term 148 = .ok (.goto 4, 3) := by decide +kernel
theorem dX11_term_151 : decode cX11_term 151 = .ok (.lload_n 2, 1) := by decide +kernel
theorem dX11_term_152 : decode cX11_term 152 = .ok (.ladd, 1) := by decide +kernel
theorem dX11_term_153 : decode cX11_term 153 = .ok (.invokevirtual 130, 3) := by decide +kernel
theorem dX11_term_156 : decode cX11_term 156 = .ok (.return_, 1) := by decide +kernel
theorem dX11_isPoly_0 : decode cX11_isPoly 0 = .ok (.iconst 0, 1) := by decide +kernel
theorem dX11_isPoly_1 : decode cX11_isPoly 1 = .ok (.istore_n 2, 1) := by decide +kernel
theorem dX11_isPoly_2 : decode cX11_isPoly 2 = .ok (.iload_n 2, 1) := by decide +kernel
theorem dX11_isPoly_3 : decode cX11_isPoly 3 = .ok (.bipush 9, 2) := by decide +kernel
theorem dX11_isPoly_5 : decode cX11_isPoly 5 = .ok (.if_icmp .ge 27, 3) := by decide +kernel
theorem dX11_isPoly_8 : decode cX11_isPoly 8 = .ok (.aload_n 0, 1) := by decide +kernel
theorem dX11_isPoly_9 : decode cX11_isPoly 9 = .ok (.iload_n 1, 1) := by decide +kernel
theorem dX11_isPoly_10 : decode cX11_isPoly 10 = .ok (.iload_n 2, 1) := by decide +kernel
theorem dX11_isPoly_11 : decode cX11_isPoly 11 = .ok (.invokevirtual 106, 3) := by decide +kernel
theorem dX11_isPoly_14 : decode cX11_isPoly 14 = .ok (.invokestatic 53, 3) := by decide +kernel
theorem dX11_isPoly_17 : decode cX11_isPoly 17 = .ok (.ldc2_w 198, 3) := by decide +kernel
theorem dX11_isPoly_20 : decode cX11_isPoly 20 = .ok (.lcmp, 1) := by decide +kernel
theorem dX11_isPoly_21 : decode cX11_isPoly 21 = .ok (.ifCond .le 5, 3) := by decide +kernel
theorem dX11_isPoly_24 : decode cX11_isPoly 24 = .ok (.iconst 0, 1) := by decide +kernel
theorem dX11_isPoly_25 : decode cX11_isPoly 25 = .ok (.ireturn, 1) := by decide +kernel
theorem dX11_isPoly_26 : decode cX11_isPoly 26 = .ok (.iinc 2 1, 3) := by decide +kernel
theorem dX11_isPoly_29 : decode cX11_isPoly 29 = .ok (.goto (-27), 3) := by decide +kernel
theorem dX11_isPoly_32 : decode cX11_isPoly 32 = .ok (.iconst 1, 1) := by decide +kernel
theorem dX11_isPoly_33 : decode cX11_isPoly 33 = .ok (.ireturn, 1) := by decide +kernel
theorem dX11_read_0 : decode cX11_read 0 = .ok (.aload_n 0, 1) := by decide +kernel
theorem dX11_read_1 : decode cX11_read 1 = .ok (.iconst 0, 1) := by decide +kernel
theorem dX11_read_2 : decode cX11_read 2 = .ok (.putfield 49, 3) := by decide +kernel
theorem dX11_read_5 : decode cX11_read 5 = .ok (.aload_n 0, 1) := by decide +kernel
theorem dX11_read_6 : decode cX11_read 6 = .ok (.iload_n 1, 1) := by decide +kernel
theorem dX11_read_7 : decode cX11_read 7 = .ok (.invokevirtual 214, 3) := by decide +kernel
theorem dX11_read_10 : decode cX11_read 10 = .ok (.ifCond .ne 5, 3) := by decide +kernel
theorem dX11_read_13 : decode cX11_read 13 = .ok (.iconst 0, 1) := by decide +kernel
theorem dX11_read_14 : decode cX11_read 14 = .ok (.ireturn, 1) := by decide +kernel
theorem dX11_read_15 : decode cX11_read 15 = .ok (.aload_n 0, 1) := by decide +kernel
theorem dX11_read_16 : decode cX11_read 16 = .ok (.aload_n 0, 1) := by decide +kernel
theorem dX11_read_17 : decode cX11_read 17 = .ok (.getfield 175, 3) := by decide +kernel
theorem dX11_read_20 : decode cX11_read 20 = .ok (.putfield 184, 3) := by decide +kernel
theorem dX11_read_23 : decode cX11_read 23 = .ok (.aload_n 0, 1) := by decide +kernel
theorem dX11_read_24 : decode cX11_read 24 = .ok (.iconst 0, 1) := by decide +kernel
theorem dX11_read_25 : decode cX11_read 25 = .ok (.putfield 175, 3) := by decide +kernel
theorem dX11_read_28 : decode cX11_read 28 = .ok (.aload_n 0, 1) := by decide +kernel
theorem dX11_read_29 : decode cX11_read 29 = .ok (.iconst 0, 1) := by decide +kernel
theorem dX11_read_30 : decode cX11_read 30 = .ok (.putfield 187, 3) := by decide +kernel
theorem dX11_read_33 : decode cX11_read 33 = .ok (.aload_n 0, 1) := by decide +kernel
theorem dX11_read_34 : decode cX11_read 34 = .ok (.iconst 0, 1) := by decide +kernel
theorem dX11_read_35 : decode cX11_read 35 = .ok (.putfield 181, 3) := by decide +kernel
theorem dX11_read_38 : decode cX11_read 38 = .ok (.iconst 0, 1) := by decide +kernel
theorem dX11_read_39 : decode cX11_read 39 = .ok (.istore_n 2, 1) := by decide +kernel
theorem dX11_read_40 : decode cX11_read 40 = .ok (.iload_n 2, 1) := by decide +kernel
theorem dX11_read_41 : decode cX11_read 41 = .ok (.bipush 9, 2) := by decide +kernel
theorem dX11_read_43 : decode cX11_read 43 = .ok (.if_icmp .ge 17, 3) := by decide +kernel
theorem dX11_read_46 : decode cX11_read 46 = .ok (.aload_n 0, 1) := by decide +kernel
theorem dX11_read_47 : decode cX11_read 47 = .ok (.bipush 21, 2) := by decide +kernel
theorem dX11_read_49 : decode cX11_read 49 = .ok (.iload_n 2, 1) := by decide +kernel
theorem dX11_read_50 : decode cX11_read 50 = .ok (.lconst 0, 1) := by decide +kernel
theorem dX11_read_51 : decode cX11_read 51 = .ok (.invokevirtual 130, 3) := by decide +kernel
theorem dX11_read_54 : decode cX11_read 54 = .ok (.iinc 2 1, 3) := by decide +kernel
theorem dX11_read_57 : decode cX11_read 57 = .ok (.goto (-17), 3) := by decide +kernel
theorem dX11_read_60 : decode cX11_read 60 = .ok (.aload_n 0, 1) := by decide +kernel
theorem dX11_read_61 : decode cX11_read 61 = .ok (.invokevirtual 190, 3) := by decide +kernel
theorem dX11_read_64 : decode cX11_read 64 = .ok (.bipush 45, 2) := by decide +kernel
theorem dX11_read_66 : decode cX11_read 66 = .ok (.if_icmp .ne 7, 3) := by decide +kernel
theorem dX11_read_69 : decode cX11_read 69 = .ok (.iconst 1, 1) := by decide +kernel
theorem dX11_read_70 : decode cX11_read 70 = .ok (.goto 4, 3) := by decide +kernel
theorem dX11_read_73 : decode cX11_read 73 = .ok (.iconst 0, 1) := by decide +kernel
theorem dX11_read_74 : decode cX11_read 74 = .ok (.istore_n 2, 1) := by decide +kernel
theorem dX11_read_75 : decode cX11_read 75 = .ok (.aload_n 0, 1) := by decide +kernel
theorem dX11_read_76 : decode cX11_read 76 = .ok (.dup, 1) := by decide +kernel
theorem dX11_read_77 : decode cX11_read 77 = .ok (.getfield 181, 3) := by decide +kernel
theorem dX11_read_80 : decode cX11_read 80 = .ok (.iload_n 2, 1) := by decide +kernel
theorem dX11_read_81 : decode cX11_read 81 = .ok (.ifCond .eq 7, 3) := by decide +kernel
theorem dX11_read_84 : decode cX11_read 84 = .ok (.iconst 1, 1) := by decide +kernel
theorem dX11_read_85 : decode cX11_read 85 = .ok (.goto 4, 3) := by decide +kernel
theorem dX11_read_88 : decode cX11_read 88 = .ok (.iconst 0, 1) := by decide +kernel
theorem dX11_read_89 : decode cX11_read 89 = .ok (.iadd, 1) := by decide +kernel
theorem dX11_read_90 : decode cX11_read 90 = .ok (.putfield 181, 3) := by decide +kernel
theorem dX11_read_93 : decode cX11_read 93 = .ok (.aload_n 0, 1) := by decide +kernel
theorem dX11_read_94 : decode cX11_read 94 = .ok (.iload_n 2, 1) := by decide +kernel
theorem dX11_read_95 : decode cX11_read 95 = .ok (.invokevirtual 218, 3) := by decide +kernel
theorem dX11_read_98 : decode cX11_read 98 = .ok (.aload_n 0, 1) := by decide +kernel
theorem dX11_read_99 : decode cX11_read 99 = .ok (.getfield 187, 3) := by decide +kernel
theorem dX11_read_102 : decode cX11_read 102 = .ok (.ifCond .ne 54, 3) := by decide +kernel
theorem dX11_read_105 : decode cX11_read 105 = .ok (.aload_n 0, 1) := by decide +kernel
theorem dX11_read_106 : decode cX11_read 106 = .ok (.invokevirtual 190, 3) := by decide +kernel
theorem dX11_read_109 : decode cX11_read 109 = .ok (.bipush 43, 2) := by decide +kernel
theorem dX11_read_111 : decode cX11_read 111 = .ok (.if_icmp .eq 12, 3) := by decide +kernel
theorem dX11_read_114 : decode cX11_read 114 = .ok (.aload_n 0, 1) := by decide +kernel
theorem dX11_read_115 : decode cX11_read 115 = .ok (.invokevirtual 190, 3) := by decide +kernel
theorem dX11_read_118 : decode cX11_read 118 = .ok (.bipush 45, 2) := by decide +kernel
theorem dX11_read_120 : decode cX11_read 120 = .ok (.if_icmp .ne 36, 3) := by decide +kernel
theorem dX11_read_123 : decode cX11_read 123 = .ok (.aload_n 0, 1) := by decide +kernel
theorem dX11_read_124 : decode cX11_read 124 = .ok (.invokevirtual 190, 3) := by decide +kernel
theorem dX11_read_127 : decode cX11_read 127 = .ok (.bipush 45, 2) := by decide +kernel
theorem dX11_read_129 : decode cX11_read 129 = .ok (.if_icmp .ne 7, 3) := by decide +kernel
theorem dX11_read_132 : decode cX11_read 132 = .ok (.iconst 1, 1) := by decide +kernel
theorem dX11_read_133 : decode cX11_read 133 = .ok (.goto 4, 3) := by decide +kernel
theorem dX11_read_136 : decode cX11_read 136 = .ok (.iconst 0, 1) := by decide +kernel
theorem dX11_read_137 : decode cX11_read 137 = .ok (.istore_n 2, 1) := by decide +kernel
theorem dX11_read_138 : decode cX11_read 138 = .ok (.aload_n 0, 1) := by decide +kernel
theorem dX11_read_139 : decode cX11_read 139 = .ok (.dup, 1) := by decide +kernel
theorem dX11_read_140 : decode cX11_read 140 = .ok (.getfield 181, 3) := by decide +kernel
theorem dX11_read_143 : decode cX11_read 143 = .ok (.iconst 1, 1) := by decide +kernel
theorem dX11_read_144 : decode cX11_read 144 = .ok (.iadd, 1) := by decide +kernel
theorem dX11_read_145 : decode cX11_read 145 = .ok (.putfield 181, 3) := by decide +kernel
theorem dX11_read_148 : decode cX11_read 148 = .ok (.aload_n 0, 1) := by decide +kernel
theorem dX11_read_149 : decode cX11_read 149 = .ok (.iload_n 2, 1) := by decide +kernel
theorem dX11_read_150 : decode cX11_read 150 = .ok (.invokevirtual 218, 3) := by decide +kernel
theorem dX11_read_153 : decode cX11_read 153 = .ok (.goto (-55), 3) := by decide +kernel
theorem dX11_read_156 : decode cX11_read 156 = .ok (.aload_n 0, 1) := by decide +kernel
theorem dX11_read_157 : decode cX11_read 157 = .ok (.getfield 187, 3) := by decide +kernel
theorem dX11_read_160 : decode cX11_read 160 = .ok (.ifCond .ne 20, 3) := by decide +kernel
theorem dX11_read_163 : decode cX11_read 163 = .ok (.aload_n 0, 1) := by decide +kernel
theorem dX11_read_164 : decode cX11_read 164 = .ok (.invokevirtual 190, 3) := by decide +kernel
theorem dX11_read_167 : decode cX11_read 167 = .ok (.iconst (-1), 1) := by decide +kernel
theorem dX11_read_168 : decode cX11_read 168 = .ok (.if_icmp .eq 12, 3) := by decide +kernel
theorem dX11_read_171 : decode cX11_read 171 = .ok (.aload_n 0, 1) := by decide +kernel
theorem dX11_read_172 : decode cX11_read 172 = .ok (.iconst 1, 1) := by decide +kernel
theorem dX11_read_173 : decode cX11_read 173 = .ok (.aload_n 0, 1) := by decide +kernel
theorem dX11_read_174 : decode cX11_read 174 = .ok (.getfield 181, 3) := by decide +kernel
theorem dX11_read_177 : decode cX11_read 177 = .ok (.invokevirtual 202, 3) := by decide +kernel
theorem dX11_read_180 : decode cX11_read 180 = .ok (.aload_n 0, 1) := by decide +kernel
theorem dX11_read_181 : decode cX11_read 181 = .ok (.getfield 187, 3) := by decide +kernel
theorem dX11_read_184 : decode cX11_read 184 = .ok (.ifCond .ne 21, 3) := by decide +kernel
theorem dX11_read_187 : decode cX11_read 187 = .ok (.aload_n 0, 1) := by decide +kernel
theorem dX11_read_188 : decode cX11_read 188 = .ok (.bipush 21, 2) := by decide +kernel
theorem dX11_read_190 : decode cX11_read 190 = .ok (.invokevirtual 222, 3) := by decide +kernel
theorem dX11_read_193 : decode cX11_read 193 = .ok (.ifCond .ne 12, 3) := by decide +kernel
theorem dX11_read_196 : decode cX11_read 196 = .ok (.aload_n 0, 1) := by decide +kernel
theorem dX11_read_197 : decode cX11_read 197 = .ok (.iconst 3, 1) := by decide +kernel
theorem dX11_read_198 : decode cX11_read 198 = .ok (.aload_n 0, 1) := by decide +kernel
theorem dX11_read_199 : decode cX11_read 199 = .ok (.getfield 184, 3) := by decide +kernel
theorem dX11_read_202 : decode cX11_read 202 = .ok (.invokevirtual 202, 3) := by decide +kernel
theorem dX11_read_205 : decode cX11_read 205 = .ok (.aload_n 0, 1) := by decide +kernel
theorem dX11_read_206 : decode cX11_read 206 = .ok (.getfield 187, 3) := by decide +kernel
theorem dX11_read_209 : decode cX11_read 209 = .ok (.ifCond .ne 15, 3) := by decide +kernel
theorem dX11_read_212 : decode cX11_read 212 = .ok (.aload_n 0, 1) := by decide +kernel
theorem dX11_read_213 : decode cX11_read 213 = .ok (.iload_n 1, 1) := by decide +kernel
theorem dX11_read_214 : decode cX11_read 214 = .ok (.invokevirtual 225, 3) := by decide +kernel
theorem dX11_read_217 : decode cX11_read 217 = .ok (.ifCond .eq 7, 3) := by decide +kernel
theorem dX11_read_220 : decode cX11_read 220 = .ok (.iconst 1, 1) := by decide +kernel
theorem dX11_read_221 : decode cX11_read 221 = .ok (.goto 4, 3) := by decide +kernel
theorem dX11_read_224 : decode cX11_read 224 = .ok (.iconst 0, 1) := by decide +kernel
theorem dX11_read_225 : decode cX11_read 225 = .ok (.ireturn, 1) := by decide +kernel
theorem dX11_comes_0 : decode cX11_comes 0 = .ok (.aload_n 0, 1) := by decide +kernel
theorem dX11_comes_1 : decode cX11_comes 1 = .ok (.bipush 21, 2) := by decide +kernel
theorem dX11_comes_3 : decode cX11_comes 3 = .ok (.invokevirtual 222, 3) := by decide +kernel
theorem dX11_comes_6 : decode cX11_comes 6 = .ok (.ifCond .ne 5, 3) := by decide +kernel
theorem dX11_comes_9 : decode cX11_comes 9 = .ok (.iconst 0, 1) := by decide +kernel
theorem dX11_comes_10 : decode cX11_comes 10 = .ok (.ireturn, 1) := by decide +kernel
theorem dX11_comes_11 : decode cX11_comes 11 = .ok (.iconst 0, 1) := by decide +kernel
theorem dX11_comes_12 : decode cX11_comes 12 = .ok (.istore_n 2, 1) := by decide +kernel
theorem dX11_comes_13 : decode cX11_comes 13 = .ok (.iload_n 2, 1) := by decide +kernel
theorem dX11_comes_14 : decode cX11_comes 14 = .ok (.bipush 9, 2) := by decide +kernel
theorem dX11_comes_16 : decode cX11_comes 16 = .ok (.if_icmp .ge 22, 3) := by decide +kernel
theorem dX11_comes_19 : decode cX11_comes 19 = .ok (.aload_n 0, 1) := by decide +kernel
theorem dX11_comes_20 : decode cX11_comes 20 = .ok (.iload_n 1, 1) := by decide +kernel
theorem dX11_comes_21 : decode cX11_comes 21 = .ok (.iload_n 2, 1) := by decide +kernel
theorem dX11_comes_22 : decode cX11_comes 22 = .ok (.aload_n 0, 1) := by decide +kernel
theorem dX11_comes_23 : decode cX11_comes 23 = .ok (.bipush 21, 2) := by decide +kernel
theorem dX11_comes_25 : decode cX11_comes 25 = .ok (.iload_n 2, 1) := by decide +kernel
theorem dX11_comes_26 : decode cX11_comes 26 = .ok (.invokevirtual 106, 3) := by decide +kernel
theorem dX11_comes_29 : decode cX11_comes 29 = .ok (.invokevirtual 130, 3) := by decide +kernel
theorem dX11_comes_32 : decode cX11_comes 32 = .ok (.iinc 2 1, 3) := by decide +kernel
theorem dX11_comes_35 : decode cX11_comes 35 = .ok (.goto (-22), 3) := by decide +kernel
theorem dX11_comes_38 : decode cX11_comes 38 = .ok (.iconst 1, 1) := by decide +kernel
theorem dX11_comes_39 : decode cX11_comes 39 = .ok (.ireturn, 1) := by decide +kernel
theorem dX11_fault_0 : decode cX11_fault 0 = .ok (.aload_n 0, 1) := by decide +kernel
theorem dX11_fault_1 : decode cX11_fault 1 = .ok (.iconst 0, 1) := by decide +kernel
theorem dX11_fault_2 : decode cX11_fault 2 = .ok (.putfield 49, 3) := by decide +kernel
theorem dX11_fault_5 : decode cX11_fault 5 = .ok (.aload_n 0, 1) := by decide +kernel
theorem dX11_fault_6 : decode cX11_fault 6 = .ok (.getfield 187, 3) := by decide +kernel
theorem dX11_fault_9 : decode cX11_fault 9 = .ok (.ireturn, 1) := by decide +kernel
theorem dX11_put__0 : decode cX11_put_ 0 = .ok (.aload_n 0, 1) := by decide +kernel
theorem dX11_put__1 : decode cX11_put_ 1 = .ok (.iconst 0, 1) := by decide +kernel
theorem dX11_put__2 : decode cX11_put_ 2 = .ok (.putfield 49, 3) := by decide +kernel
theorem dX11_put__5 : decode cX11_put_ 5 = .ok (.aload_n 0, 1) := by decide +kernel
theorem dX11_put__6 : decode cX11_put_ 6 = .ok (.iload_n 1, 1) := by decide +kernel
theorem dX11_put__7 : decode cX11_put_ 7 = .ok (.invokevirtual 214, 3) := by decide +kernel
theorem dX11_put__10 : decode cX11_put_ 10 = .ok (.ifCond .eq 29, 3) := by decide +kernel
theorem dX11_put__13 : decode cX11_put_ 13 = .ok (.iload_n 2, 1) := by decide +kernel
theorem dX11_put__14 : decode cX11_put_ 14 = .ok (.i2l, 1) := by decide +kernel
theorem dX11_put__15 : decode cX11_put_ 15 = .ok (.lconst 0, 1) := by decide +kernel
theorem dX11_put__16 : decode cX11_put_ 16 = .ok (.ldc2_w 212, 3) := by decide +kernel
theorem dX11_put__19 : decode cX11_put_ 19 = .ok (.invokestatic 171, 3) := by decide +kernel
theorem dX11_put__22 : decode cX11_put_ 22 = .ok (.ifCond .eq 17, 3) := by decide +kernel
theorem dX11_put__25 : decode cX11_put_ 25 = .ok (.iload_n 3, 1) := by decide +kernel
theorem dX11_put__26 : decode cX11_put_ 26 = .ok (.i2l, 1) := by decide +kernel
theorem dX11_put__27 : decode cX11_put_ 27 = .ok (.ldc2_w 228, 3) := by decide +kernel
theorem dX11_put__30 : decode cX11_put_ 30 = .ok (.ldc2_w 198, 3) := by decide +kernel
theorem dX11_put__33 : decode cX11_put_ 33 = .ok (.invokestatic 171, 3) := by decide +kernel
theorem dX11_put__36 : decode cX11_put_ 36 = .ok (.ifCond .ne 5, 3) := by decide +kernel
theorem dX11_put__39 : decode cX11_put_ 39 = .ok (.iconst 0, 1) := by decide +kernel
theorem dX11_put__40 : decode cX11_put_ 40 = .ok (.ireturn, 1) := by decide +kernel
theorem dX11_put__41 : decode cX11_put_ 41 = .ok (.aload_n 0, 1) := by decide +kernel
theorem dX11_put__42 : decode cX11_put_ 42 = .ok (.iload_n 1, 1) := by decide +kernel
theorem dX11_put__43 : decode cX11_put_ 43 = .ok (.iload_n 2, 1) := by decide +kernel
theorem dX11_put__44 : decode cX11_put_ 44 = .ok (.iload_n 3, 1) := by decide +kernel
theorem dX11_put__45 : decode cX11_put_ 45 = .ok (.i2l, 1) := by decide +kernel
theorem dX11_put__46 : decode cX11_put_ 46 = .ok (.invokevirtual 130, 3) := by decide +kernel
theorem dX11_put__49 : decode cX11_put_ 49 = .ok (.iconst 1, 1) := by decide +kernel
theorem dX11_put__50 : decode cX11_put_ 50 = .ok (.ireturn, 1) := by decide +kernel
theorem dX11_numberAt_0 : decode cX11_numberAt 0 = .ok (.iload_n 2, 1) := by decide +kernel
theorem dX11_numberAt_1 : decode cX11_numberAt 1 = .ok (.i2l, 1) := by decide +kernel
theorem dX11_numberAt_2 : decode cX11_numberAt 2 = .ok (.lconst 0, 1) := by decide +kernel
theorem dX11_numberAt_3 : decode cX11_numberAt 3 = .ok (.ldc2_w 212, 3) := by decide +kernel
theorem dX11_numberAt_6 : decode cX11_numberAt 6 = .ok (.invokestatic 171, 3) := by decide +kernel
theorem dX11_numberAt_9 : decode cX11_numberAt 9 = .ok (.ifCond .eq 12, 3) := by decide +kernel
theorem dX11_numberAt_12 : decode cX11_numberAt 12 = .ok (.aload_n 0, 1) := by decide +kernel
theorem dX11_numberAt_13 : decode cX11_numberAt 13 = .ok (.iload_n 1, 1) := by decide +kernel
theorem dX11_numberAt_14 : decode cX11_numberAt 14 = .ok (.iload_n 2, 1) := by decide +kernel
theorem dX11_numberAt_15 : decode cX11_numberAt 15 = .ok (.invokevirtual 106, 3) := by decide +kernel
theorem dX11_numberAt_18 : decode cX11_numberAt 18 = .ok (.goto 4, 3) := by decide +kernel
theorem dX11_numberAt_21 : decode cX11_numberAt 21 = .ok (.lconst 0, 1) := by decide +kernel
theorem dX11_numberAt_22 : decode cX11_numberAt 22 = .ok (.lreturn, 1) := by decide +kernel
theorem dX11_scaled_0 : decode cX11_scaled 0 = .ok (.aload_n 0, 1) := by decide +kernel
theorem dX11_scaled_1 : decode cX11_scaled 1 = .ok (.iload_n 1, 1) := by decide +kernel
theorem dX11_scaled_2 : decode cX11_scaled 2 = .ok (.iload_n 2, 1) := by decide +kernel
theorem dX11_scaled_3 : decode cX11_scaled 3 = .ok (.invokevirtual 106, 3) := by decide +kernel
theorem dX11_scaled_6 : decode cX11_scaled 6 = .ok (.lstore 4, 2) := by decide +kernel
theorem dX11_scaled_8 : decode cX11_scaled 8 = .ok (.iconst 0, 1) := by decide +kernel
theorem dX11_scaled_9 : decode cX11_scaled 9 = .ok (.istore 6, 2) := by decide +kernel
theorem dX11_scaled_11 : decode cX11_scaled 11 = .ok (.iload 6, 2) := by decide +kernel
theorem dX11_scaled_13 : decode cX11_scaled 13 = .ok (.iload_n 2, 1) := by decide +kernel
theorem dX11_scaled_14 : decode cX11_scaled 14 = .ok (.if_icmp .ge 28, 3) := by decide +kernel
theorem dX11_scaled_17 : decode cX11_scaled 17 = .ok (.lload 4, 2) := by decide +kernel
theorem dX11_scaled_19 : decode cX11_scaled 19 = .ok (.invokestatic 53, 3) := by decide +kernel
theorem dX11_scaled_22 : decode cX11_scaled 22 = .ok (.ldc2_w 198, 3) := by decide +kernel
theorem dX11_scaled_25 : decode cX11_scaled 25 = .ok (.lcmp, 1) := by decide +kernel
theorem dX11_scaled_26 : decode cX11_scaled 26 = .ok (.ifCond .gt 16, 3) := by decide +kernel
theorem dX11_scaled_29 : decode cX11_scaled 29 = .ok (.lload 4, 2) := by decide +kernel
theorem dX11_scaled_31 : decode cX11_scaled 31 = .ok (.iload_n 3, 1) := by decide +kernel
theorem dX11_scaled_32 : decode cX11_scaled 32 = .ok (.i2l, 1) := by decide +kernel
theorem dX11_scaled_33 : decode cX11_scaled 33 = .ok (.lmul, 1) := by decide +kernel
theorem dX11_scaled_34 : decode cX11_scaled 34 = .ok (.lstore 4, 2) := by decide +kernel
theorem dX11_scaled_36 : decode cX11_scaled 36 = .ok (.iinc 6 1, 3) := by decide +kernel
theorem dX11_scaled_39 : decode cX11_scaled 39 = .ok (.goto (-28), 3) := by decide +kernel
theorem dX11_scaled_42 : decode cX11_scaled 42 = .ok (.lload 4, 2) := by decide +kernel
theorem dX11_scaled_44 : decode cX11_scaled 44 = .ok (.lreturn, 1) := by decide +kernel
theorem dX11_moves_0 : decode cX11_moves 0 = .ok (.aload_n 0, 1) := by decide +kernel
theorem dX11_moves_1 : decode cX11_moves 1 = .ok (.bipush 36, 2) := by decide +kernel
theorem dX11_moves_3 : decode cX11_moves 3 = .ok (.iload_n 1, 1) := by decide +kernel
theorem dX11_moves_4 : decode cX11_moves 4 = .ok (.invokevirtual 114, 3) := by decide +kernel
theorem dX11_moves_7 : decode cX11_moves 7 = .ok (.aload_n 0, 1) := by decide +kernel
theorem dX11_moves_8 : decode cX11_moves 8 = .ok (.iconst 0, 1) := by decide +kernel
theorem dX11_moves_9 : decode cX11_moves 9 = .ok (.iload_n 2, 1) := by decide +kernel
theorem dX11_moves_10 : decode cX11_moves 10 = .ok (.i2l, 1) := by decide +kernel
theorem dX11_moves_11 : decode cX11_moves 11 = .ok (.invokevirtual 74, 3) := by decide +kernel
theorem dX11_moves_14 : decode cX11_moves 14 = .ok (.iconst 0, 1) := by decide +kernel
theorem dX11_moves_15 : decode cX11_moves 15 = .ok (.istore_n 3, 1) := by decide +kernel
theorem dX11_moves_16 : decode cX11_moves 16 = .ok (.iload_n 3, 1) := by decide +kernel
theorem dX11_moves_17 : decode cX11_moves 17 = .ok (.bipush 8, 2) := by decide +kernel
theorem dX11_moves_19 : decode cX11_moves 19 = .ok (.if_icmp .ge 60, 3) := by decide +kernel
theorem dX11_moves_22 : decode cX11_moves 22 = .ok (.bipush 7, 2) := by decide +kernel
theorem dX11_moves_24 : decode cX11_moves 24 = .ok (.istore 4, 2) := by decide +kernel
theorem dX11_moves_26 : decode cX11_moves 26 = .ok (.iload 4, 2) := by decide +kernel
theorem dX11_moves_28 : decode cX11_moves 28 = .ok (.iload_n 3, 1) := by decide +kernel
theorem dX11_moves_29 : decode cX11_moves 29 = .ok (.if_icmp .lt 44, 3) := by decide +kernel
theorem dX11_moves_32 : decode cX11_moves 32 = .ok (.aload_n 0, 1) := by decide +kernel
theorem dX11_moves_33 : decode cX11_moves 33 = .ok (.iconst 1, 1) := by decide +kernel
theorem dX11_moves_34 : decode cX11_moves 34 = .ok (.bipush 36, 2) := by decide +kernel
theorem dX11_moves_36 : decode cX11_moves 36 = .ok (.iload 4, 2) := by decide +kernel
theorem dX11_moves_38 : decode cX11_moves 38 = .ok (.iconst 1, 1) := by decide +kernel
theorem dX11_moves_39 : decode cX11_moves 39 = .ok (.iadd, 1) := by decide +kernel
theorem dX11_moves_40 : decode cX11_moves 40 = .ok (.invokestatic 81, 3) := by decide +kernel
theorem dX11_moves_43 : decode cX11_moves 43 = .ok (.iconst 0, 1) := by decide +kernel
theorem dX11_moves_44 : decode cX11_moves 44 = .ok (.invokevirtual 84, 3) := by decide +kernel
theorem dX11_moves_47 : decode cX11_moves 47 = .ok (.aload_n 0, 1) := by decide +kernel
theorem dX11_moves_48 : decode cX11_moves 48 = .ok (.bipush 36, 2) := by decide +kernel
theorem dX11_moves_50 : decode cX11_moves 50 = .ok (.iload 4, 2) := by decide +kernel
theorem dX11_moves_52 : decode cX11_moves 52 = .ok (.invokestatic 81, 3) := by decide +kernel
theorem dX11_moves_55 : decode cX11_moves 55 = .ok (.bipush 36, 2) := by decide +kernel
theorem dX11_moves_57 : decode cX11_moves 57 = .ok (.iload 4, 2) := by decide +kernel
theorem dX11_moves_59 : decode cX11_moves 59 = .ok (.invokestatic 81, 3) := by decide +kernel
theorem dX11_moves_62 : decode cX11_moves 62 = .ok (.iconst 1, 1) := by decide +kernel
theorem dX11_moves_63 : decode cX11_moves 63 = .ok (.iconst 1, 1) := by decide +kernel
theorem dX11_moves_64 : decode cX11_moves 64 = .ok (.invokevirtual 88, 3) := by decide +kernel
theorem dX11_moves_67 : decode cX11_moves 67 = .ok (.iinc 4 (-1), 3) := by decide +kernel
theorem dX11_moves_70 : decode cX11_moves 70 = .ok (.goto (-44), 3) := by decide +kernel
theorem dX11_moves_73 : decode cX11_moves 73 = .ok (.iinc 3 1, 3) := by decide +kernel
theorem dX11_moves_76 : decode cX11_moves 76 = .ok (.goto (-60), 3) := by decide +kernel
theorem dX11_moves_79 : decode cX11_moves 79 = .ok (.iconst 0, 1) := by decide +kernel
theorem dX11_moves_80 : decode cX11_moves 80 = .ok (.istore_n 3, 1) := by decide +kernel
theorem dX11_moves_81 : decode cX11_moves 81 = .ok (.iload_n 3, 1) := by decide +kernel
theorem dX11_moves_82 : decode cX11_moves 82 = .ok (.bipush 9, 2) := by decide +kernel
theorem dX11_moves_84 : decode cX11_moves 84 = .ok (.if_icmp .ge 43, 3) := by decide +kernel
theorem dX11_moves_87 : decode cX11_moves 87 = .ok (.aload_n 0, 1) := by decide +kernel
theorem dX11_moves_88 : decode cX11_moves 88 = .ok (.getfield 14, 3) := by decide +kernel
theorem dX11_moves_91 : decode cX11_moves 91 = .ok (.bipush 36, 2) := by decide +kernel
theorem dX11_moves_93 : decode cX11_moves 93 = .ok (.iload_n 3, 1) := by decide +kernel
theorem dX11_moves_94 : decode cX11_moves 94 = .ok (.invokestatic 81, 3) := by decide +kernel
theorem dX11_moves_97 : decode cX11_moves 97 = .ok (.iaload, 1) := by decide +kernel
theorem dX11_moves_98 : decode cX11_moves 98 = .ok (.iconst 2, 1) := by decide +kernel
theorem dX11_moves_99 : decode cX11_moves 99 = .ok (.if_icmp .le 5, 3) := by decide +kernel
theorem dX11_moves_102 : decode cX11_moves 102 = .ok (.iconst 0, 1) := by decide +kernel
theorem dX11_moves_103 : decode cX11_moves 103 = .ok (.ireturn, 1) := by decide +kernel
theorem dX11_moves_104 : decode cX11_moves 104 = .ok (.aload_n 0, 1) := by decide +kernel
theorem dX11_moves_105 : decode cX11_moves 105 = .ok (.bipush 21, 2) := by decide +kernel
theorem dX11_moves_107 : decode cX11_moves 107 = .ok (.iload_n 3, 1) := by decide +kernel
theorem dX11_moves_108 : decode cX11_moves 108 = .ok (.aload_n 0, 1) := by decide +kernel
theorem dX11_moves_109 : decode cX11_moves 109 = .ok (.bipush 36, 2) := by decide +kernel
theorem dX11_moves_111 : decode cX11_moves 111 = .ok (.iload_n 3, 1) := by decide +kernel
theorem dX11_moves_112 : decode cX11_moves 112 = .ok (.invokestatic 81, 3) := by decide +kernel
theorem dX11_moves_115 : decode cX11_moves 115 = .ok (.invokevirtual 126, 3) := by decide +kernel
theorem dX11_moves_118 : decode cX11_moves 118 = .ok (.invokevirtual 130, 3) := by decide +kernel
theorem dX11_moves_121 : decode cX11_moves 121 = .ok (.iinc 3 1, 3) := by decide +kernel
theorem dX11_moves_124 : decode cX11_moves 124 = .ok (.goto (-43), 3) := by decide +kernel
theorem dX11_moves_127 : decode cX11_moves 127 = .ok (.iconst 1, 1) := by decide +kernel
theorem dX11_moves_128 : decode cX11_moves 128 = .ok (.ireturn, 1) := by decide +kernel
theorem dX11_made_0 : decode cX11_made 0 = .ok (.aload_n 0, 1) := by decide +kernel
theorem dX11_made_1 : decode cX11_made 1 = .ok (.iload_n 1, 1) := by decide +kernel
theorem dX11_made_2 : decode cX11_made 2 = .ok (.iload 4, 2) := by decide +kernel
theorem dX11_made_4 : decode cX11_made 4 = .ok (.invokevirtual 230, 3) := by decide +kernel
theorem dX11_made_7 : decode cX11_made 7 = .ok (.lstore 5, 2) := by decide +kernel
theorem dX11_made_9 : decode cX11_made 9 = .ok (.aload_n 0, 1) := by decide +kernel
theorem dX11_made_10 : decode cX11_made 10 = .ok (.iload_n 1, 1) := by decide +kernel
theorem dX11_made_11 : decode cX11_made 11 = .ok (.iload 4, 2) := by decide +kernel
theorem dX11_made_13 : decode cX11_made 13 = .ok (.iconst 1, 1) := by decide +kernel
theorem dX11_made_14 : decode cX11_made 14 = .ok (.isub, 1) := by decide +kernel
theorem dX11_made_15 : decode cX11_made 15 = .ok (.invokevirtual 230, 3) := by decide +kernel
theorem dX11_made_18 : decode cX11_made 18 = .ok (.lstore 7, 2) := by decide +kernel
theorem dX11_made_20 : decode cX11_made 20 = .ok (.aload_n 0, 1) := by decide +kernel
theorem dX11_made_21 : decode cX11_made 21 = .ok (.iload_n 1, 1) := by decide +kernel
theorem dX11_made_22 : decode cX11_made 22 = .ok (.iload 4, 2) := by decide +kernel
theorem dX11_made_24 : decode cX11_made 24 = .ok (.iconst 1, 1) := by decide +kernel
theorem dX11_made_25 : decode cX11_made 25 = .ok (.iadd, 1) := by decide +kernel
theorem dX11_made_26 : decode cX11_made 26 = .ok (.invokevirtual 230, 3) := by decide +kernel
theorem dX11_made_29 : decode cX11_made 29 = .ok (.lstore 9, 2) := by decide +kernel
theorem dX11_made_31 : decode cX11_made 31 = .ok (.iload_n 2, 1) := by decide +kernel
theorem dX11_made_32 : decode cX11_made 32 = .ok (.tableswitch 141 0 8 #[52, 61, 68, 83, 141, 92, 141, 106, 131], 52) := by decide +kernel
theorem dX11_made_84 : decode cX11_made 84 = .ok (.iload 4, 2) := by decide +kernel
theorem dX11_made_86 : decode cX11_made 86 = .ok (.iconst 1, 1) := by decide +kernel
theorem dX11_made_87 : decode cX11_made 87 = .ok (.iadd, 1) := by decide +kernel
theorem dX11_made_88 : decode cX11_made 88 = .ok (.i2l, 1) := by decide +kernel
theorem dX11_made_89 : decode cX11_made 89 = .ok (.lload 9, 2) := by decide +kernel
theorem dX11_made_91 : decode cX11_made 91 = .ok (.lmul, 1) := by decide +kernel
theorem dX11_made_92 : decode cX11_made 92 = .ok (.lreturn, 1) := by decide +kernel
theorem dX11_made_93 : decode cX11_made 93 = .ok (.iload 4, 2) := by decide +kernel
theorem dX11_made_95 : decode cX11_made 95 = .ok (.i2l, 1) := by decide +kernel
theorem dX11_made_96 : decode cX11_made 96 = .ok (.lload 5, 2) := by decide +kernel
theorem dX11_made_98 : decode cX11_made 98 = .ok (.lmul, 1) := by decide +kernel
theorem dX11_made_99 : decode cX11_made 99 = .ok (.lreturn, 1) := by decide +kernel
theorem dX11_made_100 : decode cX11_made 100 = .ok (.lload 5, 2) := by decide +kernel
theorem dX11_made_102 : decode cX11_made 102 = .ok (.iload_n 3, 1) := by decide +kernel
theorem dX11_made_103 : decode cX11_made 103 = .ok (.i2l, 1) := by decide +kernel
theorem dX11_made_104 : decode cX11_made 104 = .ok (.iload 4, 2) := by decide +kernel
theorem dX11_made_106 : decode cX11_made 106 = .ok (.iconst 1, 1) := by decide +kernel
theorem dX11_made_107 : decode cX11_made 107 = .ok (.iadd, 1) := by decide +kernel
theorem dX11_made_108 : decode cX11_made 108 = .ok (.i2l, 1) := by decide +kernel
theorem dX11_made_109 : decode cX11_made 109 = .ok (.lmul, 1) := by decide +kernel
theorem dX11_made_110 : decode cX11_made 110 = .ok (.lload 9, 2) := by decide +kernel
theorem dX11_made_112 : decode cX11_made 112 = .ok (.lmul, 1) := by decide +kernel
theorem dX11_made_113 : decode cX11_made 113 = .ok (.ladd, 1) := by decide +kernel
theorem dX11_made_114 : decode cX11_made 114 = .ok (.lreturn, 1) := by decide +kernel
theorem dX11_made_115 : decode cX11_made 115 = .ok (.lload 7, 2) := by decide +kernel
theorem dX11_made_117 : decode cX11_made 117 = .ok (.iload_n 3, 1) := by decide +kernel
theorem dX11_made_118 : decode cX11_made 118 = .ok (.i2l, 1) := by decide +kernel
theorem dX11_made_119 : decode cX11_made 119 = .ok (.lload 5, 2) := by decide +kernel
theorem dX11_made_121 : decode cX11_made 121 = .ok (.lmul, 1) := by decide +kernel
theorem dX11_made_122 : decode cX11_made 122 = .ok (.ladd, 1) := by decide +kernel
theorem dX11_made_123 : decode cX11_made 123 = .ok (.lreturn, 1) := by decide +kernel
theorem dX11_made_124 : decode cX11_made 124 = .ok (.aload_n 0, 1) := by decide +kernel
theorem dX11_made_125 : decode cX11_made 125 = .ok (.iload_n 1, 1) := by decide +kernel
theorem dX11_made_126 : decode cX11_made 126 = .ok (.aload_n 0, 1) := by decide +kernel
theorem dX11_made_127 : decode cX11_made 127 = .ok (.iload_n 1, 1) := by decide +kernel
theorem dX11_made_128 : decode cX11_made 128 = .ok (.invokevirtual 110, 3) := by decide +kernel
theorem dX11_made_131 : decode cX11_made 131 = .ok (.iload 4, 2) := by decide +kernel
theorem dX11_made_133 : decode cX11_made 133 = .ok (.isub, 1) := by decide +kernel
theorem dX11_made_134 : decode cX11_made 134 = .ok (.invokevirtual 230, 3) := by decide +kernel
theorem dX11_made_137 : decode cX11_made 137 = .ok (.lreturn, 1) := by decide +kernel
theorem dX11_made_138 : decode cX11_made 138 = .ok (.lload 5, 2) := by decide +kernel
theorem dX11_made_140 : decode cX11_made 140 = .ok (.iload_n 3, 1) := by decide +kernel
theorem dX11_made_141 : decode cX11_made 141 = .ok (.i2l, 1) := by decide +kernel
theorem dX11_made_142 : decode cX11_made 142 = .ok (.lload 7, 2) := by decide +kernel
theorem dX11_made_144 : decode cX11_made 144 = .ok (.lmul, 1) := by decide +kernel
theorem dX11_made_145 : decode cX11_made 145 = .ok (.ladd, 1) := by decide +kernel
theorem dX11_made_146 : decode cX11_made 146 = .ok (.iload 4, 2) := by decide +kernel
theorem dX11_made_148 : decode cX11_made 148 = .ok (.i2l, 1) := by decide +kernel
theorem dX11_made_149 : decode cX11_made 149 = .ok (.lload 5, 2) := by decide +kernel
theorem dX11_made_151 : decode cX11_made 151 = .ok (.lmul, 1) := by decide +kernel
theorem dX11_made_152 : decode cX11_made 152 = .ok (.ladd, 1) := by decide +kernel
theorem dX11_made_153 : decode cX11_made 153 = .ok (.iload 4, 2) := by decide +kernel
theorem dX11_made_155 : decode cX11_made 155 = .ok (.i2l, 1) := by decide +kernel
theorem dX11_made_156 : decode cX11_made 156 = .ok (.lconst 1, 1) := by decide +kernel
theorem dX11_made_157 : decode cX11_made 157 = .ok (.lsub, 1) := by decide +kernel
theorem dX11_made_158 : decode cX11_made 158 = .ok (.lload 7, 2) := by decide +kernel
theorem dX11_made_160 : decode cX11_made 160 = .ok (.lmul, 1) := by decide +kernel
theorem dX11_made_161 : decode cX11_made 161 = .ok (.lsub, 1) := by decide +kernel
theorem dX11_made_162 : decode cX11_made 162 = .ok (.lreturn, 1) := by decide +kernel
theorem dX11_made_163 : decode cX11_made 163 = .ok (.lload 7, 2) := by decide +kernel
theorem dX11_made_165 : decode cX11_made 165 = .ok (.iload 4, 2) := by decide +kernel
theorem dX11_made_167 : decode cX11_made 167 = .ok (.i2l, 1) := by decide +kernel
theorem dX11_made_168 : decode cX11_made 168 = .ok (.lload 5, 2) := by decide +kernel
theorem dX11_made_170 : decode cX11_made 170 = .ok (.lmul, 1) := by decide +kernel
theorem dX11_made_171 : decode cX11_made 171 = .ok (.ladd, 1) := by decide +kernel
theorem dX11_made_172 : decode cX11_made 172 = .ok (.lreturn, 1) := by decide +kernel
theorem dX11_made_173 : decode cX11_made 173 = .ok (.lload 5, 2) := by decide +kernel
theorem dX11_made_175 : decode cX11_made 175 = .ok (.lreturn, 1) := by decide +kernel
theorem dX11_operate_0 : decode cX11_operate 0 = .ok (.aload_n 0, 1) := by decide +kernel
theorem dX11_operate_1 : decode cX11_operate 1 = .ok (.iconst 0, 1) := by decide +kernel
theorem dX11_operate_2 : decode cX11_operate 2 = .ok (.putfield 49, 3) := by decide +kernel
theorem dX11_operate_5 : decode cX11_operate 5 = .ok (.aload_n 0, 1) := by decide +kernel
theorem dX11_operate_6 : decode cX11_operate 6 = .ok (.iload_n 1, 1) := by decide +kernel
theorem dX11_operate_7 : decode cX11_operate 7 = .ok (.invokevirtual 214, 3) := by decide +kernel
theorem dX11_operate_10 : decode cX11_operate 10 = .ok (.ifCond .eq 38, 3) := by decide +kernel
theorem dX11_operate_13 : decode cX11_operate 13 = .ok (.aload_n 0, 1) := by decide +kernel
theorem dX11_operate_14 : decode cX11_operate 14 = .ok (.iload_n 2, 1) := by decide +kernel
theorem dX11_operate_15 : decode cX11_operate 15 = .ok (.invokevirtual 214, 3) := by decide +kernel
theorem dX11_operate_18 : decode cX11_operate 18 = .ok (.ifCond .eq 30, 3) := by decide +kernel
theorem dX11_operate_21 : decode cX11_operate 21 = .ok (.iload_n 3, 1) := by decide +kernel
theorem dX11_operate_22 : decode cX11_operate 22 = .ok (.i2l, 1) := by decide +kernel
theorem dX11_operate_23 : decode cX11_operate 23 = .ok (.lconst 0, 1) := by decide +kernel
theorem dX11_operate_24 : decode cX11_operate 24 = .ok (.ldc2_w 233, 3) := by decide +kernel
theorem dX11_operate_27 : decode cX11_operate 27 = .ok (.invokestatic 171, 3) := by decide +kernel
theorem dX11_operate_30 : decode cX11_operate 30 = .ok (.ifCond .eq 18, 3) := by decide +kernel
theorem dX11_operate_33 : decode cX11_operate 33 = .ok (.iload 4, 2) := by decide +kernel
theorem dX11_operate_35 : decode cX11_operate 35 = .ok (.i2l, 1) := by decide +kernel
theorem dX11_operate_36 : decode cX11_operate 36 = .ok (.ldc2_w 235, 3) := by decide +kernel
theorem dX11_operate_39 : decode cX11_operate 39 = .ok (.ldc2_w 237, 3) := by decide +kernel
theorem dX11_operate_42 : decode cX11_operate 42 = .ok (.invokestatic 171, 3) := by decide +kernel
theorem dX11_operate_45 : decode cX11_operate 45 = .ok (.ifCond .ne 5, 3) := by decide +kernel
theorem dX11_operate_48 : decode cX11_operate 48 = .ok (.iconst 0, 1) := by decide +kernel
theorem dX11_operate_49 : decode cX11_operate 49 = .ok (.ireturn, 1) := by decide +kernel
theorem dX11_operate_50 : decode cX11_operate 50 = .ok (.iload_n 3, 1) := by decide +kernel
theorem dX11_operate_51 : decode cX11_operate 51 = .ok (.iconst 4, 1) := by decide +kernel
theorem dX11_operate_52 : decode cX11_operate 52 = .ok (.if_icmp .ne 27, 3) := by decide +kernel
theorem dX11_operate_55 : decode cX11_operate 55 = .ok (.aload_n 0, 1) := by decide +kernel
theorem dX11_operate_56 : decode cX11_operate 56 = .ok (.iload_n 2, 1) := by decide +kernel
theorem dX11_operate_57 : decode cX11_operate 57 = .ok (.iload 4, 2) := by decide +kernel
theorem dX11_operate_59 : decode cX11_operate 59 = .ok (.invokevirtual 239, 3) := by decide +kernel
theorem dX11_operate_62 : decode cX11_operate 62 = .ok (.ifCond .eq 15, 3) := by decide +kernel
theorem dX11_operate_65 : decode cX11_operate 65 = .ok (.aload_n 0, 1) := by decide +kernel
theorem dX11_operate_66 : decode cX11_operate 66 = .ok (.iload_n 1, 1) := by decide +kernel
theorem dX11_operate_67 : decode cX11_operate 67 = .ok (.invokevirtual 225, 3) := by decide +kernel
theorem dX11_operate_70 : decode cX11_operate 70 = .ok (.ifCond .eq 7, 3) := by decide +kernel
theorem dX11_operate_73 : decode cX11_operate 73 = .ok (.iconst 1, 1) := by decide +kernel
theorem dX11_operate_74 : decode cX11_operate 74 = .ok (.goto 4, 3) := by decide +kernel
theorem dX11_operate_77 : decode cX11_operate 77 = .ok (.iconst 0, 1) := by decide +kernel
theorem dX11_operate_78 : decode cX11_operate 78 = .ok (.ireturn, 1) := by decide +kernel
theorem dX11_operate_79 : decode cX11_operate 79 = .ok (.iconst 0, 1) := by decide +kernel
theorem dX11_operate_80 : decode cX11_operate 80 = .ok (.istore 5, 2) := by decide +kernel
theorem dX11_operate_82 : decode cX11_operate 82 = .ok (.iload 5, 2) := by decide +kernel
theorem dX11_operate_84 : decode cX11_operate 84 = .ok (.bipush 9, 2) := by decide +kernel
theorem dX11_operate_86 : decode cX11_operate 86 = .ok (.if_icmp .ge 78, 3) := by decide +kernel
theorem dX11_operate_89 : decode cX11_operate 89 = .ok (.aload_n 0, 1) := by decide +kernel
theorem dX11_operate_90 : decode cX11_operate 90 = .ok (.iload_n 2, 1) := by decide +kernel
theorem dX11_operate_91 : decode cX11_operate 91 = .ok (.iload_n 3, 1) := by decide +kernel
theorem dX11_operate_92 : decode cX11_operate 92 = .ok (.iload 4, 2) := by decide +kernel
theorem dX11_operate_94 : decode cX11_operate 94 = .ok (.iload 5, 2) := by decide +kernel
theorem dX11_operate_96 : decode cX11_operate 96 = .ok (.invokevirtual 243, 3) := by decide +kernel
theorem dX11_operate_99 : decode cX11_operate 99 = .ok (.lstore 6, 2) := by decide +kernel
theorem dX11_operate_101 : decode cX11_operate 101 = .ok (.iload_n 3, 1) := by decide +kernel
theorem dX11_operate_102 : decode cX11_operate 102 = .ok (.bipush 6, 2) := by decide +kernel
theorem dX11_operate_104 : decode cX11_operate 104 = .ok (.if_icmp .ne 14, 3) := by decide +kernel
theorem dX11_operate_107 : decode cX11_operate 107 = .ok (.aload_n 0, 1) := by decide +kernel
theorem dX11_operate_108 : decode cX11_operate 108 = .ok (.iload_n 2, 1) := by decide +kernel
theorem dX11_operate_109 : decode cX11_operate 109 = .ok (.iload 5, 2) := by decide +kernel
theorem dX11_operate_111 : decode cX11_operate 111 = .ok (.iload 4, 2) := by decide +kernel
theorem dX11_operate_113 : decode cX11_operate 113 = .ok (.invokevirtual 247, 3) := by decide +kernel
theorem dX11_operate_116 : decode cX11_operate 116 = .ok (.lstore 6, 2) := by decide +kernel
theorem dX11_operate_118 : decode cX11_operate 118 = .ok (.iconst 2, 1) := by decide +kernel
theorem dX11_operate_119 : decode cX11_operate 119 = .ok (.istore 8, 2) := by decide +kernel
theorem dX11_operate_121 : decode cX11_operate 121 = .ok (.iload 8, 2) := by decide +kernel
theorem dX11_operate_123 : decode cX11_operate 123 = .ok (.iload 5, 2) := by decide +kernel
theorem dX11_operate_125 : decode cX11_operate 125 = .ok (.if_icmp .gt 23, 3) := by decide +kernel
theorem dX11_operate_128 : decode cX11_operate 128 = .ok (.iload_n 3, 1) := by decide +kernel
theorem dX11_operate_129 : decode cX11_operate 129 = .ok (.bipush 9, 2) := by decide +kernel
theorem dX11_operate_131 : decode cX11_operate 131 = .ok (.if_icmp .ne 17, 3) := by decide +kernel
theorem dX11_operate_134 : decode cX11_operate 134 = .ok (.lload 6, 2) := by decide +kernel
theorem dX11_operate_136 : decode cX11_operate 136 = .ok (.iload 8, 2) := by decide +kernel
theorem dX11_operate_138 : decode cX11_operate 138 = .ok (.i2l, 1) := by decide +kernel
theorem dX11_operate_139 : decode cX11_operate 139 = .ok (.lmul, 1) := by decide +kernel
theorem dX11_operate_140 : decode cX11_operate 140 = .ok (.lstore 6, 2) := by decide +kernel
theorem dX11_operate_142 : decode cX11_operate 142 = .ok (.iinc 8 1, 3) := by decide +kernel
theorem dX11_operate_145 : decode cX11_operate 145 = .ok (.goto (-24), 3) := by decide +kernel
theorem dX11_operate_148 : decode cX11_operate 148 = .ok (.aload_n 0, 1) := by decide +kernel
theorem dX11_operate_149 : decode cX11_operate 149 = .ok (.bipush 21, 2) := by decide +kernel
theorem dX11_operate_151 : decode cX11_operate 151 = .ok (.iload 5, 2) := by decide +kernel
theorem dX11_operate_153 : decode cX11_operate 153 = .ok (.lload 6, 2) := by decide +kernel
theorem dX11_operate_155 : decode cX11_operate 155 = .ok (.invokevirtual 130, 3) := by decide +kernel
theorem dX11_operate_158 : decode cX11_operate 158 = .ok (.iinc 5 1, 3) := by decide +kernel
theorem dX11_operate_161 : decode cX11_operate 161 = .ok (.goto (-79), 3) := by decide +kernel
theorem dX11_operate_164 : decode cX11_operate 164 = .ok (.iload_n 3, 1) := by decide +kernel
theorem dX11_operate_165 : decode cX11_operate 165 = .ok (.iconst 5, 1) := by decide +kernel
theorem dX11_operate_166 : decode cX11_operate 166 = .ok (.if_icmp .eq 32, 3) := by decide +kernel
theorem dX11_operate_169 : decode cX11_operate 169 = .ok (.iload_n 3, 1) := by decide +kernel
theorem dX11_operate_170 : decode cX11_operate 170 = .ok (.bipush 6, 2) := by decide +kernel
theorem dX11_operate_172 : decode cX11_operate 172 = .ok (.if_icmp .eq 26, 3) := by decide +kernel
theorem dX11_operate_175 : decode cX11_operate 175 = .ok (.iload_n 3, 1) := by decide +kernel
theorem dX11_operate_176 : decode cX11_operate 176 = .ok (.bipush 9, 2) := by decide +kernel
theorem dX11_operate_178 : decode cX11_operate 178 = .ok (.if_icmp .eq 20, 3) := by decide +kernel
theorem dX11_operate_181 : decode cX11_operate 181 = .ok (.aload_n 0, 1) := by decide +kernel
theorem dX11_operate_182 : decode cX11_operate 182 = .ok (.iload_n 2, 1) := by decide +kernel
theorem dX11_operate_183 : decode cX11_operate 183 = .ok (.iload_n 3, 1) := by decide +kernel
theorem dX11_operate_184 : decode cX11_operate 184 = .ok (.iload 4, 2) := by decide +kernel
theorem dX11_operate_186 : decode cX11_operate 186 = .ok (.bipush 9, 2) := by decide +kernel
theorem dX11_operate_188 : decode cX11_operate 188 = .ok (.invokevirtual 243, 3) := by decide +kernel
theorem dX11_operate_191 : decode cX11_operate 191 = .ok (.lconst 0, 1) := by decide +kernel
theorem dX11_operate_192 : decode cX11_operate 192 = .ok (.lcmp, 1) := by decide +kernel
theorem dX11_operate_193 : decode cX11_operate 193 = .ok (.ifCond .eq 5, 3) := by decide +kernel
theorem dX11_operate_196 : decode cX11_operate 196 = .ok (.iconst 0, 1) := by decide +kernel
theorem dX11_operate_197 : decode cX11_operate 197 = .ok (.ireturn, 1) := by decide +kernel
theorem dX11_operate_198 : decode cX11_operate 198 = .ok (.aload_n 0, 1) := by decide +kernel
theorem dX11_operate_199 : decode cX11_operate 199 = .ok (.iload_n 1, 1) := by decide +kernel
theorem dX11_operate_200 : decode cX11_operate 200 = .ok (.invokevirtual 225, 3) := by decide +kernel
theorem dX11_operate_203 : decode cX11_operate 203 = .ok (.ireturn, 1) := by decide +kernel
theorem dX11_join_0 : decode cX11_join 0 = .ok (.aload_n 0, 1) := by decide +kernel
theorem dX11_join_1 : decode cX11_join 1 = .ok (.iconst 0, 1) := by decide +kernel
theorem dX11_join_2 : decode cX11_join 2 = .ok (.putfield 49, 3) := by decide +kernel
theorem dX11_join_5 : decode cX11_join 5 = .ok (.aload_n 0, 1) := by decide +kernel
theorem dX11_join_6 : decode cX11_join 6 = .ok (.iload_n 1, 1) := by decide +kernel
theorem dX11_join_7 : decode cX11_join 7 = .ok (.invokevirtual 214, 3) := by decide +kernel
theorem dX11_join_10 : decode cX11_join 10 = .ok (.ifCond .eq 49, 3) := by decide +kernel
theorem dX11_join_13 : decode cX11_join 13 = .ok (.aload_n 0, 1) := by decide +kernel
theorem dX11_join_14 : decode cX11_join 14 = .ok (.iload_n 2, 1) := by decide +kernel
theorem dX11_join_15 : decode cX11_join 15 = .ok (.invokevirtual 214, 3) := by decide +kernel
theorem dX11_join_18 : decode cX11_join 18 = .ok (.ifCond .eq 41, 3) := by decide +kernel
theorem dX11_join_21 : decode cX11_join 21 = .ok (.aload_n 0, 1) := by decide +kernel
theorem dX11_join_22 : decode cX11_join 22 = .ok (.iload_n 3, 1) := by decide +kernel
theorem dX11_join_23 : decode cX11_join 23 = .ok (.invokevirtual 214, 3) := by decide +kernel
theorem dX11_join_26 : decode cX11_join 26 = .ok (.ifCond .eq 33, 3) := by decide +kernel
theorem dX11_join_29 : decode cX11_join 29 = .ok (.iload 4, 2) := by decide +kernel
theorem dX11_join_31 : decode cX11_join 31 = .ok (.i2l, 1) := by decide +kernel
theorem dX11_join_32 : decode cX11_join 32 = .ok (.ldc2_w 235, 3) := by decide +kernel
theorem dX11_join_35 : decode cX11_join 35 = .ok (.ldc2_w 237, 3) := by decide +kernel
theorem dX11_join_38 : decode cX11_join 38 = .ok (.invokestatic 171, 3) := by decide +kernel
theorem dX11_join_41 : decode cX11_join 41 = .ok (.ifCond .eq 18, 3) := by decide +kernel
theorem dX11_join_44 : decode cX11_join 44 = .ok (.iload 5, 2) := by decide +kernel
theorem dX11_join_46 : decode cX11_join 46 = .ok (.i2l, 1) := by decide +kernel
theorem dX11_join_47 : decode cX11_join 47 = .ok (.ldc2_w 235, 3) := by decide +kernel
theorem dX11_join_50 : decode cX11_join 50 = .ok (.ldc2_w 237, 3) := by decide +kernel
theorem dX11_join_53 : decode cX11_join 53 = .ok (.invokestatic 171, 3) := by decide +kernel
theorem dX11_join_56 : decode cX11_join 56 = .ok (.ifCond .ne 5, 3) := by decide +kernel
theorem dX11_join_59 : decode cX11_join 59 = .ok (.iconst 0, 1) := by decide +kernel
theorem dX11_join_60 : decode cX11_join 60 = .ok (.ireturn, 1) := by decide +kernel
theorem dX11_join_61 : decode cX11_join 61 = .ok (.iconst 0, 1) := by decide +kernel
theorem dX11_join_62 : decode cX11_join 62 = .ok (.istore 6, 2) := by decide +kernel
theorem dX11_join_64 : decode cX11_join 64 = .ok (.iload 6, 2) := by decide +kernel
theorem dX11_join_66 : decode cX11_join 66 = .ok (.bipush 9, 2) := by decide +kernel
theorem dX11_join_68 : decode cX11_join 68 = .ok (.if_icmp .ge 40, 3) := by decide +kernel
theorem dX11_join_71 : decode cX11_join 71 = .ok (.aload_n 0, 1) := by decide +kernel
theorem dX11_join_72 : decode cX11_join 72 = .ok (.bipush 21, 2) := by decide +kernel
theorem dX11_join_74 : decode cX11_join 74 = .ok (.iload 6, 2) := by decide +kernel
theorem dX11_join_76 : decode cX11_join 76 = .ok (.iload 4, 2) := by decide +kernel
theorem dX11_join_78 : decode cX11_join 78 = .ok (.i2l, 1) := by decide +kernel
theorem dX11_join_79 : decode cX11_join 79 = .ok (.aload_n 0, 1) := by decide +kernel
theorem dX11_join_80 : decode cX11_join 80 = .ok (.iload_n 2, 1) := by decide +kernel
theorem dX11_join_81 : decode cX11_join 81 = .ok (.iload 6, 2) := by decide +kernel
theorem dX11_join_83 : decode cX11_join 83 = .ok (.invokevirtual 106, 3) := by decide +kernel
theorem dX11_join_86 : decode cX11_join 86 = .ok (.lmul, 1) := by decide +kernel
theorem dX11_join_87 : decode cX11_join 87 = .ok (.iload 5, 2) := by decide +kernel
theorem dX11_join_89 : decode cX11_join 89 = .ok (.i2l, 1) := by decide +kernel
theorem dX11_join_90 : decode cX11_join 90 = .ok (.aload_n 0, 1) := by decide +kernel
theorem dX11_join_91 : decode cX11_join 91 = .ok (.iload_n 3, 1) := by decide +kernel
theorem dX11_join_92 : decode cX11_join 92 = .ok (.iload 6, 2) := by decide +kernel
theorem dX11_join_94 : decode cX11_join 94 = .ok (.invokevirtual 106, 3) := by decide +kernel
theorem dX11_join_97 : decode cX11_join 97 = .ok (.lmul, 1) := by decide +kernel
theorem dX11_join_98 : decode cX11_join 98 = .ok (.ladd, 1) := by decide +kernel
theorem dX11_join_99 : decode cX11_join 99 = .ok (.invokevirtual 130, 3) := by decide +kernel
theorem dX11_join_102 : decode cX11_join 102 = .ok (.iinc 6 1, 3) := by decide +kernel
theorem dX11_join_105 : decode cX11_join 105 = .ok (.goto (-41), 3) := by decide +kernel
theorem dX11_join_108 : decode cX11_join 108 = .ok (.aload_n 0, 1) := by decide +kernel
theorem dX11_join_109 : decode cX11_join 109 = .ok (.iload_n 1, 1) := by decide +kernel
theorem dX11_join_110 : decode cX11_join 110 = .ok (.invokevirtual 225, 3) := by decide +kernel
theorem dX11_join_113 : decode cX11_join 113 = .ok (.ireturn, 1) := by decide +kernel
theorem dX11_times_0 : decode cX11_times 0 = .ok (.aload_n 0, 1) := by decide +kernel
theorem dX11_times_1 : decode cX11_times 1 = .ok (.iconst 0, 1) := by decide +kernel
theorem dX11_times_2 : decode cX11_times 2 = .ok (.putfield 49, 3) := by decide +kernel
theorem dX11_times_5 : decode cX11_times 5 = .ok (.aload_n 0, 1) := by decide +kernel
theorem dX11_times_6 : decode cX11_times 6 = .ok (.iload_n 1, 1) := by decide +kernel
theorem dX11_times_7 : decode cX11_times 7 = .ok (.invokevirtual 214, 3) := by decide +kernel
theorem dX11_times_10 : decode cX11_times 10 = .ok (.ifCond .eq 19, 3) := by decide +kernel
theorem dX11_times_13 : decode cX11_times 13 = .ok (.aload_n 0, 1) := by decide +kernel
theorem dX11_times_14 : decode cX11_times 14 = .ok (.iload_n 2, 1) := by decide +kernel
theorem dX11_times_15 : decode cX11_times 15 = .ok (.invokevirtual 214, 3) := by decide +kernel
theorem dX11_times_18 : decode cX11_times 18 = .ok (.ifCond .eq 11, 3) := by decide +kernel
theorem dX11_times_21 : decode cX11_times 21 = .ok (.aload_n 0, 1) := by decide +kernel
theorem dX11_times_22 : decode cX11_times 22 = .ok (.iload_n 3, 1) := by decide +kernel
theorem dX11_times_23 : decode cX11_times 23 = .ok (.invokevirtual 214, 3) := by decide +kernel
theorem dX11_times_26 : decode cX11_times 26 = .ok (.ifCond .ne 5, 3) := by decide +kernel
theorem dX11_times_29 : decode cX11_times 29 = .ok (.iconst 0, 1) := by decide +kernel
theorem dX11_times_30 : decode cX11_times 30 = .ok (.ireturn, 1) := by decide +kernel
theorem dX11_times_31 : decode cX11_times 31 = .ok (.aload_n 0, 1) := by decide +kernel
theorem dX11_times_32 : decode cX11_times 32 = .ok (.iload_n 2, 1) := by decide +kernel
theorem dX11_times_33 : decode cX11_times 33 = .ok (.invokevirtual 110, 3) := by decide +kernel
theorem dX11_times_36 : decode cX11_times 36 = .ok (.ifCond .lt 29, 3) := by decide +kernel
theorem dX11_times_39 : decode cX11_times 39 = .ok (.aload_n 0, 1) := by decide +kernel
theorem dX11_times_40 : decode cX11_times 40 = .ok (.iload_n 3, 1) := by decide +kernel
theorem dX11_times_41 : decode cX11_times 41 = .ok (.invokevirtual 110, 3) := by decide +kernel
theorem dX11_times_44 : decode cX11_times 44 = .ok (.ifCond .lt 21, 3) := by decide +kernel
theorem dX11_times_47 : decode cX11_times 47 = .ok (.aload_n 0, 1) := by decide +kernel
theorem dX11_times_48 : decode cX11_times 48 = .ok (.iload_n 2, 1) := by decide +kernel
theorem dX11_times_49 : decode cX11_times 49 = .ok (.invokevirtual 110, 3) := by decide +kernel
theorem dX11_times_52 : decode cX11_times 52 = .ok (.aload_n 0, 1) := by decide +kernel
theorem dX11_times_53 : decode cX11_times 53 = .ok (.iload_n 3, 1) := by decide +kernel
theorem dX11_times_54 : decode cX11_times 54 = .ok (.invokevirtual 110, 3) := by decide +kernel
theorem dX11_times_57 : decode cX11_times 57 = .ok (.iadd, 1) := by decide +kernel
theorem dX11_times_58 : decode cX11_times 58 = .ok (.bipush 8, 2) := by decide +kernel
theorem dX11_times_60 : decode cX11_times 60 = .ok (.if_icmp .le 5, 3) := by decide +kernel
theorem dX11_times_63 : decode cX11_times 63 = .ok (.iconst 0, 1) := by decide +kernel
theorem dX11_times_64 : decode cX11_times 64 = .ok (.ireturn, 1) := by decide +kernel
theorem dX11_times_65 : decode cX11_times 65 = .ok (.iconst 0, 1) := by decide +kernel
theorem dX11_times_66 : decode cX11_times 66 = .ok (.istore 4, 2) := by decide +kernel
theorem dX11_times_68 : decode cX11_times 68 = .ok (.iload 4, 2) := by decide +kernel
theorem dX11_times_70 : decode cX11_times 70 = .ok (.bipush 9, 2) := by decide +kernel
theorem dX11_times_72 : decode cX11_times 72 = .ok (.if_icmp .ge 61, 3) := by decide +kernel
theorem dX11_times_75 : decode cX11_times 75 = .ok (.lconst 0, 1) := by decide +kernel
theorem dX11_times_76 : decode cX11_times 76 = .ok (.lstore 5, 2) := by decide +kernel
theorem dX11_times_78 : decode cX11_times 78 = .ok (.iconst 0, 1) := by decide +kernel
theorem dX11_times_79 : decode cX11_times 79 = .ok (.istore 7, 2) := by decide +kernel
theorem dX11_times_81 : decode cX11_times 81 = .ok (.iload 7, 2) := by decide +kernel
theorem dX11_times_83 : decode cX11_times 83 = .ok (.iload 4, 2) := by decide +kernel
theorem dX11_times_85 : decode cX11_times 85 = .ok (.if_icmp .gt 32, 3) := by decide +kernel
theorem dX11_times_88 : decode cX11_times 88 = .ok (.lload 5, 2) := by decide +kernel
theorem dX11_times_90 : decode cX11_times 90 = .ok (.aload_n 0, 1) := by decide +kernel
theorem dX11_times_91 : decode cX11_times 91 = .ok (.iload_n 2, 1) := by decide +kernel
theorem dX11_times_92 : decode cX11_times 92 = .ok (.iload 7, 2) := by decide +kernel
theorem dX11_times_94 : decode cX11_times 94 = .ok (.invokevirtual 106, 3) := by decide +kernel
theorem dX11_times_97 : decode cX11_times 97 = .ok (.aload_n 0, 1) := by decide +kernel
theorem dX11_times_98 : decode cX11_times 98 = .ok (.iload_n 3, 1) := by decide +kernel
theorem dX11_times_99 : decode cX11_times 99 = .ok (.iload 4, 2) := by decide +kernel
theorem dX11_times_101 : decode cX11_times 101 = .ok (.iload 7, 2) := by decide +kernel
theorem dX11_times_103 : decode cX11_times 103 = .ok (.isub, 1) := by decide +kernel
theorem dX11_times_104 : decode cX11_times 104 = .ok (.invokevirtual 106, 3) := by decide +kernel
theorem dX11_times_107 : decode cX11_times 107 = .ok (.lmul, 1) := by decide +kernel
theorem dX11_times_108 : decode cX11_times 108 = .ok (.ladd, 1) := by decide +kernel
theorem dX11_times_109 : decode cX11_times 109 = .ok (.lstore 5, 2) := by decide +kernel
theorem dX11_times_111 : decode cX11_times 111 = .ok (.iinc 7 1, 3) := by decide +kernel
theorem dX11_times_114 : decode cX11_times 114 = .ok (.goto (-33), 3) := by decide +kernel
theorem dX11_times_117 : decode cX11_times 117 = .ok (.aload_n 0, 1) := by decide +kernel
theorem dX11_times_118 : decode cX11_times 118 = .ok (.bipush 21, 2) := by decide +kernel
theorem dX11_times_120 : decode cX11_times 120 = .ok (.iload 4, 2) := by decide +kernel
theorem dX11_times_122 : decode cX11_times 122 = .ok (.lload 5, 2) := by decide +kernel
theorem dX11_times_124 : decode cX11_times 124 = .ok (.invokevirtual 130, 3) := by decide +kernel
theorem dX11_times_127 : decode cX11_times 127 = .ok (.iinc 4 1, 3) := by decide +kernel
theorem dX11_times_130 : decode cX11_times 130 = .ok (.goto (-62), 3) := by decide +kernel
theorem dX11_times_133 : decode cX11_times 133 = .ok (.aload_n 0, 1) := by decide +kernel
theorem dX11_times_134 : decode cX11_times 134 = .ok (.iload_n 1, 1) := by decide +kernel
theorem dX11_times_135 : decode cX11_times 135 = .ok (.invokevirtual 225, 3) := by decide +kernel
theorem dX11_times_138 : decode cX11_times 138 = .ok (.ireturn, 1) := by decide +kernel
theorem dX11_number__0 : decode cX11_number_ 0 = .ok (.aload_n 0, 1) := by decide +kernel
theorem dX11_number__1 : decode cX11_number_ 1 = .ok (.iconst 0, 1) := by decide +kernel
theorem dX11_number__2 : decode cX11_number_ 2 = .ok (.putfield 49, 3) := by decide +kernel
theorem dX11_number__5 : decode cX11_number_ 5 = .ok (.aload_n 0, 1) := by decide +kernel
theorem dX11_number__6 : decode cX11_number_ 6 = .ok (.iload_n 1, 1) := by decide +kernel
theorem dX11_number__7 : decode cX11_number_ 7 = .ok (.invokevirtual 214, 3) := by decide +kernel
theorem dX11_number__10 : decode cX11_number_ 10 = .ok (.ifCond .eq 24, 3) := by decide +kernel
theorem dX11_number__13 : decode cX11_number_ 13 = .ok (.iload_n 2, 1) := by decide +kernel
theorem dX11_number__14 : decode cX11_number_ 14 = .ok (.i2l, 1) := by decide +kernel
theorem dX11_number__15 : decode cX11_number_ 15 = .ok (.lconst 0, 1) := by decide +kernel
theorem dX11_number__16 : decode cX11_number_ 16 = .ok (.ldc2_w 212, 3) := by decide +kernel
theorem dX11_number__19 : decode cX11_number_ 19 = .ok (.invokestatic 171, 3) := by decide +kernel
theorem dX11_number__22 : decode cX11_number_ 22 = .ok (.ifCond .eq 12, 3) := by decide +kernel
theorem dX11_number__25 : decode cX11_number_ 25 = .ok (.aload_n 0, 1) := by decide +kernel
theorem dX11_number__26 : decode cX11_number_ 26 = .ok (.iload_n 1, 1) := by decide +kernel
theorem dX11_number__27 : decode cX11_number_ 27 = .ok (.iload_n 2, 1) := by decide +kernel
theorem dX11_number__28 : decode cX11_number_ 28 = .ok (.invokevirtual 106, 3) := by decide +kernel
theorem dX11_number__31 : decode cX11_number_ 31 = .ok (.goto 6, 3) := by decide +kernel
theorem dX11_number__34 : decode cX11_number_ 34 = .ok (.ldc2_w 251, 3) := by decide +kernel
theorem dX11_number__37 : decode cX11_number_ 37 = .ok (.lreturn, 1) := by decide +kernel
theorem dX11_isWhole_0 : decode cX11_isWhole 0 = .ok (.aload_n 0, 1) := by decide +kernel
theorem dX11_isWhole_1 : decode cX11_isWhole 1 = .ok (.iload_n 1, 1) := by decide +kernel
theorem dX11_isWhole_2 : decode cX11_isWhole 2 = .ok (.invokevirtual 110, 3) := by decide +kernel
theorem dX11_isWhole_5 : decode cX11_isWhole 5 = .ok (.ifCond .ge 5, 3) := by decide +kernel
theorem dX11_isWhole_8 : decode cX11_isWhole 8 = .ok (.iconst 0, 1) := by decide +kernel
theorem dX11_isWhole_9 : decode cX11_isWhole 9 = .ok (.ireturn, 1) := by decide +kernel
theorem dX11_isWhole_10 : decode cX11_isWhole 10 = .ok (.aload_n 0, 1) := by decide +kernel
theorem dX11_isWhole_11 : decode cX11_isWhole 11 = .ok (.iload_n 1, 1) := by decide +kernel
theorem dX11_isWhole_12 : decode cX11_isWhole 12 = .ok (.invokevirtual 253, 3) := by decide +kernel
theorem dX11_isWhole_15 : decode cX11_isWhole 15 = .ok (.aload_n 0, 1) := by decide +kernel
theorem dX11_isWhole_16 : decode cX11_isWhole 16 = .ok (.invokevirtual 256, 3) := by decide +kernel
theorem dX11_isWhole_19 : decode cX11_isWhole 19 = .ok (.aload_n 0, 1) := by decide +kernel
theorem dX11_isWhole_20 : decode cX11_isWhole 20 = .ok (.iload_n 1, 1) := by decide +kernel
theorem dX11_isWhole_21 : decode cX11_isWhole 21 = .ok (.invokevirtual 110, 3) := by decide +kernel
theorem dX11_isWhole_24 : decode cX11_isWhole 24 = .ok (.if_icmp .ne 7, 3) := by decide +kernel
theorem dX11_isWhole_27 : decode cX11_isWhole 27 = .ok (.iconst 1, 1) := by decide +kernel
theorem dX11_isWhole_28 : decode cX11_isWhole 28 = .ok (.goto 4, 3) := by decide +kernel
theorem dX11_isWhole_31 : decode cX11_isWhole 31 = .ok (.iconst 0, 1) := by decide +kernel
theorem dX11_isWhole_32 : decode cX11_isWhole 32 = .ok (.ireturn, 1) := by decide +kernel
theorem dX11_isCounts_0 : decode cX11_isCounts 0 = .ok (.iconst 0, 1) := by decide +kernel
theorem dX11_isCounts_1 : decode cX11_isCounts 1 = .ok (.istore_n 2, 1) := by decide +kernel
theorem dX11_isCounts_2 : decode cX11_isCounts 2 = .ok (.iload_n 2, 1) := by decide +kernel
theorem dX11_isCounts_3 : decode cX11_isCounts 3 = .ok (.bipush 9, 2) := by decide +kernel
theorem dX11_isCounts_5 : decode cX11_isCounts 5 = .ok (.if_icmp .ge 22, 3) := by decide +kernel
theorem dX11_isCounts_8 : decode cX11_isCounts 8 = .ok (.aload_n 0, 1) := by decide +kernel
theorem dX11_isCounts_9 : decode cX11_isCounts 9 = .ok (.iload_n 1, 1) := by decide +kernel
theorem dX11_isCounts_10 : decode cX11_isCounts 10 = .ok (.iload_n 2, 1) := by decide +kernel
theorem dX11_isCounts_11 : decode cX11_isCounts 11 = .ok (.invokevirtual 106, 3) := by decide +kernel
theorem dX11_isCounts_14 : decode cX11_isCounts 14 = .ok (.lconst 0, 1) := by decide +kernel
theorem dX11_isCounts_15 : decode cX11_isCounts 15 = .ok (.lcmp, 1) := by decide +kernel
theorem dX11_isCounts_16 : decode cX11_isCounts 16 = .ok (.ifCond .ge 5, 3) := by decide +kernel
theorem dX11_isCounts_19 : decode cX11_isCounts 19 = .ok (.iconst 0, 1) := by decide +kernel
theorem dX11_isCounts_20 : decode cX11_isCounts 20 = .ok (.ireturn, 1) := by decide +kernel
theorem dX11_isCounts_21 : decode cX11_isCounts 21 = .ok (.iinc 2 1, 3) := by decide +kernel
theorem dX11_isCounts_24 : decode cX11_isCounts 24 = .ok (.goto (-22), 3) := by decide +kernel
theorem dX11_isCounts_27 : decode cX11_isCounts 27 = .ok (.iconst 1, 1) := by decide +kernel
theorem dX11_isCounts_28 : decode cX11_isCounts 28 = .ok (.ireturn, 1) := by decide +kernel
theorem dX11_count_0 : decode cX11_count 0 = .ok (.aload_n 0, 1) := by decide +kernel
theorem dX11_count_1 : decode cX11_count 1 = .ok (.iconst 0, 1) := by decide +kernel
theorem dX11_count_2 : decode cX11_count 2 = .ok (.putfield 49, 3) := by decide +kernel
theorem dX11_count_5 : decode cX11_count 5 = .ok (.aload_n 0, 1) := by decide +kernel
theorem dX11_count_6 : decode cX11_count 6 = .ok (.iload_n 1, 1) := by decide +kernel
theorem dX11_count_7 : decode cX11_count 7 = .ok (.invokevirtual 214, 3) := by decide +kernel
theorem dX11_count_10 : decode cX11_count 10 = .ok (.ifCond .ne 5, 3) := by decide +kernel
theorem dX11_count_13 : decode cX11_count 13 = .ok (.iconst (-1), 1) := by decide +kernel
theorem dX11_count_14 : decode cX11_count 14 = .ok (.ireturn, 1) := by decide +kernel
theorem dX11_count_15 : decode cX11_count 15 = .ok (.aload_n 0, 1) := by decide +kernel
theorem dX11_count_16 : decode cX11_count 16 = .ok (.iload_n 1, 1) := by decide +kernel
theorem dX11_count_17 : decode cX11_count 17 = .ok (.invokevirtual 110, 3) := by decide +kernel
theorem dX11_count_20 : decode cX11_count 20 = .ok (.istore_n 3, 1) := by decide +kernel
theorem dX11_count_21 : decode cX11_count 21 = .ok (.iload_n 2, 1) := by decide +kernel
theorem dX11_count_22 : decode cX11_count 22 = .ok (.tableswitch 151 0 7 #[46, 48, 58, 78, 100, 106, 120, 137], 46) := by decide +kernel
theorem dX11_count_68 : decode cX11_count 68 = .ok (.iload_n 3, 1) := by decide +kernel
theorem dX11_count_69 : decode cX11_count 69 = .ok (.ireturn, 1) := by decide +kernel
theorem dX11_count_70 : decode cX11_count 70 = .ok (.aload_n 0, 1) := by decide +kernel
theorem dX11_count_71 : decode cX11_count 71 = .ok (.iload_n 1, 1) := by decide +kernel
theorem dX11_count_72 : decode cX11_count 72 = .ok (.invokevirtual 253, 3) := by decide +kernel
