theorem dX10_init_21 : decode cX10_init 21 = .ok (.aload_n 0, 1) := by decide +kernel
theorem dX10_init_22 : decode cX10_init 22 = .ok (.getfield 11, 3) := by decide +kernel
theorem dX10_init_25 : decode cX10_init 25 = .ok (.iload_n 1, 1) := by decide +kernel
theorem dX10_init_26 : decode cX10_init 26 = .ok (.new 9, 3) := by decide +kernel
theorem dX10_init_29 : decode cX10_init 29 = .ok (.dup, 1) := by decide +kernel
theorem dX10_init_30 : decode cX10_init 30 = .ok (.invokespecial 15, 3) := by decide +kernel
theorem dX10_init_33 : decode cX10_init 33 = .ok (.aastore, 1) := by decide +kernel
theorem dX10_init_34 : decode cX10_init 34 = .ok (.iinc 1 1, 3) := by decide +kernel
theorem dX10_init_37 : decode cX10_init 37 = .ok (.goto (-22), 3) := by decide +kernel
theorem dX10_init_40 : decode cX10_init 40 = .ok (.aload_n 0, 1) := by decide +kernel
theorem dX10_init_41 : decode cX10_init 41 = .ok (.new 16, 3) := by decide +kernel
theorem dX10_init_44 : decode cX10_init 44 = .ok (.dup, 1) := by decide +kernel
theorem dX10_init_45 : decode cX10_init 45 = .ok (.invokespecial 18, 3) := by decide +kernel
theorem dX10_init_48 : decode cX10_init 48 = .ok (.putfield 19, 3) := by decide +kernel
theorem dX10_init_51 : decode cX10_init 51 = .ok (.aload_n 0, 1) := by decide +kernel
theorem dX10_init_52 : decode cX10_init 52 = .ok (.new 23, 3) := by decide +kernel
theorem dX10_init_55 : decode cX10_init 55 = .ok (.dup, 1) := by decide +kernel
theorem dX10_init_56 : decode cX10_init 56 = .ok (.invokespecial 25, 3) := by decide +kernel
theorem dX10_init_59 : decode cX10_init 59 = .ok (.putfield 26, 3) := by decide +kernel
theorem dX10_init_62 : decode cX10_init 62 = .ok (.aload_n 0, 1) := by decide +kernel
theorem dX10_init_63 : decode cX10_init 63 = .ok (.new 30, 3) := by decide +kernel
theorem dX10_init_66 : decode cX10_init 66 = .ok (.dup, 1) := by decide +kernel
theorem dX10_init_67 : decode cX10_init 67 = .ok (.invokespecial 32, 3) := by decide +kernel
theorem dX10_init_70 : decode cX10_init 70 = .ok (.putfield 33, 3) := by decide +kernel
theorem dX10_init_73 : decode cX10_init 73 = .ok (.aload_n 0, 1) := by decide +kernel
theorem dX10_init_74 : decode cX10_init 74 = .ok (.new 37, 3) := by decide +kernel
theorem dX10_init_77 : decode cX10_init 77 = .ok (.dup, 1) := by decide +kernel
theorem dX10_init_78 : decode cX10_init 78 = .ok (.invokespecial 39, 3) := by decide +kernel
theorem dX10_init_81 : decode cX10_init 81 = .ok (.putfield 40, 3) := by decide +kernel
theorem dX10_init_84 : decode cX10_init 84 = .ok (.aload_n 0, 1) := by decide +kernel
theorem dX10_init_85 : decode cX10_init 85 = .ok (.new 44, 3) := by decide +kernel
theorem dX10_init_88 : decode cX10_init 88 = .ok (.dup, 1) := by decide +kernel
theorem dX10_init_89 : decode cX10_init 89 = .ok (.aload_n 0, 1) := by decide +kernel
theorem dX10_init_90 : decode cX10_init 90 = .ok (.getfield 33, 3) := by decide +kernel
theorem dX10_init_93 : decode cX10_init 93 = .ok (.invokespecial 46, 3) := by decide +kernel
theorem dX10_init_96 : decode cX10_init 96 = .ok (.putfield 49, 3) := by decide +kernel
theorem dX10_init_99 : decode cX10_init 99 = .ok (.aload_n 0, 1) := by decide +kernel
theorem dX10_init_100 : decode cX10_init 100 = .ok (.new 53, 3) := by decide +kernel
theorem dX10_init_103 : decode cX10_init 103 = .ok (.dup, 1) := by decide +kernel
theorem dX10_init_104 : decode cX10_init 104 = .ok (.aload_n 0, 1) := by decide +kernel
theorem dX10_init_105 : decode cX10_init 105 = .ok (.getfield 49, 3) := by decide +kernel
theorem dX10_init_108 : decode cX10_init 108 = .ok (.aload_n 0, 1) := by decide +kernel
theorem dX10_init_109 : decode cX10_init 109 = .ok (.getfield 33, 3) := by decide +kernel
theorem dX10_init_112 : decode cX10_init 112 = .ok (.aload_n 0, 1) := by decide +kernel
theorem dX10_init_113 : decode cX10_init 113 = .ok (.getfield 40, 3) := by decide +kernel
theorem dX10_init_116 : decode cX10_init 116 = .ok (.invokespecial 55, 3) := by decide +kernel
theorem dX10_init_119 : decode cX10_init 119 = .ok (.putfield 58, 3) := by decide +kernel
theorem dX10_init_122 : decode cX10_init 122 = .ok (.return_, 1) := by decide +kernel
theorem dX10_feed_0 : decode cX10_feed 0 = .ok (.aload_n 0, 1) := by decide +kernel
theorem dX10_feed_1 : decode cX10_feed 1 = .ok (.getfield 19, 3) := by decide +kernel
theorem dX10_feed_4 : decode cX10_feed 4 = .ok (.invokevirtual 62, 3) := by decide +kernel
theorem dX10_feed_7 : decode cX10_feed 7 = .ok (.ifCond .ne 5, 3) := by decide +kernel
theorem dX10_feed_10 : decode cX10_feed 10 = .ok (.iconst (-1), 1) := by decide +kernel
theorem dX10_feed_11 : decode cX10_feed 11 = .ok (.ireturn, 1) := by decide +kernel
theorem dX10_feed_12 : decode cX10_feed 12 = .ok (.aload_n 0, 1) := by decide +kernel
theorem dX10_feed_13 : decode cX10_feed 13 = .ok (.getfield 19, 3) := by decide +kernel
theorem dX10_feed_16 : decode cX10_feed 16 = .ok (.iload_n 1, 1) := by decide +kernel
theorem dX10_feed_17 : decode cX10_feed 17 = .ok (.invokevirtual 66, 3) := by decide +kernel
theorem dX10_feed_20 : decode cX10_feed 20 = .ok (.aload_n 0, 1) := by decide +kernel
theorem dX10_feed_21 : decode cX10_feed 21 = .ok (.getfield 19, 3) := by decide +kernel
theorem dX10_feed_24 : decode cX10_feed 24 = .ok (.iload_n 2, 1) := by decide +kernel
theorem dX10_feed_25 : decode cX10_feed 25 = .ok (.invokevirtual 66, 3) := by decide +kernel
theorem dX10_feed_28 : decode cX10_feed 28 = .ok (.aload_n 0, 1) := by decide +kernel
theorem dX10_feed_29 : decode cX10_feed 29 = .ok (.getfield 19, 3) := by decide +kernel
theorem dX10_feed_32 : decode cX10_feed 32 = .ok (.iload_n 3, 1) := by decide +kernel
theorem dX10_feed_33 : decode cX10_feed 33 = .ok (.invokevirtual 66, 3) := by decide +kernel
theorem dX10_feed_36 : decode cX10_feed 36 = .ok (.aload_n 0, 1) := by decide +kernel
theorem dX10_feed_37 : decode cX10_feed 37 = .ok (.getfield 19, 3) := by decide +kernel
theorem dX10_feed_40 : decode cX10_feed 40 = .ok (.iload 4, 2) := by decide +kernel
theorem dX10_feed_42 : decode cX10_feed 42 = .ok (.invokevirtual 66, 3) := by decide +kernel
theorem dX10_feed_45 : decode cX10_feed 45 = .ok (.aload_n 0, 1) := by decide +kernel
theorem dX10_feed_46 : decode cX10_feed 46 = .ok (.getfield 19, 3) := by decide +kernel
theorem dX10_feed_49 : decode cX10_feed 49 = .ok (.iload 5, 2) := by decide +kernel
theorem dX10_feed_51 : decode cX10_feed 51 = .ok (.invokevirtual 66, 3) := by decide +kernel
theorem dX10_feed_54 : decode cX10_feed 54 = .ok (.aload_n 0, 1) := by decide +kernel
theorem dX10_feed_55 : decode cX10_feed 55 = .ok (.getfield 19, 3) := by decide +kernel
theorem dX10_feed_58 : decode cX10_feed 58 = .ok (.getfield 70, 3) := by decide +kernel
theorem dX10_feed_61 : decode cX10_feed 61 = .ok (.ireturn, 1) := by decide +kernel
theorem dX10_end_0 : decode cX10_end 0 = .ok (.iload_n 1, 1) := by decide +kernel
theorem dX10_end_1 : decode cX10_end 1 = .ok (.ifCond .lt 14, 3) := by decide +kernel
theorem dX10_end_4 : decode cX10_end 4 = .ok (.iload_n 1, 1) := by decide +kernel
theorem dX10_end_5 : decode cX10_end 5 = .ok (.aload_n 0, 1) := by decide +kernel
theorem dX10_end_6 : decode cX10_end 6 = .ok (.getfield 19, 3) := by decide +kernel
theorem dX10_end_9 : decode cX10_end 9 = .ok (.getfield 70, 3) := by decide +kernel
theorem dX10_end_12 : decode cX10_end 12 = .ok (.if_icmp .le 5, 3) := by decide +kernel
theorem dX10_end_15 : decode cX10_end 15 = .ok (.iconst 0, 1) := by decide +kernel
theorem dX10_end_16 : decode cX10_end 16 = .ok (.ireturn, 1) := by decide +kernel
theorem dX10_end_17 : decode cX10_end 17 = .ok (.aload_n 0, 1) := by decide +kernel
theorem dX10_end_18 : decode cX10_end 18 = .ok (.getfield 19, 3) := by decide +kernel
theorem dX10_end_21 : decode cX10_end 21 = .ok (.iload_n 1, 1) := by decide +kernel
theorem dX10_end_22 : decode cX10_end 22 = .ok (.putfield 70, 3) := by decide +kernel
theorem dX10_end_25 : decode cX10_end 25 = .ok (.iconst 1, 1) := by decide +kernel
theorem dX10_end_26 : decode cX10_end 26 = .ok (.ireturn, 1) := by decide +kernel
theorem dX10_read_0 : decode cX10_read 0 = .ok (.iload_n 1, 1) := by decide +kernel
theorem dX10_read_1 : decode cX10_read 1 = .ok (.invokestatic 74, 3) := by decide +kernel
theorem dX10_read_4 : decode cX10_read 4 = .ok (.ifCond .ne 5, 3) := by decide +kernel
theorem dX10_read_7 : decode cX10_read 7 = .ok (.iconst 0, 1) := by decide +kernel
theorem dX10_read_8 : decode cX10_read 8 = .ok (.ireturn, 1) := by decide +kernel
theorem dX10_read_9 : decode cX10_read 9 = .ok (.aload_n 0, 1) := by decide +kernel
theorem dX10_read_10 : decode cX10_read 10 = .ok (.getfield 19, 3) := by decide +kernel
theorem dX10_read_13 : decode cX10_read 13 = .ok (.invokevirtual 78, 3) := by decide +kernel
theorem dX10_read_16 : decode cX10_read 16 = .ok (.aload_n 0, 1) := by decide +kernel
theorem dX10_read_17 : decode cX10_read 17 = .ok (.getfield 19, 3) := by decide +kernel
theorem dX10_read_20 : decode cX10_read 20 = .ok (.iconst 0, 1) := by decide +kernel
theorem dX10_read_21 : decode cX10_read 21 = .ok (.putfield 70, 3) := by decide +kernel
theorem dX10_read_24 : decode cX10_read 24 = .ok (.aload_n 0, 1) := by decide +kernel
theorem dX10_read_25 : decode cX10_read 25 = .ok (.getfield 19, 3) := by decide +kernel
theorem dX10_read_28 : decode cX10_read 28 = .ok (.getfield 81, 3) := by decide +kernel
theorem dX10_read_31 : decode cX10_read 31 = .ok (.ifCond .eq 5, 3) := by decide +kernel
theorem dX10_read_34 : decode cX10_read 34 = .ok (.iconst 0, 1) := by decide +kernel
theorem dX10_read_35 : decode cX10_read 35 = .ok (.ireturn, 1) := by decide +kernel
theorem dX10_read_36 : decode cX10_read 36 = .ok (.aload_n 0, 1) := by decide +kernel
theorem dX10_read_37 : decode cX10_read 37 = .ok (.getfield 11, 3) := by decide +kernel
theorem dX10_read_40 : decode cX10_read 40 = .ok (.iload_n 1, 1) := by decide +kernel
theorem dX10_read_41 : decode cX10_read 41 = .ok (.aaload, 1) := by decide +kernel
theorem dX10_read_42 : decode cX10_read 42 = .ok (.aload_n 0, 1) := by decide +kernel
theorem dX10_read_43 : decode cX10_read 43 = .ok (.getfield 19, 3) := by decide +kernel
theorem dX10_read_46 : decode cX10_read 46 = .ok (.getfield 84, 3) := by decide +kernel
theorem dX10_read_49 : decode cX10_read 49 = .ok (.invokevirtual 88, 3) := by decide +kernel
theorem dX10_read_52 : decode cX10_read 52 = .ok (.iconst 1, 1) := by decide +kernel
theorem dX10_read_53 : decode cX10_read 53 = .ok (.ireturn, 1) := by decide +kernel
theorem dX10_fault_0 : decode cX10_fault 0 = .ok (.aload_n 0, 1) := by decide +kernel
theorem dX10_fault_1 : decode cX10_fault 1 = .ok (.getfield 19, 3) := by decide +kernel
theorem dX10_fault_4 : decode cX10_fault 4 = .ok (.getfield 81, 3) := by decide +kernel
theorem dX10_fault_7 : decode cX10_fault 7 = .ok (.ireturn, 1) := by decide +kernel
theorem dX10_put_0 : decode cX10_put 0 = .ok (.iload_n 1, 1) := by decide +kernel
theorem dX10_put_1 : decode cX10_put 1 = .ok (.invokestatic 74, 3) := by decide +kernel
theorem dX10_put_4 : decode cX10_put 4 = .ok (.ifCond .eq 28, 3) := by decide +kernel
theorem dX10_put_7 : decode cX10_put 7 = .ok (.iload_n 2, 1) := by decide +kernel
theorem dX10_put_8 : decode cX10_put 8 = .ok (.invokestatic 92, 3) := by decide +kernel
theorem dX10_put_11 : decode cX10_put 11 = .ok (.ifCond .eq 21, 3) := by decide +kernel
theorem dX10_put_14 : decode cX10_put 14 = .ok (.iload_n 3, 1) := by decide +kernel
theorem dX10_put_15 : decode cX10_put 15 = .ok (.i2l, 1) := by decide +kernel
theorem dX10_put_16 : decode cX10_put 16 = .ok (.ldc2_w 95, 3) := by decide +kernel
theorem dX10_put_19 : decode cX10_put 19 = .ok (.lcmp, 1) := by decide +kernel
theorem dX10_put_20 : decode cX10_put 20 = .ok (.ifCond .gt 12, 3) := by decide +kernel
theorem dX10_put_23 : decode cX10_put 23 = .ok (.iload_n 3, 1) := by decide +kernel
theorem dX10_put_24 : decode cX10_put 24 = .ok (.i2l, 1) := by decide +kernel
theorem dX10_put_25 : decode cX10_put 25 = .ok (.ldc2_w 97, 3) := by decide +kernel
theorem dX10_put_28 : decode cX10_put 28 = .ok (.lcmp, 1) := by decide +kernel
theorem dX10_put_29 : decode cX10_put 29 = .ok (.ifCond .ge 5, 3) := by decide +kernel
theorem dX10_put_32 : decode cX10_put 32 = .ok (.iconst 0, 1) := by decide +kernel
theorem dX10_put_33 : decode cX10_put 33 = .ok (.ireturn, 1) := by decide +kernel
theorem dX10_put_34 : decode cX10_put 34 = .ok (.aload_n 0, 1) := by decide +kernel
theorem dX10_put_35 : decode cX10_put 35 = .ok (.getfield 11, 3) := by decide +kernel
theorem dX10_put_38 : decode cX10_put 38 = .ok (.iload_n 1, 1) := by decide +kernel
theorem dX10_put_39 : decode cX10_put 39 = .ok (.aaload, 1) := by decide +kernel
theorem dX10_put_40 : decode cX10_put 40 = .ok (.iload_n 2, 1) := by decide +kernel
theorem dX10_put_41 : decode cX10_put 41 = .ok (.iload_n 3, 1) := by decide +kernel
theorem dX10_put_42 : decode cX10_put 42 = .ok (.i2l, 1) := by decide +kernel
theorem dX10_put_43 : decode cX10_put 43 = .ok (.invokevirtual 99, 3) := by decide +kernel
theorem dX10_put_46 : decode cX10_put 46 = .ok (.iconst 1, 1) := by decide +kernel
theorem dX10_put_47 : decode cX10_put 47 = .ok (.ireturn, 1) := by decide +kernel
theorem dX10_operate_0 : decode cX10_operate 0 = .ok (.iload_n 1, 1) := by decide +kernel
theorem dX10_operate_1 : decode cX10_operate 1 = .ok (.invokestatic 74, 3) := by decide +kernel
theorem dX10_operate_4 : decode cX10_operate 4 = .ok (.ifCond .eq 18, 3) := by decide +kernel
theorem dX10_operate_7 : decode cX10_operate 7 = .ok (.iload_n 2, 1) := by decide +kernel
theorem dX10_operate_8 : decode cX10_operate 8 = .ok (.invokestatic 74, 3) := by decide +kernel
theorem dX10_operate_11 : decode cX10_operate 11 = .ok (.ifCond .eq 11, 3) := by decide +kernel
theorem dX10_operate_14 : decode cX10_operate 14 = .ok (.iload 4, 2) := by decide +kernel
theorem dX10_operate_16 : decode cX10_operate 16 = .ok (.invokestatic 103, 3) := by decide +kernel
theorem dX10_operate_19 : decode cX10_operate 19 = .ok (.ifCond .ne 5, 3) := by decide +kernel
theorem dX10_operate_22 : decode cX10_operate 22 = .ok (.iconst 0, 1) := by decide +kernel
theorem dX10_operate_23 : decode cX10_operate 23 = .ok (.ireturn, 1) := by decide +kernel
theorem dX10_operate_24 : decode cX10_operate 24 = .ok (.aload_n 0, 1) := by decide +kernel
theorem dX10_operate_25 : decode cX10_operate 25 = .ok (.getfield 26, 3) := by decide +kernel
theorem dX10_operate_28 : decode cX10_operate 28 = .ok (.aload_n 0, 1) := by decide +kernel
theorem dX10_operate_29 : decode cX10_operate 29 = .ok (.getfield 11, 3) := by decide +kernel
theorem dX10_operate_32 : decode cX10_operate 32 = .ok (.iload_n 2, 1) := by decide +kernel
theorem dX10_operate_33 : decode cX10_operate 33 = .ok (.aaload, 1) := by decide +kernel
theorem dX10_operate_34 : decode cX10_operate 34 = .ok (.getfield 106, 3) := by decide +kernel
theorem dX10_operate_37 : decode cX10_operate 37 = .ok (.iload_n 3, 1) := by decide +kernel
theorem dX10_operate_38 : decode cX10_operate 38 = .ok (.iload 4, 2) := by decide +kernel
theorem dX10_operate_40 : decode cX10_operate 40 = .ok (.invokevirtual 109, 3) := by decide +kernel
theorem dX10_operate_43 : decode cX10_operate 43 = .ok (.ifCond .ne 5, 3) := by decide +kernel
theorem dX10_operate_46 : decode cX10_operate 46 = .ok (.iconst 0, 1) := by decide +kernel
theorem dX10_operate_47 : decode cX10_operate 47 = .ok (.ireturn, 1) := by decide +kernel
theorem dX10_operate_48 : decode cX10_operate 48 = .ok (.aload_n 0, 1) := by decide +kernel
theorem dX10_operate_49 : decode cX10_operate 49 = .ok (.getfield 11, 3) := by decide +kernel
theorem dX10_operate_52 : decode cX10_operate 52 = .ok (.iload_n 1, 1) := by decide +kernel
theorem dX10_operate_53 : decode cX10_operate 53 = .ok (.aaload, 1) := by decide +kernel
theorem dX10_operate_54 : decode cX10_operate 54 = .ok (.aload_n 0, 1) := by decide +kernel
theorem dX10_operate_55 : decode cX10_operate 55 = .ok (.getfield 26, 3) := by decide +kernel
theorem dX10_operate_58 : decode cX10_operate 58 = .ok (.getfield 113, 3) := by decide +kernel
theorem dX10_operate_61 : decode cX10_operate 61 = .ok (.invokevirtual 88, 3) := by decide +kernel
theorem dX10_operate_64 : decode cX10_operate 64 = .ok (.iconst 1, 1) := by decide +kernel
theorem dX10_operate_65 : decode cX10_operate 65 = .ok (.ireturn, 1) := by decide +kernel
theorem dX10_join_0 : decode cX10_join 0 = .ok (.iload_n 1, 1) := by decide +kernel
theorem dX10_join_1 : decode cX10_join 1 = .ok (.invokestatic 74, 3) := by decide +kernel
theorem dX10_join_4 : decode cX10_join 4 = .ok (.ifCond .eq 33, 3) := by decide +kernel
theorem dX10_join_7 : decode cX10_join 7 = .ok (.iload_n 2, 1) := by decide +kernel
theorem dX10_join_8 : decode cX10_join 8 = .ok (.invokestatic 74, 3) := by decide +kernel
theorem dX10_join_11 : decode cX10_join 11 = .ok (.ifCond .eq 26, 3) := by decide +kernel
theorem dX10_join_14 : decode cX10_join 14 = .ok (.iload_n 3, 1) := by decide +kernel
theorem dX10_join_15 : decode cX10_join 15 = .ok (.invokestatic 74, 3) := by decide +kernel
theorem dX10_join_18 : decode cX10_join 18 = .ok (.ifCond .eq 19, 3) := by decide +kernel
theorem dX10_join_21 : decode cX10_join 21 = .ok (.iload 4, 2) := by decide +kernel
theorem dX10_join_23 : decode cX10_join 23 = .ok (.invokestatic 103, 3) := by decide +kernel
theorem dX10_join_26 : decode cX10_join 26 = .ok (.ifCond .eq 11, 3) := by decide +kernel
theorem dX10_join_29 : decode cX10_join 29 = .ok (.iload 5, 2) := by decide +kernel
theorem dX10_join_31 : decode cX10_join 31 = .ok (.invokestatic 103, 3) := by decide +kernel
theorem dX10_join_34 : decode cX10_join 34 = .ok (.ifCond .ne 5, 3) := by decide +kernel
theorem dX10_join_37 : decode cX10_join 37 = .ok (.iconst 0, 1) := by decide +kernel
theorem dX10_join_38 : decode cX10_join 38 = .ok (.ireturn, 1) := by decide +kernel
theorem dX10_join_39 : decode cX10_join 39 = .ok (.aload_n 0, 1) := by decide +kernel
theorem dX10_join_40 : decode cX10_join 40 = .ok (.getfield 26, 3) := by decide +kernel
theorem dX10_join_43 : decode cX10_join 43 = .ok (.aload_n 0, 1) := by decide +kernel
theorem dX10_join_44 : decode cX10_join 44 = .ok (.getfield 11, 3) := by decide +kernel
theorem dX10_join_47 : decode cX10_join 47 = .ok (.iload_n 2, 1) := by decide +kernel
theorem dX10_join_48 : decode cX10_join 48 = .ok (.aaload, 1) := by decide +kernel
theorem dX10_join_49 : decode cX10_join 49 = .ok (.getfield 106, 3) := by decide +kernel
theorem dX10_join_52 : decode cX10_join 52 = .ok (.aload_n 0, 1) := by decide +kernel
theorem dX10_join_53 : decode cX10_join 53 = .ok (.getfield 11, 3) := by decide +kernel
theorem dX10_join_56 : decode cX10_join 56 = .ok (.iload_n 3, 1) := by decide +kernel
theorem dX10_join_57 : decode cX10_join 57 = .ok (.aaload, 1) := by decide +kernel
theorem dX10_join_58 : decode cX10_join 58 = .ok (.getfield 106, 3) := by decide +kernel
theorem dX10_join_61 : decode cX10_join 61 = .ok (.iload 4, 2) := by decide +kernel
theorem dX10_join_63 : decode cX10_join 63 = .ok (.iload 5, 2) := by decide +kernel
theorem dX10_join_65 : decode cX10_join 65 = .ok (.invokevirtual 116, 3) := by decide +kernel
theorem dX10_join_68 : decode cX10_join 68 = .ok (.ifCond .ne 5, 3) := by decide +kernel
theorem dX10_join_71 : decode cX10_join 71 = .ok (.iconst 0, 1) := by decide +kernel
theorem dX10_join_72 : decode cX10_join 72 = .ok (.ireturn, 1) := by decide +kernel
theorem dX10_join_73 : decode cX10_join 73 = .ok (.aload_n 0, 1) := by decide +kernel
theorem dX10_join_74 : decode cX10_join 74 = .ok (.getfield 11, 3) := by decide +kernel
theorem dX10_join_77 : decode cX10_join 77 = .ok (.iload_n 1, 1) := by decide +kernel
theorem dX10_join_78 : decode cX10_join 78 = .ok (.aaload, 1) := by decide +kernel
theorem dX10_join_79 : decode cX10_join 79 = .ok (.aload_n 0, 1) := by decide +kernel
theorem dX10_join_80 : decode cX10_join 80 = .ok (.getfield 26, 3) := by decide +kernel
theorem dX10_join_83 : decode cX10_join 83 = .ok (.getfield 113, 3) := by decide +kernel
theorem dX10_join_86 : decode cX10_join 86 = .ok (.invokevirtual 88, 3) := by decide +kernel
theorem dX10_join_89 : decode cX10_join 89 = .ok (.iconst 1, 1) := by decide +kernel
theorem dX10_join_90 : decode cX10_join 90 = .ok (.ireturn, 1) := by decide +kernel
theorem dX10_times_0 : decode cX10_times 0 = .ok (.iload_n 1, 1) := by decide +kernel
theorem dX10_times_1 : decode cX10_times 1 = .ok (.invokestatic 74, 3) := by decide +kernel
theorem dX10_times_4 : decode cX10_times 4 = .ok (.ifCond .eq 17, 3) := by decide +kernel
theorem dX10_times_7 : decode cX10_times 7 = .ok (.iload_n 2, 1) := by decide +kernel
theorem dX10_times_8 : decode cX10_times 8 = .ok (.invokestatic 74, 3) := by decide +kernel
theorem dX10_times_11 : decode cX10_times 11 = .ok (.ifCond .eq 10, 3) := by decide +kernel
theorem dX10_times_14 : decode cX10_times 14 = .ok (.iload_n 3, 1) := by decide +kernel
theorem dX10_times_15 : decode cX10_times 15 = .ok (.invokestatic 74, 3) := by decide +kernel
theorem dX10_times_18 : decode cX10_times 18 = .ok (.ifCond .ne 5, 3) := by decide +kernel
theorem dX10_times_21 : decode cX10_times 21 = .ok (.iconst 0, 1) := by decide +kernel
theorem dX10_times_22 : decode cX10_times 22 = .ok (.ireturn, 1) := by decide +kernel
theorem dX10_times_23 : decode cX10_times 23 = .ok (.aload_n 0, 1) := by decide +kernel
theorem dX10_times_24 : decode cX10_times 24 = .ok (.getfield 26, 3) := by decide +kernel
theorem dX10_times_27 : decode cX10_times 27 = .ok (.aload_n 0, 1) := by decide +kernel
theorem dX10_times_28 : decode cX10_times 28 = .ok (.getfield 11, 3) := by decide +kernel
theorem dX10_times_31 : decode cX10_times 31 = .ok (.iload_n 2, 1) := by decide +kernel
theorem dX10_times_32 : decode cX10_times 32 = .ok (.aaload, 1) := by decide +kernel
theorem dX10_times_33 : decode cX10_times 33 = .ok (.getfield 106, 3) := by decide +kernel
theorem dX10_times_36 : decode cX10_times 36 = .ok (.aload_n 0, 1) := by decide +kernel
theorem dX10_times_37 : decode cX10_times 37 = .ok (.getfield 11, 3) := by decide +kernel
theorem dX10_times_40 : decode cX10_times 40 = .ok (.iload_n 3, 1) := by decide +kernel
theorem dX10_times_41 : decode cX10_times 41 = .ok (.aaload, 1) := by decide +kernel
theorem dX10_times_42 : decode cX10_times 42 = .ok (.getfield 106, 3) := by decide +kernel
theorem dX10_times_45 : decode cX10_times 45 = .ok (.invokevirtual 120, 3) := by decide +kernel
theorem dX10_times_48 : decode cX10_times 48 = .ok (.ifCond .ne 5, 3) := by decide +kernel
theorem dX10_times_51 : decode cX10_times 51 = .ok (.iconst 0, 1) := by decide +kernel
theorem dX10_times_52 : decode cX10_times 52 = .ok (.ireturn, 1) := by decide +kernel
theorem dX10_times_53 : decode cX10_times 53 = .ok (.aload_n 0, 1) := by decide +kernel
theorem dX10_times_54 : decode cX10_times 54 = .ok (.getfield 11, 3) := by decide +kernel
theorem dX10_times_57 : decode cX10_times 57 = .ok (.iload_n 1, 1) := by decide +kernel
theorem dX10_times_58 : decode cX10_times 58 = .ok (.aaload, 1) := by decide +kernel
theorem dX10_times_59 : decode cX10_times 59 = .ok (.aload_n 0, 1) := by decide +kernel
theorem dX10_times_60 : decode cX10_times 60 = .ok (.getfield 26, 3) := by decide +kernel
theorem dX10_times_63 : decode cX10_times 63 = .ok (.getfield 113, 3) := by decide +kernel
theorem dX10_times_66 : decode cX10_times 66 = .ok (.invokevirtual 88, 3) := by decide +kernel
theorem dX10_times_69 : decode cX10_times 69 = .ok (.iconst 1, 1) := by decide +kernel
theorem dX10_times_70 : decode cX10_times 70 = .ok (.ireturn, 1) := by decide +kernel
theorem dX10_number_0 : decode cX10_number 0 = .ok (.iload_n 1, 1) := by decide +kernel
theorem dX10_number_1 : decode cX10_number 1 = .ok (.invokestatic 74, 3) := by decide +kernel
theorem dX10_number_4 : decode cX10_number 4 = .ok (.ifCond .eq 10, 3) := by decide +kernel
theorem dX10_number_7 : decode cX10_number 7 = .ok (.iload_n 2, 1) := by decide +kernel
theorem dX10_number_8 : decode cX10_number 8 = .ok (.invokestatic 92, 3) := by decide +kernel
theorem dX10_number_11 : decode cX10_number 11 = .ok (.ifCond .ne 7, 3) := by decide +kernel
theorem dX10_number_14 : decode cX10_number 14 = .ok (.ldc2_w 124, 3) := by decide +kernel
theorem dX10_number_17 : decode cX10_number 17 = .ok (.lreturn, 1) := by decide +kernel
theorem dX10_number_18 : decode cX10_number 18 = .ok (.aload_n 0, 1) := by decide +kernel
theorem dX10_number_19 : decode cX10_number 19 = .ok (.getfield 11, 3) := by decide +kernel
theorem dX10_number_22 : decode cX10_number 22 = .ok (.iload_n 1, 1) := by decide +kernel
theorem dX10_number_23 : decode cX10_number 23 = .ok (.aaload, 1) := by decide +kernel
theorem dX10_number_24 : decode cX10_number 24 = .ok (.getfield 106, 3) := by decide +kernel
theorem dX10_number_27 : decode cX10_number 27 = .ok (.iload_n 2, 1) := by decide +kernel
theorem dX10_number_28 : decode cX10_number 28 = .ok (.laload, 1) := by decide +kernel
theorem dX10_number_29 : decode cX10_number 29 = .ok (.lreturn, 1) := by decide +kernel
theorem dX10_count_0 : decode cX10_count 0 = .ok (.iload_n 1, 1) := by decide +kernel
theorem dX10_count_1 : decode cX10_count 1 = .ok (.invokestatic 74, 3) := by decide +kernel
theorem dX10_count_4 : decode cX10_count 4 = .ok (.ifCond .eq 13, 3) := by decide +kernel
theorem dX10_count_7 : decode cX10_count 7 = .ok (.iload_n 2, 1) := by decide +kernel
theorem dX10_count_8 : decode cX10_count 8 = .ok (.ifCond .lt 9, 3) := by decide +kernel
theorem dX10_count_11 : decode cX10_count 11 = .ok (.iload_n 2, 1) := by decide +kernel
theorem dX10_count_12 : decode cX10_count 12 = .ok (.bipush 7, 2) := by decide +kernel
theorem dX10_count_14 : decode cX10_count 14 = .ok (.if_icmp .le 5, 3) := by decide +kernel
theorem dX10_count_17 : decode cX10_count 17 = .ok (.iconst (-1), 1) := by decide +kernel
theorem dX10_count_18 : decode cX10_count 18 = .ok (.ireturn, 1) := by decide +kernel
theorem dX10_count_19 : decode cX10_count 19 = .ok (.aload_n 0, 1) := by decide +kernel
theorem dX10_count_20 : decode cX10_count 20 = .ok (.getfield 11, 3) := by decide +kernel
theorem dX10_count_23 : decode cX10_count 23 = .ok (.iload_n 1, 1) := by decide +kernel
theorem dX10_count_24 : decode cX10_count 24 = .ok (.aaload, 1) := by decide +kernel
theorem dX10_count_25 : decode cX10_count 25 = .ok (.astore_n 3, 1) := by decide +kernel
theorem dX10_count_26 : decode cX10_count 26 = .ok (.aload_n 3, 1) := by decide +kernel
theorem dX10_count_27 : decode cX10_count 27 = .ok (.getfield 106, 3) := by decide +kernel
theorem dX10_count_30 : decode cX10_count 30 = .ok (.invokestatic 126, 3) := by decide +kernel
theorem dX10_count_33 : decode cX10_count 33 = .ok (.istore 4, 2) := by decide +kernel
theorem dX10_count_35 : decode cX10_count 35 = .ok (.iload_n 2, 1) := by decide +kernel
theorem dX10_count_36 : decode cX10_count 36 = .ok (.ifCond .ne 6, 3) := by decide +kernel
theorem dX10_count_39 : decode cX10_count 39 = .ok (.iload 4, 2) := by decide +kernel
theorem dX10_count_41 : decode cX10_count 41 = .ok (.ireturn, 1) := by decide +kernel
theorem dX10_count_42 : decode cX10_count 42 = .ok (.iload_n 2, 1) := by decide +kernel
theorem dX10_count_43 : decode cX10_count 43 = .ok (.bipush 7, 2) := by decide +kernel
theorem dX10_count_45 : decode cX10_count 45 = .ok (.if_icmp .ne 19, 3) := by decide +kernel
theorem dX10_count_48 : decode cX10_count 48 = .ok (.aload_n 3, 1) := by decide +kernel
theorem dX10_count_49 : decode cX10_count 49 = .ok (.getfield 106, 3) := by decide +kernel
theorem dX10_count_52 : decode cX10_count 52 = .ok (.invokestatic 132, 3) := by decide +kernel
theorem dX10_count_55 : decode cX10_count 55 = .ok (.ifCond .eq 7, 3) := by decide +kernel
theorem dX10_count_58 : decode cX10_count 58 = .ok (.iconst 1, 1) := by decide +kernel
theorem dX10_count_59 : decode cX10_count 59 = .ok (.goto 4, 3) := by decide +kernel
theorem dX10_count_62 : decode cX10_count 62 = .ok (.iconst 0, 1) := by decide +kernel
theorem dX10_count_63 : decode cX10_count 63 = .ok (.ireturn, 1) := by decide +kernel
theorem dX10_count_64 : decode cX10_count 64 = .ok (.aload_n 0, 1) := by decide +kernel
theorem dX10_count_65 : decode cX10_count 65 = .ok (.getfield 49, 3) := by decide +kernel
theorem dX10_count_68 : decode cX10_count 68 = .ok (.aload_n 3, 1) := by decide +kernel
theorem dX10_count_69 : decode cX10_count 69 = .ok (.invokevirtual 138, 3) := by decide +kernel
theorem dX10_count_72 : decode cX10_count 72 = .ok (.iload_n 2, 1) := by decide +kernel
theorem dX10_count_73 : decode cX10_count 73 = .ok (.tableswitch 80 1 5 #[35, 40, 57, 62, 67], 35) := by decide +kernel
theorem dX10_count_108 : decode cX10_count 108 = .ok (.aload_n 3, 1) := by decide +kernel
theorem dX10_count_109 : decode cX10_count 109 = .ok (.getfield 142, 3) := by decide +kernel
theorem dX10_count_112 : decode cX10_count 112 = .ok (.ireturn, 1) := by decide +kernel
theorem dX10_count_113 : decode cX10_count 113 = .ok (.iload 4, 2) := by decide +kernel
theorem dX10_count_115 : decode cX10_count 115 = .ok (.ifCond .ge 7, 3) := by decide +kernel
theorem dX10_count_118 : decode cX10_count 118 = .ok (.iconst (-1), 1) := by decide +kernel
theorem dX10_count_119 : decode cX10_count 119 = .ok (.goto 10, 3) := by decide +kernel
theorem dX10_count_122 : decode cX10_count 122 = .ok (.iload 4, 2) := by decide +kernel
theorem dX10_count_124 : decode cX10_count 124 = .ok (.aload_n 3, 1) := by decide +kernel
theorem dX10_count_125 : decode cX10_count 125 = .ok (.getfield 142, 3) := by decide +kernel
theorem dX10_count_128 : decode cX10_count 128 = .ok (.isub, 1) := by decide +kernel
theorem dX10_count_129 : decode cX10_count 129 = .ok (.ireturn, 1) := by decide +kernel
theorem dX10_count_130 : decode cX10_count 130 = .ok (.aload_n 3, 1) := by decide +kernel
theorem dX10_count_131 : decode cX10_count 131 = .ok (.getfield 145, 3) := by decide +kernel
theorem dX10_count_134 : decode cX10_count 134 = .ok (.ireturn, 1) := by decide +kernel
theorem dX10_count_135 : decode cX10_count 135 = .ok (.aload_n 3, 1) := by decide +kernel
theorem dX10_count_136 : decode cX10_count 136 = .ok (.getfield 148, 3) := by decide +kernel
theorem dX10_count_139 : decode cX10_count 139 = .ok (.ireturn, 1) := by decide +kernel
theorem dX10_count_140 : decode cX10_count 140 = .ok (.aload_n 3, 1) := by decide +kernel
theorem dX10_count_141 : decode cX10_count 141 = .ok (.getfield 151, 3) := by decide +kernel
theorem dX10_count_144 : decode cX10_count 144 = .ok (.ifCond .eq 7, 3) := by decide +kernel
theorem dX10_count_147 : decode cX10_count 147 = .ok (.iconst 1, 1) := by decide +kernel
theorem dX10_count_148 : decode cX10_count 148 = .ok (.goto 4, 3) := by decide +kernel
theorem dX10_count_151 : decode cX10_count 151 = .ok (.iconst 0, 1) := by decide +kernel
theorem dX10_count_152 : decode cX10_count 152 = .ok (.ireturn, 1) := by decide +kernel
theorem dX10_count_153 : decode cX10_count 153 = .ok (.aload_n 3, 1) := by decide +kernel
theorem dX10_count_154 : decode cX10_count 154 = .ok (.getfield 155, 3) := by decide +kernel
theorem dX10_count_157 : decode cX10_count 157 = .ok (.ireturn, 1) := by decide +kernel
theorem dX10_root_0 : decode cX10_root 0 = .ok (.iload_n 1, 1) := by decide +kernel
theorem dX10_root_1 : decode cX10_root 1 = .ok (.invokestatic 74, 3) := by decide +kernel
theorem dX10_root_4 : decode cX10_root 4 = .ok (.ifCond .eq 10, 3) := by decide +kernel
theorem dX10_root_7 : decode cX10_root 7 = .ok (.iload_n 3, 1) := by decide +kernel
theorem dX10_root_8 : decode cX10_root 8 = .ok (.invokestatic 158, 3) := by decide +kernel
theorem dX10_root_11 : decode cX10_root 11 = .ok (.ifCond .ne 7, 3) := by decide +kernel
theorem dX10_root_14 : decode cX10_root 14 = .ok (.ldc2_w 124, 3) := by decide +kernel
theorem dX10_root_17 : decode cX10_root 17 = .ok (.lreturn, 1) := by decide +kernel
theorem dX10_root_18 : decode cX10_root 18 = .ok (.aload_n 0, 1) := by decide +kernel
theorem dX10_root_19 : decode cX10_root 19 = .ok (.getfield 11, 3) := by decide +kernel
theorem dX10_root_22 : decode cX10_root 22 = .ok (.iload_n 1, 1) := by decide +kernel
theorem dX10_root_23 : decode cX10_root 23 = .ok (.aaload, 1) := by decide +kernel
theorem dX10_root_24 : decode cX10_root 24 = .ok (.astore 4, 2) := by decide +kernel
theorem dX10_root_26 : decode cX10_root 26 = .ok (.aload_n 0, 1) := by decide +kernel
theorem dX10_root_27 : decode cX10_root 27 = .ok (.getfield 49, 3) := by decide +kernel
theorem dX10_root_30 : decode cX10_root 30 = .ok (.aload 4, 2) := by decide +kernel
theorem dX10_root_32 : decode cX10_root 32 = .ok (.invokevirtual 138, 3) := by decide +kernel
theorem dX10_root_35 : decode cX10_root 35 = .ok (.aload_n 0, 1) := by decide +kernel
theorem dX10_root_36 : decode cX10_root 36 = .ok (.getfield 58, 3) := by decide +kernel
theorem dX10_root_39 : decode cX10_root 39 = .ok (.aload 4, 2) := by decide +kernel
theorem dX10_root_41 : decode cX10_root 41 = .ok (.invokevirtual 161, 3) := by decide +kernel
theorem dX10_root_44 : decode cX10_root 44 = .ok (.aload 4, 2) := by decide +kernel
theorem dX10_root_46 : decode cX10_root 46 = .ok (.iload_n 2, 1) := by decide +kernel
theorem dX10_root_47 : decode cX10_root 47 = .ok (.invokevirtual 164, 3) := by decide +kernel
theorem dX10_root_50 : decode cX10_root 50 = .ok (.istore 5, 2) := by decide +kernel
theorem dX10_root_52 : decode cX10_root 52 = .ok (.iload 5, 2) := by decide +kernel
theorem dX10_root_54 : decode cX10_root 54 = .ok (.ifCond .lt 10, 3) := by decide +kernel
theorem dX10_root_57 : decode cX10_root 57 = .ok (.iload 5, 2) := by decide +kernel
theorem dX10_root_59 : decode cX10_root 59 = .ok (.bipush 8, 2) := by decide +kernel
theorem dX10_root_61 : decode cX10_root 61 = .ok (.if_icmp .lt 7, 3) := by decide +kernel
theorem dX10_root_64 : decode cX10_root 64 = .ok (.ldc2_w 124, 3) := by decide +kernel
theorem dX10_root_67 : decode cX10_root 67 = .ok (.lreturn, 1) := by decide +kernel
theorem dX10_root_68 : decode cX10_root 68 = .ok (.aload 4, 2) := by decide +kernel
theorem dX10_root_70 : decode cX10_root 70 = .ok (.iload 5, 2) := by decide +kernel
theorem dX10_root_72 : decode cX10_root 72 = .ok (.invokevirtual 168, 3) := by decide +kernel
theorem dX10_root_75 : decode cX10_root 75 = .ok (.bipush 12, 2) := by decide +kernel
theorem dX10_root_77 : decode cX10_root 77 = .ok (.iload_n 3, 1) := by decide +kernel
theorem dX10_root_78 : decode cX10_root 78 = .ok (.isub, 1) := by decide +kernel
theorem dX10_root_79 : decode cX10_root 79 = .ok (.lshr, 1) := by decide +kernel
theorem dX10_root_80 : decode cX10_root 80 = .ok (.lreturn, 1) := by decide +kernel
theorem dX10_often_0 : decode cX10_often 0 = .ok (.iload_n 1, 1) := by decide +kernel
theorem dX10_often_1 : decode cX10_often 1 = .ok (.invokestatic 74, 3) := by decide +kernel
theorem dX10_often_4 : decode cX10_often 4 = .ok (.ifCond .ne 5, 3) := by decide +kernel
theorem dX10_often_7 : decode cX10_often 7 = .ok (.iconst (-1), 1) := by decide +kernel
theorem dX10_often_8 : decode cX10_often 8 = .ok (.ireturn, 1) := by decide +kernel
theorem dX10_often_9 : decode cX10_often 9 = .ok (.aload_n 0, 1) := by decide +kernel
theorem dX10_often_10 : decode cX10_often 10 = .ok (.getfield 11, 3) := by decide +kernel
theorem dX10_often_13 : decode cX10_often 13 = .ok (.iload_n 1, 1) := by decide +kernel
theorem dX10_often_14 : decode cX10_often 14 = .ok (.aaload, 1) := by decide +kernel
theorem dX10_often_15 : decode cX10_often 15 = .ok (.astore_n 3, 1) := by decide +kernel
theorem dX10_often_16 : decode cX10_often 16 = .ok (.aload_n 0, 1) := by decide +kernel
theorem dX10_often_17 : decode cX10_often 17 = .ok (.getfield 49, 3) := by decide +kernel
theorem dX10_often_20 : decode cX10_often 20 = .ok (.aload_n 3, 1) := by decide +kernel
theorem dX10_often_21 : decode cX10_often 21 = .ok (.invokevirtual 138, 3) := by decide +kernel
theorem dX10_often_24 : decode cX10_often 24 = .ok (.aload_n 0, 1) := by decide +kernel
theorem dX10_often_25 : decode cX10_often 25 = .ok (.getfield 58, 3) := by decide +kernel
theorem dX10_often_28 : decode cX10_often 28 = .ok (.aload_n 3, 1) := by decide +kernel
theorem dX10_often_29 : decode cX10_often 29 = .ok (.invokevirtual 161, 3) := by decide +kernel
theorem dX10_often_32 : decode cX10_often 32 = .ok (.aload_n 3, 1) := by decide +kernel
theorem dX10_often_33 : decode cX10_often 33 = .ok (.iload_n 2, 1) := by decide +kernel
theorem dX10_often_34 : decode cX10_often 34 = .ok (.invokevirtual 164, 3) := by decide +kernel
theorem dX10_often_37 : decode cX10_often 37 = .ok (.istore 4, 2) := by decide +kernel
theorem dX10_often_39 : decode cX10_often 39 = .ok (.iload 4, 2) := by decide +kernel
theorem dX10_often_41 : decode cX10_often 41 = .ok (.ifCond .lt 10, 3) := by decide +kernel
theorem dX10_often_44 : decode cX10_often 44 = .ok (.iload 4, 2) := by decide +kernel
theorem dX10_often_46 : decode cX10_often 46 = .ok (.bipush 8, 2) := by decide +kernel
theorem dX10_often_48 : decode cX10_often 48 = .ok (.if_icmp .lt 5, 3) := by decide +kernel
theorem dX10_often_51 : decode cX10_often 51 = .ok (.iconst (-1), 1) := by decide +kernel
theorem dX10_often_52 : decode cX10_often 52 = .ok (.ireturn, 1) := by decide +kernel
theorem dX10_often_53 : decode cX10_often 53 = .ok (.aload_n 3, 1) := by decide +kernel
theorem dX10_often_54 : decode cX10_often 54 = .ok (.getfield 172, 3) := by decide +kernel
theorem dX10_often_57 : decode cX10_often 57 = .ok (.iload 4, 2) := by decide +kernel
theorem dX10_often_59 : decode cX10_often 59 = .ok (.iaload, 1) := by decide +kernel
theorem dX10_often_60 : decode cX10_often 60 = .ok (.ireturn, 1) := by decide +kernel
theorem dX10_between_0 : decode cX10_between 0 = .ok (.iload_n 1, 1) := by decide +kernel
theorem dX10_between_1 : decode cX10_between 1 = .ok (.invokestatic 74, 3) := by decide +kernel
theorem dX10_between_4 : decode cX10_between 4 = .ok (.ifCond .eq 8, 3) := by decide +kernel
theorem dX10_between_7 : decode cX10_between 7 = .ok (.iload_n 2, 1) := by decide +kernel
theorem dX10_between_8 : decode cX10_between 8 = .ok (.iload_n 3, 1) := by decide +kernel
theorem dX10_between_9 : decode cX10_between 9 = .ok (.if_icmp .le 5, 3) := by decide +kernel
theorem dX10_between_12 : decode cX10_between 12 = .ok (.iconst (-1), 1) := by decide +kernel
theorem dX10_between_13 : decode cX10_between 13 = .ok (.ireturn, 1) := by decide +kernel
theorem dX10_between_14 : decode cX10_between 14 = .ok (.aload_n 0, 1) := by decide +kernel
theorem dX10_between_15 : decode cX10_between 15 = .ok (.getfield 11, 3) := by decide +kernel
theorem dX10_between_18 : decode cX10_between 18 = .ok (.iload_n 1, 1) := by decide +kernel
theorem dX10_between_19 : decode cX10_between 19 = .ok (.aaload, 1) := by decide +kernel
theorem dX10_between_20 : decode cX10_between 20 = .ok (.astore 4, 2) := by decide +kernel
theorem dX10_between_22 : decode cX10_between 22 = .ok (.aload_n 0, 1) := by decide +kernel
theorem dX10_between_23 : decode cX10_between 23 = .ok (.getfield 49, 3) := by decide +kernel
theorem dX10_between_26 : decode cX10_between 26 = .ok (.aload 4, 2) := by decide +kernel
theorem dX10_between_28 : decode cX10_between 28 = .ok (.invokevirtual 138, 3) := by decide +kernel
theorem dX10_between_31 : decode cX10_between 31 = .ok (.aload_n 0, 1) := by decide +kernel
theorem dX10_between_32 : decode cX10_between 32 = .ok (.getfield 58, 3) := by decide +kernel
theorem dX10_between_35 : decode cX10_between 35 = .ok (.aload 4, 2) := by decide +kernel
theorem dX10_between_37 : decode cX10_between 37 = .ok (.invokevirtual 161, 3) := by decide +kernel
theorem dX10_between_40 : decode cX10_between 40 = .ok (.aload 4, 2) := by decide +kernel
theorem dX10_between_42 : decode cX10_between 42 = .ok (.iload_n 3, 1) := by decide +kernel
theorem dX10_between_43 : decode cX10_between 43 = .ok (.invokevirtual 176, 3) := by decide +kernel
theorem dX10_between_46 : decode cX10_between 46 = .ok (.aload 4, 2) := by decide +kernel
theorem dX10_between_48 : decode cX10_between 48 = .ok (.iload_n 2, 1) := by decide +kernel
theorem dX10_between_49 : decode cX10_between 49 = .ok (.invokevirtual 176, 3) := by decide +kernel
theorem dX10_between_52 : decode cX10_between 52 = .ok (.isub, 1) := by decide +kernel
theorem dX10_between_53 : decode cX10_between 53 = .ok (.ireturn, 1) := by decide +kernel
theorem dX10_sign_0 : decode cX10_sign 0 = .ok (.iload_n 1, 1) := by decide +kernel
theorem dX10_sign_1 : decode cX10_sign 1 = .ok (.invokestatic 74, 3) := by decide +kernel
theorem dX10_sign_4 : decode cX10_sign 4 = .ok (.ifCond .eq 10, 3) := by decide +kernel
theorem dX10_sign_7 : decode cX10_sign 7 = .ok (.iload_n 3, 1) := by decide +kernel
theorem dX10_sign_8 : decode cX10_sign 8 = .ok (.invokestatic 158, 3) := by decide +kernel
theorem dX10_sign_11 : decode cX10_sign 11 = .ok (.ifCond .ne 6, 3) := by decide +kernel
theorem dX10_sign_14 : decode cX10_sign 14 = .ok (.bipush (-2), 2) := by decide +kernel
theorem dX10_sign_16 : decode cX10_sign 16 = .ok (.ireturn, 1) := by decide +kernel
theorem dX10_sign_17 : decode cX10_sign 17 = .ok (.aload_n 0, 1) := by decide +kernel
theorem dX10_sign_18 : decode cX10_sign 18 = .ok (.getfield 40, 3) := by decide +kernel
theorem dX10_sign_21 : decode cX10_sign 21 = .ok (.iload_n 2, 1) := by decide +kernel
theorem dX10_sign_22 : decode cX10_sign 22 = .ok (.i2l, 1) := by decide +kernel
theorem dX10_sign_23 : decode cX10_sign 23 = .ok (.iload_n 3, 1) := by decide +kernel
theorem dX10_sign_24 : decode cX10_sign 24 = .ok (.invokevirtual 179, 3) := by decide +kernel
theorem dX10_sign_27 : decode cX10_sign 27 = .ok (.aload_n 0, 1) := by decide +kernel
theorem dX10_sign_28 : decode cX10_sign 28 = .ok (.getfield 40, 3) := by decide +kernel
theorem dX10_sign_31 : decode cX10_sign 31 = .ok (.aload_n 0, 1) := by decide +kernel
theorem dX10_sign_32 : decode cX10_sign 32 = .ok (.getfield 11, 3) := by decide +kernel
theorem dX10_sign_35 : decode cX10_sign 35 = .ok (.iload_n 1, 1) := by decide +kernel
theorem dX10_sign_36 : decode cX10_sign 36 = .ok (.aaload, 1) := by decide +kernel
theorem dX10_sign_37 : decode cX10_sign 37 = .ok (.getfield 106, 3) := by decide +kernel
theorem dX10_sign_40 : decode cX10_sign 40 = .ok (.invokevirtual 183, 3) := by decide +kernel
theorem dX10_sign_43 : decode cX10_sign 43 = .ok (.ireturn, 1) := by decide +kernel
theorem dX10_laced_0 : decode cX10_laced 0 = .ok (.iload_n 1, 1) := by decide +kernel
theorem dX10_laced_1 : decode cX10_laced 1 = .ok (.invokestatic 74, 3) := by decide +kernel
theorem dX10_laced_4 : decode cX10_laced 4 = .ok (.ifCond .eq 10, 3) := by decide +kernel
theorem dX10_laced_7 : decode cX10_laced 7 = .ok (.iload_n 2, 1) := by decide +kernel
theorem dX10_laced_8 : decode cX10_laced 8 = .ok (.invokestatic 74, 3) := by decide +kernel
theorem dX10_laced_11 : decode cX10_laced 11 = .ok (.ifCond .ne 5, 3) := by decide +kernel
theorem dX10_laced_14 : decode cX10_laced 14 = .ok (.iconst (-1), 1) := by decide +kernel
theorem dX10_laced_15 : decode cX10_laced 15 = .ok (.ireturn, 1) := by decide +kernel
theorem dX10_laced_16 : decode cX10_laced 16 = .ok (.aload_n 0, 1) := by decide +kernel
theorem dX10_laced_17 : decode cX10_laced 17 = .ok (.getfield 49, 3) := by decide +kernel
theorem dX10_laced_20 : decode cX10_laced 20 = .ok (.aload_n 0, 1) := by decide +kernel
theorem dX10_laced_21 : decode cX10_laced 21 = .ok (.getfield 11, 3) := by decide +kernel
theorem dX10_laced_24 : decode cX10_laced 24 = .ok (.iload_n 1, 1) := by decide +kernel
theorem dX10_laced_25 : decode cX10_laced 25 = .ok (.aaload, 1) := by decide +kernel
theorem dX10_laced_26 : decode cX10_laced 26 = .ok (.invokevirtual 138, 3) := by decide +kernel
theorem dX10_laced_29 : decode cX10_laced 29 = .ok (.aload_n 0, 1) := by decide +kernel
theorem dX10_laced_30 : decode cX10_laced 30 = .ok (.getfield 49, 3) := by decide +kernel
theorem dX10_laced_33 : decode cX10_laced 33 = .ok (.aload_n 0, 1) := by decide +kernel
theorem dX10_laced_34 : decode cX10_laced 34 = .ok (.getfield 11, 3) := by decide +kernel
theorem dX10_laced_37 : decode cX10_laced 37 = .ok (.iload_n 2, 1) := by decide +kernel
theorem dX10_laced_38 : decode cX10_laced 38 = .ok (.aaload, 1) := by decide +kernel
theorem dX10_laced_39 : decode cX10_laced 39 = .ok (.invokevirtual 138, 3) := by decide +kernel
theorem dX10_laced_42 : decode cX10_laced 42 = .ok (.aload_n 0, 1) := by decide +kernel
theorem dX10_laced_43 : decode cX10_laced 43 = .ok (.aload_n 0, 1) := by decide +kernel
theorem dX10_laced_44 : decode cX10_laced 44 = .ok (.getfield 11, 3) := by decide +kernel
theorem dX10_laced_47 : decode cX10_laced 47 = .ok (.iload_n 1, 1) := by decide +kernel
theorem dX10_laced_48 : decode cX10_laced 48 = .ok (.aaload, 1) := by decide +kernel
theorem dX10_laced_49 : decode cX10_laced 49 = .ok (.aload_n 0, 1) := by decide +kernel
theorem dX10_laced_50 : decode cX10_laced 50 = .ok (.getfield 11, 3) := by decide +kernel
theorem dX10_laced_53 : decode cX10_laced 53 = .ok (.iload_n 2, 1) := by decide +kernel
theorem dX10_laced_54 : decode cX10_laced 54 = .ok (.aaload, 1) := by decide +kernel
theorem dX10_laced_55 : decode cX10_laced 55 = .ok (.invokevirtual 186, 3) := by decide +kernel
theorem dX10_laced_58 : decode cX10_laced 58 = .ok (.ifCond .eq 7, 3) := by decide +kernel
theorem dX10_laced_61 : decode cX10_laced 61 = .ok (.iconst 1, 1) := by decide +kernel
theorem dX10_laced_62 : decode cX10_laced 62 = .ok (.goto 4, 3) := by decide +kernel
theorem dX10_laced_65 : decode cX10_laced 65 = .ok (.iconst 0, 1) := by decide +kernel
theorem dX10_laced_66 : decode cX10_laced 66 = .ok (.ireturn, 1) := by decide +kernel
theorem dX10_chain_0 : decode cX10_chain 0 = .ok (.iload_n 1, 1) := by decide +kernel
theorem dX10_chain_1 : decode cX10_chain 1 = .ok (.invokestatic 74, 3) := by decide +kernel
theorem dX10_chain_4 : decode cX10_chain 4 = .ok (.ifCond .eq 10, 3) := by decide +kernel
theorem dX10_chain_7 : decode cX10_chain 7 = .ok (.iload_n 2, 1) := by decide +kernel
theorem dX10_chain_8 : decode cX10_chain 8 = .ok (.invokestatic 74, 3) := by decide +kernel
theorem dX10_chain_11 : decode cX10_chain 11 = .ok (.ifCond .ne 6, 3) := by decide +kernel
theorem dX10_chain_14 : decode cX10_chain 14 = .ok (.bipush (-2), 2) := by decide +kernel
theorem dX10_chain_16 : decode cX10_chain 16 = .ok (.ireturn, 1) := by decide +kernel
theorem dX10_chain_17 : decode cX10_chain 17 = .ok (.iload_n 1, 1) := by decide +kernel
theorem dX10_chain_18 : decode cX10_chain 18 = .ok (.istore_n 3, 1) := by decide +kernel
theorem dX10_chain_19 : decode cX10_chain 19 = .ok (.iload_n 3, 1) := by decide +kernel
theorem dX10_chain_20 : decode cX10_chain 20 = .ok (.iload_n 2, 1) := by decide +kernel
theorem dX10_chain_21 : decode cX10_chain 21 = .ok (.if_icmp .ge 60, 3) := by decide +kernel
theorem dX10_chain_24 : decode cX10_chain 24 = .ok (.aload_n 0, 1) := by decide +kernel
theorem dX10_chain_25 : decode cX10_chain 25 = .ok (.getfield 49, 3) := by decide +kernel
theorem dX10_chain_28 : decode cX10_chain 28 = .ok (.aload_n 0, 1) := by decide +kernel
theorem dX10_chain_29 : decode cX10_chain 29 = .ok (.getfield 11, 3) := by decide +kernel
theorem dX10_chain_32 : decode cX10_chain 32 = .ok (.iload_n 3, 1) := by decide +kernel
theorem dX10_chain_33 : decode cX10_chain 33 = .ok (.iconst 1, 1) := by decide +kernel
theorem dX10_chain_34 : decode cX10_chain 34 = .ok (.iadd, 1) := by decide +kernel
theorem dX10_chain_35 : decode cX10_chain 35 = .ok (.aaload, 1) := by decide +kernel
theorem dX10_chain_36 : decode cX10_chain 36 = .ok (.invokevirtual 138, 3) := by decide +kernel
theorem dX10_chain_39 : decode cX10_chain 39 = .ok (.aload_n 0, 1) := by decide +kernel
theorem dX10_chain_40 : decode cX10_chain 40 = .ok (.getfield 49, 3) := by decide +kernel
theorem dX10_chain_43 : decode cX10_chain 43 = .ok (.aload_n 0, 1) := by decide +kernel
theorem dX10_chain_44 : decode cX10_chain 44 = .ok (.getfield 11, 3) := by decide +kernel
theorem dX10_chain_47 : decode cX10_chain 47 = .ok (.iload_n 3, 1) := by decide +kernel
theorem dX10_chain_48 : decode cX10_chain 48 = .ok (.aaload, 1) := by decide +kernel
theorem dX10_chain_49 : decode cX10_chain 49 = .ok (.invokevirtual 138, 3) := by decide +kernel
theorem dX10_chain_52 : decode cX10_chain 52 = .ok (.aload_n 0, 1) := by decide +kernel
theorem dX10_chain_53 : decode cX10_chain 53 = .ok (.aload_n 0, 1) := by decide +kernel
theorem dX10_chain_54 : decode cX10_chain 54 = .ok (.getfield 11, 3) := by decide +kernel
theorem dX10_chain_57 : decode cX10_chain 57 = .ok (.iload_n 3, 1) := by decide +kernel
theorem dX10_chain_58 : decode cX10_chain 58 = .ok (.iconst 1, 1) := by decide +kernel
theorem dX10_chain_59 : decode cX10_chain 59 = .ok (.iadd, 1) := by decide +kernel
theorem dX10_chain_60 : decode cX10_chain 60 = .ok (.aaload, 1) := by decide +kernel
theorem dX10_chain_61 : decode cX10_chain 61 = .ok (.aload_n 0, 1) := by decide +kernel
theorem dX10_chain_62 : decode cX10_chain 62 = .ok (.getfield 11, 3) := by decide +kernel
theorem dX10_chain_65 : decode cX10_chain 65 = .ok (.iload_n 3, 1) := by decide +kernel
theorem dX10_chain_66 : decode cX10_chain 66 = .ok (.aaload, 1) := by decide +kernel
theorem dX10_chain_67 : decode cX10_chain 67 = .ok (.invokevirtual 186, 3) := by decide +kernel
theorem dX10_chain_70 : decode cX10_chain 70 = .ok (.ifCond .ne 5, 3) := by decide +kernel
theorem dX10_chain_73 : decode cX10_chain 73 = .ok (.iload_n 3, 1) := by decide +kernel
theorem dX10_chain_74 : decode cX10_chain 74 = .ok (.ireturn, 1) := by decide +kernel
theorem dX10_chain_75 : decode cX10_chain 75 = .ok (.iinc 3 1, 3) := by decide +kernel
theorem dX10_chain_78 : decode cX10_chain 78 = .ok (.goto (-59), 3) := by decide +kernel
theorem dX10_chain_81 : decode cX10_chain 81 = .ok (.iconst (-1), 1) := by decide +kernel
theorem dX10_chain_82 : decode cX10_chain 82 = .ok (.ireturn, 1) := by decide +kernel
theorem dX10_member_0 : decode cX10_member 0 = .ok (.iload_n 1, 1) := by decide +kernel
theorem dX10_member_1 : decode cX10_member 1 = .ok (.invokestatic 74, 3) := by decide +kernel
theorem dX10_member_4 : decode cX10_member 4 = .ok (.ifCond .eq 12, 3) := by decide +kernel
theorem dX10_member_7 : decode cX10_member 7 = .ok (.iload_n 3, 1) := by decide +kernel
theorem dX10_member_8 : decode cX10_member 8 = .ok (.ifCond .lt 8, 3) := by decide +kernel
theorem dX10_member_11 : decode cX10_member 11 = .ok (.iload_n 3, 1) := by decide +kernel
theorem dX10_member_12 : decode cX10_member 12 = .ok (.iconst 1, 1) := by decide +kernel
theorem dX10_member_13 : decode cX10_member 13 = .ok (.if_icmp .le 5, 3) := by decide +kernel
theorem dX10_member_16 : decode cX10_member 16 = .ok (.iconst (-1), 1) := by decide +kernel
theorem dX10_member_17 : decode cX10_member 17 = .ok (.ireturn, 1) := by decide +kernel
theorem dX10_member_18 : decode cX10_member 18 = .ok (.aload_n 0, 1) := by decide +kernel
theorem dX10_member_19 : decode cX10_member 19 = .ok (.getfield 11, 3) := by decide +kernel
theorem dX10_member_22 : decode cX10_member 22 = .ok (.iload_n 1, 1) := by decide +kernel
theorem dX10_member_23 : decode cX10_member 23 = .ok (.aaload, 1) := by decide +kernel
theorem dX10_member_24 : decode cX10_member 24 = .ok (.astore 4, 2) := by decide +kernel
theorem dX10_member_26 : decode cX10_member 26 = .ok (.aload_n 0, 1) := by decide +kernel
theorem dX10_member_27 : decode cX10_member 27 = .ok (.getfield 49, 3) := by decide +kernel
theorem dX10_member_30 : decode cX10_member 30 = .ok (.aload 4, 2) := by decide +kernel
theorem dX10_member_32 : decode cX10_member 32 = .ok (.invokevirtual 138, 3) := by decide +kernel
theorem dX10_member_35 : decode cX10_member 35 = .ok (.iload_n 2, 1) := by decide +kernel
theorem dX10_member_36 : decode cX10_member 36 = .ok (.ifCond .lt 12, 3) := by decide +kernel
theorem dX10_member_39 : decode cX10_member 39 = .ok (.iload_n 2, 1) := by decide +kernel
theorem dX10_member_40 : decode cX10_member 40 = .ok (.aload 4, 2) := by decide +kernel
theorem dX10_member_42 : decode cX10_member 42 = .ok (.getfield 155, 3) := by decide +kernel
theorem dX10_member_45 : decode cX10_member 45 = .ok (.if_icmp .lt 5, 3) := by decide +kernel
theorem dX10_member_48 : decode cX10_member 48 = .ok (.iconst (-1), 1) := by decide +kernel
theorem dX10_member_49 : decode cX10_member 49 = .ok (.ireturn, 1) := by decide +kernel
theorem dX10_member_50 : decode cX10_member 50 = .ok (.iload_n 3, 1) := by decide +kernel
theorem dX10_member_51 : decode cX10_member 51 = .ok (.ifCond .ne 13, 3) := by decide +kernel
theorem dX10_member_54 : decode cX10_member 54 = .ok (.aload 4, 2) := by decide +kernel
theorem dX10_member_56 : decode cX10_member 56 = .ok (.getfield 190, 3) := by decide +kernel
theorem dX10_member_59 : decode cX10_member 59 = .ok (.iload_n 2, 1) := by decide +kernel
theorem dX10_member_60 : decode cX10_member 60 = .ok (.iaload, 1) := by decide +kernel
theorem dX10_member_61 : decode cX10_member 61 = .ok (.goto 10, 3) := by decide +kernel
theorem dX10_member_64 : decode cX10_member 64 = .ok (.aload 4, 2) := by decide +kernel
theorem dX10_member_66 : decode cX10_member 66 = .ok (.getfield 193, 3) := by decide +kernel
theorem dX10_member_69 : decode cX10_member 69 = .ok (.iload_n 2, 1) := by decide +kernel
theorem dX10_member_70 : decode cX10_member 70 = .ok (.iaload, 1) := by decide +kernel
theorem dX10_member_71 : decode cX10_member 71 = .ok (.ireturn, 1) := by decide +kernel
theorem dX10_fails_0 : decode cX10_fails 0 = .ok (.iload_n 1, 1) := by decide +kernel
theorem dX10_fails_1 : decode cX10_fails 1 = .ok (.invokestatic 74, 3) := by decide +kernel
theorem dX10_fails_4 : decode cX10_fails 4 = .ok (.ifCond .ne 6, 3) := by decide +kernel
theorem dX10_fails_7 : decode cX10_fails 7 = .ok (.bipush (-2), 2) := by decide +kernel
theorem dX10_fails_9 : decode cX10_fails 9 = .ok (.ireturn, 1) := by decide +kernel
theorem dX10_fails_10 : decode cX10_fails 10 = .ok (.aload_n 0, 1) := by decide +kernel
theorem dX10_fails_11 : decode cX10_fails 11 = .ok (.getfield 11, 3) := by decide +kernel
theorem dX10_fails_14 : decode cX10_fails 14 = .ok (.iload_n 1, 1) := by decide +kernel
theorem dX10_fails_15 : decode cX10_fails 15 = .ok (.aaload, 1) := by decide +kernel
theorem dX10_fails_16 : decode cX10_fails 16 = .ok (.astore_n 2, 1) := by decide +kernel
theorem dX10_fails_17 : decode cX10_fails 17 = .ok (.aload_n 0, 1) := by decide +kernel
theorem dX10_fails_18 : decode cX10_fails 18 = .ok (.getfield 49, 3) := by decide +kernel
theorem dX10_fails_21 : decode cX10_fails 21 = .ok (.aload_n 2, 1) := by decide +kernel
theorem dX10_fails_22 : decode cX10_fails 22 = .ok (.invokevirtual 138, 3) := by decide +kernel
theorem dX10_fails_25 : decode cX10_fails 25 = .ok (.aload_n 2, 1) := by decide +kernel
theorem dX10_fails_26 : decode cX10_fails 26 = .ok (.getfield 155, 3) := by decide +kernel
theorem dX10_fails_29 : decode cX10_fails 29 = .ok (.iconst 1, 1) := by decide +kernel
theorem dX10_fails_30 : decode cX10_fails 30 = .ok (.if_icmp .ge 6, 3) := by decide +kernel
theorem dX10_fails_33 : decode cX10_fails 33 = .ok (.bipush (-2), 2) := by decide +kernel
theorem dX10_fails_35 : decode cX10_fails 35 = .ok (.ireturn, 1) := by decide +kernel
theorem dX10_fails_36 : decode cX10_fails 36 = .ok (.aload_n 2, 1) := by decide +kernel
theorem dX10_fails_37 : decode cX10_fails 37 = .ok (.invokevirtual 196, 3) := by decide +kernel
theorem dX10_fails_40 : decode cX10_fails 40 = .ok (.ireturn, 1) := by decide +kernel
theorem dX10_row_0 : decode cX10_row 0 = .ok (.iload_n 1, 1) := by decide +kernel
theorem dX10_row_1 : decode cX10_row 1 = .ok (.invokestatic 74, 3) := by decide +kernel
theorem dX10_row_4 : decode cX10_row 4 = .ok (.ifCond .eq 12, 3) := by decide +kernel
theorem dX10_row_7 : decode cX10_row 7 = .ok (.iload_n 2, 1) := by decide +kernel
theorem dX10_row_8 : decode cX10_row 8 = .ok (.ifCond .lt 8, 3) := by decide +kernel
theorem dX10_row_11 : decode cX10_row 11 = .ok (.iload_n 2, 1) := by decide +kernel
theorem dX10_row_12 : decode cX10_row 12 = .ok (.iconst 4, 1) := by decide +kernel
theorem dX10_row_13 : decode cX10_row 13 = .ok (.if_icmp .le 5, 3) := by decide +kernel
theorem dX10_row_16 : decode cX10_row 16 = .ok (.iconst (-1), 1) := by decide +kernel
theorem dX10_row_17 : decode cX10_row 17 = .ok (.ireturn, 1) := by decide +kernel
theorem dX10_row_18 : decode cX10_row 18 = .ok (.aload_n 0, 1) := by decide +kernel
theorem dX10_row_19 : decode cX10_row 19 = .ok (.getfield 11, 3) := by decide +kernel
theorem dX10_row_22 : decode cX10_row 22 = .ok (.iload_n 1, 1) := by decide +kernel
theorem dX10_row_23 : decode cX10_row 23 = .ok (.aaload, 1) := by decide +kernel
theorem dX10_row_24 : decode cX10_row 24 = .ok (.getfield 106, 3) := by decide +kernel
theorem dX10_row_27 : decode cX10_row 27 = .ok (.astore_n 3, 1) := by decide +kernel
theorem dX10_row_28 : decode cX10_row 28 = .ok (.aload_n 3, 1) := by decide +kernel
theorem dX10_row_29 : decode cX10_row 29 = .ok (.invokestatic 126, 3) := by decide +kernel
theorem dX10_row_32 : decode cX10_row 32 = .ok (.istore 4, 2) := by decide +kernel
theorem dX10_row_34 : decode cX10_row 34 = .ok (.iload 4, 2) := by decide +kernel
theorem dX10_row_36 : decode cX10_row 36 = .ok (.ifCond .ge 6, 3) := by decide +kernel
theorem dX10_row_39 : decode cX10_row 39 = .ok (.bipush (-2), 2) := by decide +kernel
theorem dX10_row_41 : decode cX10_row 41 = .ok (.ireturn, 1) := by decide +kernel
theorem dX10_row_42 : decode cX10_row 42 = .ok (.iload_n 2, 1) := by decide +kernel
theorem dX10_row_43 : decode cX10_row 43 = .ok (.tableswitch 65 0 3 #[29, 36, 43, 50], 29) := by decide +kernel
theorem dX10_row_72 : decode cX10_row 72 = .ok (.aload_n 3, 1) := by decide +kernel
theorem dX10_row_73 : decode cX10_row 73 = .ok (.iload 4, 2) := by decide +kernel
theorem dX10_row_75 : decode cX10_row 75 = .ok (.invokestatic 200, 3) := by decide +kernel
theorem dX10_row_78 : decode cX10_row 78 = .ok (.ireturn, 1) := by decide +kernel
theorem dX10_row_79 : decode cX10_row 79 = .ok (.aload_n 3, 1) := by decide +kernel
theorem dX10_row_80 : decode cX10_row 80 = .ok (.iload 4, 2) := by decide +kernel
theorem dX10_row_82 : decode cX10_row 82 = .ok (.invokestatic 204, 3) := by decide +kernel
theorem dX10_row_85 : decode cX10_row 85 = .ok (.ireturn, 1) := by decide +kernel
theorem dX10_row_86 : decode cX10_row 86 = .ok (.aload_n 3, 1) := by decide +kernel
theorem dX10_row_87 : decode cX10_row 87 = .ok (.iload 4, 2) := by decide +kernel
theorem dX10_row_89 : decode cX10_row 89 = .ok (.invokestatic 207, 3) := by decide +kernel
theorem dX10_row_92 : decode cX10_row 92 = .ok (.ireturn, 1) := by decide +kernel
theorem dX10_row_93 : decode cX10_row 93 = .ok (.aload_n 3, 1) := by decide +kernel
theorem dX10_row_94 : decode cX10_row 94 = .ok (.iload 4, 2) := by decide +kernel
theorem dX10_row_96 : decode cX10_row 96 = .ok (.invokestatic 210, 3) := by decide +kernel
theorem dX10_row_99 : decode cX10_row 99 = .ok (.ifCond .eq 7, 3) := by decide +kernel
theorem dX10_row_102 : decode cX10_row 102 = .ok (.iconst 1, 1) := by decide +kernel
theorem dX10_row_103 : decode cX10_row 103 = .ok (.goto 4, 3) := by decide +kernel
theorem dX10_row_106 : decode cX10_row 106 = .ok (.iconst 0, 1) := by decide +kernel
theorem dX10_row_107 : decode cX10_row 107 = .ok (.ireturn, 1) := by decide +kernel
theorem dX10_row_108 : decode cX10_row 108 = .ok (.aload_n 3, 1) := by decide +kernel
theorem dX10_row_109 : decode cX10_row 109 = .ok (.iload 4, 2) := by decide +kernel
theorem dX10_row_111 : decode cX10_row 111 = .ok (.invokestatic 214, 3) := by decide +kernel
theorem dX10_row_114 : decode cX10_row 114 = .ok (.ireturn, 1) := by decide +kernel
theorem dX10_mean_0 : decode cX10_mean 0 = .ok (.iload_n 1, 1) := by decide +kernel
theorem dX10_mean_1 : decode cX10_mean 1 = .ok (.invokestatic 74, 3) := by decide +kernel
theorem dX10_mean_4 : decode cX10_mean 4 = .ok (.ifCond .ne 7, 3) := by decide +kernel
theorem dX10_mean_7 : decode cX10_mean 7 = .ok (.ldc2_w 124, 3) := by decide +kernel
theorem dX10_mean_10 : decode cX10_mean 10 = .ok (.lreturn, 1) := by decide +kernel
theorem dX10_mean_11 : decode cX10_mean 11 = .ok (.aload_n 0, 1) := by decide +kernel
theorem dX10_mean_12 : decode cX10_mean 12 = .ok (.getfield 11, 3) := by decide +kernel
theorem dX10_mean_15 : decode cX10_mean 15 = .ok (.iload_n 1, 1) := by decide +kernel
theorem dX10_mean_16 : decode cX10_mean 16 = .ok (.aaload, 1) := by decide +kernel
theorem dX10_mean_17 : decode cX10_mean 17 = .ok (.getfield 106, 3) := by decide +kernel
theorem dX10_mean_20 : decode cX10_mean 20 = .ok (.astore_n 3, 1) := by decide +kernel
theorem dX10_mean_21 : decode cX10_mean 21 = .ok (.lconst 0, 1) := by decide +kernel
theorem dX10_mean_22 : decode cX10_mean 22 = .ok (.lstore 4, 2) := by decide +kernel
theorem dX10_mean_24 : decode cX10_mean 24 = .ok (.lconst 0, 1) := by decide +kernel
theorem dX10_mean_25 : decode cX10_mean 25 = .ok (.lstore 6, 2) := by decide +kernel
theorem dX10_mean_27 : decode cX10_mean 27 = .ok (.iconst 0, 1) := by decide +kernel
theorem dX10_mean_28 : decode cX10_mean 28 = .ok (.istore 8, 2) := by decide +kernel
theorem dX10_mean_30 : decode cX10_mean 30 = .ok (.iload 8, 2) := by decide +kernel
theorem dX10_mean_32 : decode cX10_mean 32 = .ok (.bipush 9, 2) := by decide +kernel
theorem dX10_mean_34 : decode cX10_mean 34 = .ok (.if_icmp .ge 31, 3) := by decide +kernel
theorem dX10_mean_37 : decode cX10_mean 37 = .ok (.lload 4, 2) := by decide +kernel
theorem dX10_mean_39 : decode cX10_mean 39 = .ok (.aload_n 3, 1) := by decide +kernel
theorem dX10_mean_40 : decode cX10_mean 40 = .ok (.iload 8, 2) := by decide +kernel
theorem dX10_mean_42 : decode cX10_mean 42 = .ok (.laload, 1) := by decide +kernel
theorem dX10_mean_43 : decode cX10_mean 43 = .ok (.ladd, 1) := by decide +kernel
theorem dX10_mean_44 : decode cX10_mean 44 = .ok (.lstore 4, 2) := by decide +kernel
theorem dX10_mean_46 : decode cX10_mean 46 = .ok (.lload 6, 2) := by decide +kernel
theorem dX10_mean_48 : decode cX10_mean 48 = .ok (.iload 8, 2) := by decide +kernel
theorem dX10_mean_50 : decode cX10_mean 50 = .ok (.i2l, 1) := by decide +kernel
theorem dX10_mean_51 : decode cX10_mean 51 = .ok (.aload_n 3, 1) := by decide +kernel
theorem dX10_mean_52 : decode cX10_mean 52 = .ok (.iload 8, 2) := by decide +kernel
theorem dX10_mean_54 : decode cX10_mean 54 = .ok (.laload, 1) := by decide +kernel
theorem dX10_mean_55 : decode cX10_mean 55 = .ok (.lmul, 1) := by decide +kernel
theorem dX10_mean_56 : decode cX10_mean 56 = .ok (.ladd, 1) := by decide +kernel
theorem dX10_mean_57 : decode cX10_mean 57 = .ok (.lstore 6, 2) := by decide +kernel
theorem dX10_mean_59 : decode cX10_mean 59 = .ok (.iinc 8 1, 3) := by decide +kernel
theorem dX10_mean_62 : decode cX10_mean 62 = .ok (.goto (-32), 3) := by decide +kernel
theorem dX10_mean_65 : decode cX10_mean 65 = .ok (.lload 4, 2) := by decide +kernel
theorem dX10_mean_67 : decode cX10_mean 67 = .ok (.lconst 0, 1) := by decide +kernel
theorem dX10_mean_68 : decode cX10_mean 68 = .ok (.lcmp, 1) := by decide +kernel
theorem dX10_mean_69 : decode cX10_mean 69 = .ok (.ifCond .ne 7, 3) := by decide +kernel
theorem dX10_mean_72 : decode cX10_mean 72 = .ok (.ldc2_w 124, 3) := by decide +kernel
theorem dX10_mean_75 : decode cX10_mean 75 = .ok (.lreturn, 1) := by decide +kernel
theorem dX10_mean_76 : decode cX10_mean 76 = .ok (.lload 6, 2) := by decide +kernel
theorem dX10_mean_78 : decode cX10_mean 78 = .ok (.lload 4, 2) := by decide +kernel
theorem dX10_mean_80 : decode cX10_mean 80 = .ok (.invokestatic 217, 3) := by decide +kernel
theorem dX10_mean_83 : decode cX10_mean 83 = .ok (.lstore 8, 2) := by decide +kernel
theorem dX10_mean_85 : decode cX10_mean 85 = .ok (.lload 8, 2) := by decide +kernel
theorem dX10_mean_87 : decode cX10_mean 87 = .ok (.lconst 0, 1) := by decide +kernel
theorem dX10_mean_88 : decode cX10_mean 88 = .ok (.lcmp, 1) := by decide +kernel
theorem dX10_mean_89 : decode cX10_mean 89 = .ok (.ifCond .ne 7, 3) := by decide +kernel
theorem dX10_mean_92 : decode cX10_mean 92 = .ok (.ldc2_w 124, 3) := by decide +kernel
theorem dX10_mean_95 : decode cX10_mean 95 = .ok (.lreturn, 1) := by decide +kernel
theorem dX10_mean_96 : decode cX10_mean 96 = .ok (.lload 4, 2) := by decide +kernel
theorem dX10_mean_98 : decode cX10_mean 98 = .ok (.lconst 0, 1) := by decide +kernel
theorem dX10_mean_99 : decode cX10_mean 99 = .ok (.lcmp, 1) := by decide +kernel
theorem dX10_mean_100 : decode cX10_mean 100 = .ok (.ifCond .ge 8, 3) := by decide +kernel
theorem dX10_mean_103 : decode cX10_mean 103 = .ok (.lload 8, 2) := by decide +kernel
theorem dX10_mean_105 : decode cX10_mean 105 = .ok (.lneg, 1) := by decide +kernel
theorem dX10_mean_106 : decode cX10_mean 106 = .ok (.lstore 8, 2) := by decide +kernel
theorem dX10_mean_108 : decode cX10_mean 108 = .ok (.iload_n 2, 1) := by decide +kernel
theorem dX10_mean_109 : decode cX10_mean 109 = .ok (.ifCond .eq 8, 3) := by decide +kernel
theorem dX10_mean_112 : decode cX10_mean 112 = .ok (.lload 4, 2) := by decide +kernel
theorem dX10_mean_114 : decode cX10_mean 114 = .ok (.goto 5, 3) := by decide +kernel
theorem dX10_mean_117 : decode cX10_mean 117 = .ok (.lload 6, 2) := by decide +kernel
theorem dX10_mean_119 : decode cX10_mean 119 = .ok (.lload 8, 2) := by decide +kernel
theorem dX10_mean_121 : decode cX10_mean 121 = .ok (.ldiv, 1) := by decide +kernel
theorem dX10_mean_122 : decode cX10_mean 122 = .ok (.lreturn, 1) := by decide +kernel
theorem dX10_isTray_0 : decode cX10_isTray 0 = .ok (.iload_n 0, 1) := by decide +kernel
theorem dX10_isTray_1 : decode cX10_isTray 1 = .ok (.ifCond .lt 13, 3) := by decide +kernel
theorem dX10_isTray_4 : decode cX10_isTray 4 = .ok (.iload_n 0, 1) := by decide +kernel
theorem dX10_isTray_5 : decode cX10_isTray 5 = .ok (.bipush 8, 2) := by decide +kernel
theorem dX10_isTray_7 : decode cX10_isTray 7 = .ok (.if_icmp .ge 7, 3) := by decide +kernel
theorem dX10_isTray_10 : decode cX10_isTray 10 = .ok (.iconst 1, 1) := by decide +kernel
theorem dX10_isTray_11 : decode cX10_isTray 11 = .ok (.goto 4, 3) := by decide +kernel
theorem dX10_isTray_14 : decode cX10_isTray 14 = .ok (.iconst 0, 1) := by decide +kernel
theorem dX10_isTray_15 : decode cX10_isTray 15 = .ok (.ireturn, 1) := by decide +kernel
theorem dX10_isPower_0 : decode cX10_isPower 0 = .ok (.iload_n 0, 1) := by decide +kernel
theorem dX10_isPower_1 : decode cX10_isPower 1 = .ok (.ifCond .lt 13, 3) := by decide +kernel
theorem dX10_isPower_4 : decode cX10_isPower 4 = .ok (.iload_n 0, 1) := by decide +kernel
theorem dX10_isPower_5 : decode cX10_isPower 5 = .ok (.bipush 8, 2) := by decide +kernel
theorem dX10_isPower_7 : decode cX10_isPower 7 = .ok (.if_icmp .gt 7, 3) := by decide +kernel
theorem dX10_isPower_10 : decode cX10_isPower 10 = .ok (.iconst 1, 1) := by decide +kernel
theorem dX10_isPower_11 : decode cX10_isPower 11 = .ok (.goto 4, 3) := by decide +kernel
theorem dX10_isPower_14 : decode cX10_isPower 14 = .ok (.iconst 0, 1) := by decide +kernel
theorem dX10_isPower_15 : decode cX10_isPower 15 = .ok (.ireturn, 1) := by decide +kernel
theorem dX10_isFactor_0 : decode cX10_isFactor 0 = .ok (.iload_n 0, 1) := by decide +kernel
theorem dX10_isFactor_1 : decode cX10_isFactor 1 = .ok (.sipush (-1000), 3) := by decide +kernel
theorem dX10_isFactor_4 : decode cX10_isFactor 4 = .ok (.if_icmp .lt 14, 3) := by decide +kernel
theorem dX10_isFactor_7 : decode cX10_isFactor 7 = .ok (.iload_n 0, 1) := by decide +kernel
theorem dX10_isFactor_8 : decode cX10_isFactor 8 = .ok (.sipush 1000, 3) := by decide +kernel
theorem dX10_isFactor_11 : decode cX10_isFactor 11 = .ok (.if_icmp .gt 7, 3) := by decide +kernel
theorem dX10_isFactor_14 : decode cX10_isFactor 14 = .ok (.iconst 1, 1) := by decide +kernel
theorem dX10_isFactor_15 : decode cX10_isFactor 15 = .ok (.goto 4, 3) := by decide +kernel
theorem dX10_isFactor_18 : decode cX10_isFactor 18 = .ok (.iconst 0, 1) := by decide +kernel
theorem dX10_isFactor_19 : decode cX10_isFactor 19 = .ok (.ireturn, 1) := by decide +kernel
theorem dX10_isFineness_0 : decode cX10_isFineness 0 = .ok (.iload_n 0, 1) := by decide +kernel
theorem dX10_isFineness_1 : decode cX10_isFineness 1 = .ok (.ifCond .lt 13, 3) := by decide +kernel
theorem dX10_isFineness_4 : decode cX10_isFineness 4 = .ok (.iload_n 0, 1) := by decide +kernel
theorem dX10_isFineness_5 : decode cX10_isFineness 5 = .ok (.bipush 12, 2) := by decide +kernel
theorem dX10_isFineness_7 : decode cX10_isFineness 7 = .ok (.if_icmp .gt 7, 3) := by decide +kernel
theorem dX10_isFineness_10 : decode cX10_isFineness 10 = .ok (.iconst 1, 1) := by decide +kernel
theorem dX10_isFineness_11 : decode cX10_isFineness 11 = .ok (.goto 4, 3) := by decide +kernel
theorem dX10_isFineness_14 : decode cX10_isFineness 14 = .ok (.iconst 0, 1) := by decide +kernel
theorem dX10_isFineness_15 : decode cX10_isFineness 15 = .ok (.ireturn, 1) := by decide +kernel
theorem dX10_areLaced_0 : decode cX10_areLaced 0 = .ok (.aload_n 1, 1) := by decide +kernel
theorem dX10_areLaced_1 : decode cX10_areLaced 1 = .ok (.getfield 151, 3) := by decide +kernel
theorem dX10_areLaced_4 : decode cX10_areLaced 4 = .ok (.ifCond .eq 10, 3) := by decide +kernel
theorem dX10_areLaced_7 : decode cX10_areLaced 7 = .ok (.aload_n 2, 1) := by decide +kernel
theorem dX10_areLaced_8 : decode cX10_areLaced 8 = .ok (.getfield 151, 3) := by decide +kernel
theorem dX10_areLaced_11 : decode cX10_areLaced 11 = .ok (.ifCond .ne 5, 3) := by decide +kernel
theorem dX10_areLaced_14 : decode cX10_areLaced 14 = .ok (.iconst 0, 1) := by decide +kernel
theorem dX10_areLaced_15 : decode cX10_areLaced 15 = .ok (.ireturn, 1) := by decide +kernel
theorem dX10_areLaced_16 : decode cX10_areLaced 16 = .ok (.aload_n 1, 1) := by decide +kernel
theorem dX10_areLaced_17 : decode cX10_areLaced 17 = .ok (.getfield 106, 3) := by decide +kernel
theorem dX10_areLaced_20 : decode cX10_areLaced 20 = .ok (.invokestatic 126, 3) := by decide +kernel
theorem dX10_areLaced_23 : decode cX10_areLaced 23 = .ok (.istore_n 3, 1) := by decide +kernel
theorem dX10_areLaced_24 : decode cX10_areLaced 24 = .ok (.iload_n 3, 1) := by decide +kernel
theorem dX10_areLaced_25 : decode cX10_areLaced 25 = .ok (.aload_n 2, 1) := by decide +kernel
theorem dX10_areLaced_26 : decode cX10_areLaced 26 = .ok (.getfield 106, 3) := by decide +kernel
theorem dX10_areLaced_29 : decode cX10_areLaced 29 = .ok (.invokestatic 126, 3) := by decide +kernel
theorem dX10_areLaced_32 : decode cX10_areLaced 32 = .ok (.isub, 1) := by decide +kernel
theorem dX10_areLaced_33 : decode cX10_areLaced 33 = .ok (.istore 4, 2) := by decide +kernel
theorem dX10_areLaced_35 : decode cX10_areLaced 35 = .ok (.iload 4, 2) := by decide +kernel
theorem dX10_areLaced_37 : decode cX10_areLaced 37 = .ok (.ifCond .lt 9, 3) := by decide +kernel
theorem dX10_areLaced_40 : decode cX10_areLaced 40 = .ok (.iload 4, 2) := by decide +kernel
theorem dX10_areLaced_42 : decode cX10_areLaced 42 = .ok (.iconst 1, 1) := by decide +kernel
theorem dX10_areLaced_43 : decode cX10_areLaced 43 = .ok (.if_icmp .le 5, 3) := by decide +kernel
theorem dX10_areLaced_46 : decode cX10_areLaced 46 = .ok (.iconst 0, 1) := by decide +kernel
theorem dX10_areLaced_47 : decode cX10_areLaced 47 = .ok (.ireturn, 1) := by decide +kernel
theorem dX10_areLaced_48 : decode cX10_areLaced 48 = .ok (.aload_n 0, 1) := by decide +kernel
theorem dX10_areLaced_49 : decode cX10_areLaced 49 = .ok (.getfield 33, 3) := by decide +kernel
theorem dX10_areLaced_52 : decode cX10_areLaced 52 = .ok (.aload_n 1, 1) := by decide +kernel
theorem dX10_areLaced_53 : decode cX10_areLaced 53 = .ok (.getfield 106, 3) := by decide +kernel
theorem dX10_areLaced_56 : decode cX10_areLaced 56 = .ok (.aload_n 2, 1) := by decide +kernel
theorem dX10_areLaced_57 : decode cX10_areLaced 57 = .ok (.getfield 106, 3) := by decide +kernel
theorem dX10_areLaced_60 : decode cX10_areLaced 60 = .ok (.invokevirtual 221, 3) := by decide +kernel
theorem dX10_areLaced_63 : decode cX10_areLaced 63 = .ok (.iload_n 3, 1) := by decide +kernel
theorem dX10_areLaced_64 : decode cX10_areLaced 64 = .ok (.aload_n 0, 1) := by decide +kernel
theorem dX10_areLaced_65 : decode cX10_areLaced 65 = .ok (.getfield 33, 3) := by decide +kernel
theorem dX10_areLaced_68 : decode cX10_areLaced 68 = .ok (.invokevirtual 225, 3) := by decide +kernel
theorem dX10_areLaced_71 : decode cX10_areLaced 71 = .ok (.isub, 1) := by decide +kernel
theorem dX10_areLaced_72 : decode cX10_areLaced 72 = .ok (.istore 5, 2) := by decide +kernel
theorem dX10_areLaced_74 : decode cX10_areLaced 74 = .ok (.aload_n 0, 1) := by decide +kernel
theorem dX10_areLaced_75 : decode cX10_areLaced 75 = .ok (.getfield 33, 3) := by decide +kernel
theorem dX10_areLaced_78 : decode cX10_areLaced 78 = .ok (.getfield 228, 3) := by decide +kernel
theorem dX10_areLaced_81 : decode cX10_areLaced 81 = .ok (.iconst 0, 1) := by decide +kernel
theorem dX10_areLaced_82 : decode cX10_areLaced 82 = .ok (.iaload, 1) := by decide +kernel
theorem dX10_areLaced_83 : decode cX10_areLaced 83 = .ok (.aload_n 0, 1) := by decide +kernel
theorem dX10_areLaced_84 : decode cX10_areLaced 84 = .ok (.getfield 33, 3) := by decide +kernel
theorem dX10_areLaced_87 : decode cX10_areLaced 87 = .ok (.getfield 228, 3) := by decide +kernel
theorem dX10_areLaced_90 : decode cX10_areLaced 90 = .ok (.iconst 1, 1) := by decide +kernel
theorem dX10_areLaced_91 : decode cX10_areLaced 91 = .ok (.iaload, 1) := by decide +kernel
theorem dX10_areLaced_92 : decode cX10_areLaced 92 = .ok (.imul, 1) := by decide +kernel
theorem dX10_areLaced_93 : decode cX10_areLaced 93 = .ok (.istore 6, 2) := by decide +kernel
theorem dX10_areLaced_95 : decode cX10_areLaced 95 = .ok (.aload_n 0, 1) := by decide +kernel
theorem dX10_areLaced_96 : decode cX10_areLaced 96 = .ok (.getfield 33, 3) := by decide +kernel
theorem dX10_areLaced_99 : decode cX10_areLaced 99 = .ok (.invokevirtual 229, 3) := by decide +kernel
theorem dX10_areLaced_102 : decode cX10_areLaced 102 = .ok (.iload 6, 2) := by decide +kernel
theorem dX10_areLaced_104 : decode cX10_areLaced 104 = .ok (.iload 5, 2) := by decide +kernel
theorem dX10_areLaced_106 : decode cX10_areLaced 106 = .ok (.imul, 1) := by decide +kernel
theorem dX10_areLaced_107 : decode cX10_areLaced 107 = .ok (.if_icmp .ne 7, 3) := by decide +kernel
theorem dX10_areLaced_110 : decode cX10_areLaced 110 = .ok (.iconst 1, 1) := by decide +kernel
theorem dX10_areLaced_111 : decode cX10_areLaced 111 = .ok (.goto 4, 3) := by decide +kernel
theorem dX10_areLaced_114 : decode cX10_areLaced 114 = .ok (.iconst 0, 1) := by decide +kernel
theorem dX10_areLaced_115 : decode cX10_areLaced 115 = .ok (.ireturn, 1) := by decide +kernel
theorem dX11_init_0 : decode cX11_init 0 = .ok (.aload_n 0, 1) := by decide +kernel
theorem dX11_init_1 : decode cX11_init 1 = .ok (.invokespecial 1, 3) := by decide +kernel
theorem dX11_init_4 : decode cX11_init 4 = .ok (.aload_n 0, 1) := by decide +kernel
theorem dX11_init_5 : decode cX11_init 5 = .ok (.ldc 7, 2) := by decide +kernel
theorem dX11_init_7 : decode cX11_init 7 = .ok (.newarray .int, 2) := by decide +kernel
theorem dX11_init_9 : decode cX11_init 9 = .ok (.putfield 8, 3) := by decide +kernel
theorem dX11_init_12 : decode cX11_init 12 = .ok (.aload_n 0, 1) := by decide +kernel
theorem dX11_init_13 : decode cX11_init 13 = .ok (.sipush 460, 3) := by decide +kernel
theorem dX11_init_16 : decode cX11_init 16 = .ok (.newarray .int, 2) := by decide +kernel
theorem dX11_init_18 : decode cX11_init 18 = .ok (.putfield 14, 3) := by decide +kernel
theorem dX11_init_21 : decode cX11_init 21 = .ok (.aload_n 0, 1) := by decide +kernel
theorem dX11_init_22 : decode cX11_init 22 = .ok (.sipush 460, 3) := by decide +kernel
theorem dX11_init_25 : decode cX11_init 25 = .ok (.newarray .int, 2) := by decide +kernel
theorem dX11_init_27 : decode cX11_init 27 = .ok (.putfield 17, 3) := by decide +kernel
theorem dX11_init_30 : decode cX11_init 30 = .ok (.aload_n 0, 1) := by decide +kernel
theorem dX11_init_31 : decode cX11_init 31 = .ok (.sipush 401, 3) := by decide +kernel
theorem dX11_init_34 : decode cX11_init 34 = .ok (.newarray .long, 2) := by decide +kernel
theorem dX11_init_36 : decode cX11_init 36 = .ok (.putfield 20, 3) := by decide +kernel
theorem dX11_init_39 : decode cX11_init 39 = .ok (.aload_n 0, 1) := by decide +kernel
theorem dX11_init_40 : decode cX11_init 40 = .ok (.sipush 201, 3) := by decide +kernel
theorem dX11_init_43 : decode cX11_init 43 = .ok (.newarray .long, 2) := by decide +kernel
theorem dX11_init_45 : decode cX11_init 45 = .ok (.putfield 24, 3) := by decide +kernel
theorem dX11_init_48 : decode cX11_init 48 = .ok (.aload_n 0, 1) := by decide +kernel
theorem dX11_init_49 : decode cX11_init 49 = .ok (.bipush 48, 2) := by decide +kernel
theorem dX11_init_51 : decode cX11_init 51 = .ok (.newarray .int, 2) := by decide +kernel
theorem dX11_init_53 : decode cX11_init 53 = .ok (.putfield 27, 3) := by decide +kernel
theorem dX11_init_56 : decode cX11_init 56 = .ok (.aload_n 0, 1) := by decide +kernel
theorem dX11_init_57 : decode cX11_init 57 = .ok (.bipush 48, 2) := by decide +kernel
theorem dX11_init_59 : decode cX11_init 59 = .ok (.newarray .int, 2) := by decide +kernel
theorem dX11_init_61 : decode cX11_init 61 = .ok (.putfield 30, 3) := by decide +kernel
theorem dX11_init_64 : decode cX11_init 64 = .ok (.aload_n 0, 1) := by decide +kernel
theorem dX11_init_65 : decode cX11_init 65 = .ok (.sipush 207, 3) := by decide +kernel
theorem dX11_init_68 : decode cX11_init 68 = .ok (.newarray .long, 2) := by decide +kernel
theorem dX11_init_70 : decode cX11_init 70 = .ok (.putfield 33, 3) := by decide +kernel
theorem dX11_init_73 : decode cX11_init 73 = .ok (.aload_n 0, 1) := by decide +kernel
theorem dX11_init_74 : decode cX11_init 74 = .ok (.bipush 9, 2) := by decide +kernel
theorem dX11_init_76 : decode cX11_init 76 = .ok (.newarray .int, 2) := by decide +kernel
theorem dX11_init_78 : decode cX11_init 78 = .ok (.putfield 36, 3) := by decide +kernel
theorem dX11_init_81 : decode cX11_init 81 = .ok (.aload_n 0, 1) := by decide +kernel
theorem dX11_init_82 : decode cX11_init 82 = .ok (.bipush 9, 2) := by decide +kernel
theorem dX11_init_84 : decode cX11_init 84 = .ok (.newarray .int, 2) := by decide +kernel
theorem dX11_init_86 : decode cX11_init 86 = .ok (.putfield 39, 3) := by decide +kernel
theorem dX11_init_89 : decode cX11_init 89 = .ok (.aload_n 0, 1) := by decide +kernel
theorem dX11_init_90 : decode cX11_init 90 = .ok (.bipush 81, 2) := by decide +kernel
theorem dX11_init_92 : decode cX11_init 92 = .ok (.newarray .long, 2) := by decide +kernel
theorem dX11_init_94 : decode cX11_init 94 = .ok (.putfield 42, 3) := by decide +kernel
theorem dX11_init_97 : decode cX11_init 97 = .ok (.aload_n 0, 1) := by decide +kernel
theorem dX11_init_98 : decode cX11_init 98 = .ok (.sipush 200, 3) := by decide +kernel
theorem dX11_init_101 : decode cX11_init 101 = .ok (.newarray .byte, 2) := by decide +kernel
theorem dX11_init_103 : decode cX11_init 103 = .ok (.putfield 45, 3) := by decide +kernel
theorem dX11_init_106 : decode cX11_init 106 = .ok (.return_, 1) := by decide +kernel
theorem dX11_isIn_0 : decode cX11_isIn 0 = .ok (.lload_n 0, 1) := by decide +kernel
theorem dX11_isIn_1 : decode cX11_isIn 1 = .ok (.lload_n 2, 1) := by decide +kernel
theorem dX11_isIn_2 : decode cX11_isIn 2 = .ok (.lcmp, 1) := by decide +kernel
theorem dX11_isIn_3 : decode cX11_isIn 3 = .ok (.ifCond .lt 14, 3) := by decide +kernel
theorem dX11_isIn_6 : decode cX11_isIn 6 = .ok (.lload_n 0, 1) := by decide +kernel
theorem dX11_isIn_7 : decode cX11_isIn 7 = .ok (.lload 4, 2) := by decide +kernel
theorem dX11_isIn_9 : decode cX11_isIn 9 = .ok (.lcmp, 1) := by decide +kernel
theorem dX11_isIn_10 : decode cX11_isIn 10 = .ok (.ifCond .gt 7, 3) := by decide +kernel
theorem dX11_isIn_13 : decode cX11_isIn 13 = .ok (.iconst 1, 1) := by decide +kernel
theorem dX11_isIn_14 : decode cX11_isIn 14 = .ok (.goto 4, 3) := by decide +kernel
theorem dX11_isIn_17 : decode cX11_isIn 17 = .ok (.iconst 0, 1) := by decide +kernel
theorem dX11_isIn_18 : decode cX11_isIn 18 = .ok (.ireturn, 1) := by decide +kernel
theorem dX11_size_0 : decode cX11_size 0 = .ok (.lload_n 0, 1) := by decide +kernel
theorem dX11_size_1 : decode cX11_size 1 = .ok (.lconst 0, 1) := by decide +kernel
theorem dX11_size_2 : decode cX11_size 2 = .ok (.lcmp, 1) := by decide +kernel
theorem dX11_size_3 : decode cX11_size 3 = .ok (.ifCond .ge 8, 3) := by decide +kernel
theorem dX11_size_6 : decode cX11_size 6 = .ok (.lload_n 0, 1) := by decide +kernel
theorem dX11_size_7 : decode cX11_size 7 = .ok (.lneg, 1) := by decide +kernel
theorem dX11_size_8 : decode cX11_size 8 = .ok (.goto 4, 3) := by decide +kernel
theorem dX11_size_11 : decode cX11_size 11 = .ok (.lload_n 0, 1) := by decide +kernel
theorem dX11_size_12 : decode cX11_size 12 = .ok (.lreturn, 1) := by decide +kernel
theorem dX11_limbAt_0 : decode cX11_limbAt 0 = .ok (.aload_n 0, 1) := by decide +kernel
theorem dX11_limbAt_1 : decode cX11_limbAt 1 = .ok (.getfield 8, 3) := by decide +kernel
theorem dX11_limbAt_4 : decode cX11_limbAt 4 = .ok (.sipush 200, 3) := by decide +kernel
theorem dX11_limbAt_7 : decode cX11_limbAt 7 = .ok (.iload_n 1, 1) := by decide +kernel
theorem dX11_limbAt_8 : decode cX11_limbAt 8 = .ok (.imul, 1) := by decide +kernel
theorem dX11_limbAt_9 : decode cX11_limbAt 9 = .ok (.iload_n 2, 1) := by decide +kernel
theorem dX11_limbAt_10 : decode cX11_limbAt 10 = .ok (.iadd, 1) := by decide +kernel
theorem dX11_limbAt_11 : decode cX11_limbAt 11 = .ok (.iaload, 1) := by decide +kernel
theorem dX11_limbAt_12 : decode cX11_limbAt 12 = .ok (.ireturn, 1) := by decide +kernel
theorem dX11_sets_0 : decode cX11_sets 0 = .ok (.lload_n 2, 1) := by decide +kernel
theorem dX11_sets_1 : decode cX11_sets 1 = .ok (.invokestatic 53, 3) := by decide +kernel
theorem dX11_sets_4 : decode cX11_sets 4 = .ok (.lstore 4, 2) := by decide +kernel
theorem dX11_sets_6 : decode cX11_sets 6 = .ok (.iconst 0, 1) := by decide +kernel
theorem dX11_sets_7 : decode cX11_sets 7 = .ok (.istore 6, 2) := by decide +kernel
theorem dX11_sets_9 : decode cX11_sets 9 = .ok (.lload 4, 2) := by decide +kernel
theorem dX11_sets_11 : decode cX11_sets 11 = .ok (.lconst 0, 1) := by decide +kernel
theorem dX11_sets_12 : decode cX11_sets 12 = .ok (.lcmp, 1) := by decide +kernel
theorem dX11_sets_13 : decode cX11_sets 13 = .ok (.ifCond .le 37, 3) := by decide +kernel
theorem dX11_sets_16 : decode cX11_sets 16 = .ok (.aload_n 0, 1) := by decide +kernel
theorem dX11_sets_17 : decode cX11_sets 17 = .ok (.getfield 8, 3) := by decide +kernel
theorem dX11_sets_20 : decode cX11_sets 20 = .ok (.sipush 200, 3) := by decide +kernel
theorem dX11_sets_23 : decode cX11_sets 23 = .ok (.iload_n 1, 1) := by decide +kernel
theorem dX11_sets_24 : decode cX11_sets 24 = .ok (.imul, 1) := by decide +kernel
theorem dX11_sets_25 : decode cX11_sets 25 = .ok (.iload 6, 2) := by decide +kernel
theorem dX11_sets_27 : decode cX11_sets 27 = .ok (.iadd, 1) := by decide +kernel
theorem dX11_sets_28 : decode cX11_sets 28 = .ok (.lload 4, 2) := by decide +kernel
theorem dX11_sets_30 : decode cX11_sets 30 = .ok (.ldc2_w 57, 3) := by decide +kernel
theorem dX11_sets_33 : decode cX11_sets 33 = .ok (.lrem, 1) := by decide +kernel
theorem dX11_sets_34 : decode cX11_sets 34 = .ok (.l2i, 1) := by decide +kernel
theorem dX11_sets_35 : decode cX11_sets 35 = .ok (.iastore, 1) := by decide +kernel
theorem dX11_sets_36 : decode cX11_sets 36 = .ok (.lload 4, 2) := by decide +kernel
theorem dX11_sets_38 : decode cX11_sets 38 = .ok (.ldc2_w 57, 3) := by decide +kernel
theorem dX11_sets_41 : decode cX11_sets 41 = .ok (.ldiv, 1) := by decide +kernel
theorem dX11_sets_42 : decode cX11_sets 42 = .ok (.lstore 4, 2) := by decide +kernel
theorem dX11_sets_44 : decode cX11_sets 44 = .ok (.iinc 6 1, 3) := by decide +kernel
theorem dX11_sets_47 : decode cX11_sets 47 = .ok (.goto (-38), 3) := by decide +kernel
theorem dX11_sets_50 : decode cX11_sets 50 = .ok (.aload_n 0, 1) := by decide +kernel
theorem dX11_sets_51 : decode cX11_sets 51 = .ok (.getfield 14, 3) := by decide +kernel
theorem dX11_sets_54 : decode cX11_sets 54 = .ok (.iload_n 1, 1) := by decide +kernel
theorem dX11_sets_55 : decode cX11_sets 55 = .ok (.iload 6, 2) := by decide +kernel
theorem dX11_sets_57 : decode cX11_sets 57 = .ok (.iastore, 1) := by decide +kernel
theorem dX11_sets_58 : decode cX11_sets 58 = .ok (.aload_n 0, 1) := by decide +kernel
theorem dX11_sets_59 : decode cX11_sets 59 = .ok (.getfield 17, 3) := by decide +kernel
theorem dX11_sets_62 : decode cX11_sets 62 = .ok (.iload_n 1, 1) := by decide +kernel
theorem dX11_sets_63 : decode cX11_sets 63 = .ok (.lload_n 2, 1) := by decide +kernel
theorem dX11_sets_64 : decode cX11_sets 64 = .ok (.lconst 0, 1) := by decide +kernel
theorem dX11_sets_65 : decode cX11_sets 65 = .ok (.lcmp, 1) := by decide +kernel
theorem dX11_sets_66 : decode cX11_sets 66 = .ok (.ifCond .ge 7, 3) := by decide +kernel
theorem dX11_sets_69 : decode cX11_sets 69 = .ok (.iconst (-1), 1) := by decide +kernel
theorem dX11_sets_70 : decode cX11_sets 70 = .ok (.goto 14, 3) := by decide +kernel
theorem dX11_sets_73 : decode cX11_sets 73 = .ok (.lload_n 2, 1) := by decide +kernel
theorem dX11_sets_74 : decode cX11_sets 74 = .ok (.lconst 0, 1) := by decide +kernel
theorem dX11_sets_75 : decode cX11_sets 75 = .ok (.lcmp, 1) := by decide +kernel
theorem dX11_sets_76 : decode cX11_sets 76 = .ok (.ifCond .le 7, 3) := by decide +kernel
theorem dX11_sets_79 : decode cX11_sets 79 = .ok (.iconst 1, 1) := by decide +kernel
theorem dX11_sets_80 : decode cX11_sets 80 = .ok (.goto 4, 3) := by decide +kernel
theorem dX11_sets_83 : decode cX11_sets 83 = .ok (.iconst 0, 1) := by decide +kernel
theorem dX11_sets_84 : decode cX11_sets 84 = .ok (.iastore, 1) := by decide +kernel
theorem dX11_sets_85 : decode cX11_sets 85 = .ok (.return_, 1) := by decide +kernel
theorem dX11_copies_0 : decode cX11_copies 0 = .ok (.iconst 0, 1) := by decide +kernel
theorem dX11_copies_1 : decode cX11_copies 1 = .ok (.istore_n 3, 1) := by decide +kernel
theorem dX11_copies_2 : decode cX11_copies 2 = .ok (.iload_n 3, 1) := by decide +kernel
theorem dX11_copies_3 : decode cX11_copies 3 = .ok (.aload_n 0, 1) := by decide +kernel
theorem dX11_copies_4 : decode cX11_copies 4 = .ok (.getfield 14, 3) := by decide +kernel
theorem dX11_copies_7 : decode cX11_copies 7 = .ok (.iload_n 2, 1) := by decide +kernel
theorem dX11_copies_8 : decode cX11_copies 8 = .ok (.iaload, 1) := by decide +kernel
theorem dX11_copies_9 : decode cX11_copies 9 = .ok (.if_icmp .ge 27, 3) := by decide +kernel
theorem dX11_copies_12 : decode cX11_copies 12 = .ok (.aload_n 0, 1) := by decide +kernel
theorem dX11_copies_13 : decode cX11_copies 13 = .ok (.getfield 8, 3) := by decide +kernel
theorem dX11_copies_16 : decode cX11_copies 16 = .ok (.sipush 200, 3) := by decide +kernel
theorem dX11_copies_19 : decode cX11_copies 19 = .ok (.iload_n 1, 1) := by decide +kernel
theorem dX11_copies_20 : decode cX11_copies 20 = .ok (.imul, 1) := by decide +kernel
theorem dX11_copies_21 : decode cX11_copies 21 = .ok (.iload_n 3, 1) := by decide +kernel
theorem dX11_copies_22 : decode cX11_copies 22 = .ok (.iadd, 1) := by decide +kernel
theorem dX11_copies_23 : decode cX11_copies 23 = .ok (.aload_n 0, 1) := by decide +kernel
theorem dX11_copies_24 : decode cX11_copies 24 = .ok (.iload_n 2, 1) := by decide +kernel
theorem dX11_copies_25 : decode cX11_copies 25 = .ok (.iload_n 3, 1) := by decide +kernel
theorem dX11_copies_26 : decode cX11_copies 26 = .ok (.invokevirtual 59, 3) := by decide +kernel
theorem dX11_copies_29 : decode cX11_copies 29 = .ok (.iastore, 1) := by decide +kernel
theorem dX11_copies_30 : decode cX11_copies 30 = .ok (.iinc 3 1, 3) := by decide +kernel
theorem dX11_copies_33 : decode cX11_copies 33 = .ok (.goto (-31), 3) := by decide +kernel
theorem dX11_copies_36 : decode cX11_copies 36 = .ok (.aload_n 0, 1) := by decide +kernel
theorem dX11_copies_37 : decode cX11_copies 37 = .ok (.getfield 14, 3) := by decide +kernel
theorem dX11_copies_40 : decode cX11_copies 40 = .ok (.iload_n 1, 1) := by decide +kernel
theorem dX11_copies_41 : decode cX11_copies 41 = .ok (.aload_n 0, 1) := by decide +kernel
theorem dX11_copies_42 : decode cX11_copies 42 = .ok (.getfield 14, 3) := by decide +kernel
theorem dX11_copies_45 : decode cX11_copies 45 = .ok (.iload_n 2, 1) := by decide +kernel
theorem dX11_copies_46 : decode cX11_copies 46 = .ok (.iaload, 1) := by decide +kernel
theorem dX11_copies_47 : decode cX11_copies 47 = .ok (.iastore, 1) := by decide +kernel
theorem dX11_copies_48 : decode cX11_copies 48 = .ok (.aload_n 0, 1) := by decide +kernel
theorem dX11_copies_49 : decode cX11_copies 49 = .ok (.getfield 17, 3) := by decide +kernel
theorem dX11_copies_52 : decode cX11_copies 52 = .ok (.iload_n 1, 1) := by decide +kernel
theorem dX11_copies_53 : decode cX11_copies 53 = .ok (.aload_n 0, 1) := by decide +kernel
theorem dX11_copies_54 : decode cX11_copies 54 = .ok (.getfield 17, 3) := by decide +kernel
theorem dX11_copies_57 : decode cX11_copies 57 = .ok (.iload_n 2, 1) := by decide +kernel
theorem dX11_copies_58 : decode cX11_copies 58 = .ok (.iaload, 1) := by decide +kernel
theorem dX11_copies_59 : decode cX11_copies 59 = .ok (.iastore, 1) := by decide +kernel
theorem dX11_copies_60 : decode cX11_copies 60 = .ok (.return_, 1) := by decide +kernel
theorem dX11_trims_0 : decode cX11_trims 0 = .ok (.iload_n 2, 1) := by decide +kernel
theorem dX11_trims_1 : decode cX11_trims 1 = .ok (.istore_n 3, 1) := by decide +kernel
theorem dX11_trims_2 : decode cX11_trims 2 = .ok (.iload_n 3, 1) := by decide +kernel
theorem dX11_trims_3 : decode cX11_trims 3 = .ok (.ifCond .le 20, 3) := by decide +kernel
theorem dX11_trims_6 : decode cX11_trims 6 = .ok (.aload_n 0, 1) := by decide +kernel
theorem dX11_trims_7 : decode cX11_trims 7 = .ok (.iload_n 1, 1) := by decide +kernel
theorem dX11_trims_8 : decode cX11_trims 8 = .ok (.iload_n 3, 1) := by decide +kernel
theorem dX11_trims_9 : decode cX11_trims 9 = .ok (.iconst 1, 1) := by decide +kernel
theorem dX11_trims_10 : decode cX11_trims 10 = .ok (.isub, 1) := by decide +kernel
theorem dX11_trims_11 : decode cX11_trims 11 = .ok (.invokevirtual 59, 3) := by decide +kernel
theorem dX11_trims_14 : decode cX11_trims 14 = .ok (.ifCond .ne 9, 3) := by decide +kernel
theorem dX11_trims_17 : decode cX11_trims 17 = .ok (.iinc 3 (-1), 3) := by decide +kernel
theorem dX11_trims_20 : decode cX11_trims 20 = .ok (.goto (-18), 3) := by decide +kernel
theorem dX11_trims_23 : decode cX11_trims 23 = .ok (.aload_n 0, 1) := by decide +kernel
theorem dX11_trims_24 : decode cX11_trims 24 = .ok (.getfield 14, 3) := by decide +kernel
theorem dX11_trims_27 : decode cX11_trims 27 = .ok (.iload_n 1, 1) := by decide +kernel
theorem dX11_trims_28 : decode cX11_trims 28 = .ok (.iload_n 3, 1) := by decide +kernel
theorem dX11_trims_29 : decode cX11_trims 29 = .ok (.iastore, 1) := by decide +kernel
theorem dX11_trims_30 : decode cX11_trims 30 = .ok (.iload_n 3, 1) := by decide +kernel
theorem dX11_trims_31 : decode cX11_trims 31 = .ok (.ifCond .ne 10, 3) := by decide +kernel
theorem dX11_trims_34 : decode cX11_trims 34 = .ok (.aload_n 0, 1) := by decide +kernel
theorem dX11_trims_35 : decode cX11_trims 35 = .ok (.getfield 17, 3) := by decide +kernel
theorem dX11_trims_38 : decode cX11_trims 38 = .ok (.iload_n 1, 1) := by decide +kernel
theorem dX11_trims_39 : decode cX11_trims 39 = .ok (.iconst 0, 1) := by decide +kernel
theorem dX11_trims_40 : decode cX11_trims 40 = .ok (.iastore, 1) := by decide +kernel
theorem dX11_trims_41 : decode cX11_trims 41 = .ok (.return_, 1) := by decide +kernel
theorem dX11_against_0 : decode cX11_against 0 = .ok (.aload_n 0, 1) := by decide +kernel
theorem dX11_against_1 : decode cX11_against 1 = .ok (.getfield 14, 3) := by decide +kernel
theorem dX11_against_4 : decode cX11_against 4 = .ok (.iload_n 1, 1) := by decide +kernel
theorem dX11_against_5 : decode cX11_against 5 = .ok (.iaload, 1) := by decide +kernel
theorem dX11_against_6 : decode cX11_against 6 = .ok (.aload_n 0, 1) := by decide +kernel
theorem dX11_against_7 : decode cX11_against 7 = .ok (.getfield 14, 3) := by decide +kernel
theorem dX11_against_10 : decode cX11_against 10 = .ok (.iload_n 2, 1) := by decide +kernel
theorem dX11_against_11 : decode cX11_against 11 = .ok (.iaload, 1) := by decide +kernel
theorem dX11_against_12 : decode cX11_against 12 = .ok (.if_icmp .eq 24, 3) := by decide +kernel
theorem dX11_against_15 : decode cX11_against 15 = .ok (.aload_n 0, 1) := by decide +kernel
theorem dX11_against_16 : decode cX11_against 16 = .ok (.getfield 14, 3) := by decide +kernel
theorem dX11_against_19 : decode cX11_against 19 = .ok (.iload_n 1, 1) := by decide +kernel
theorem dX11_against_20 : decode cX11_against 20 = .ok (.iaload, 1) := by decide +kernel
theorem dX11_against_21 : decode cX11_against 21 = .ok (.aload_n 0, 1) := by decide +kernel
theorem dX11_against_22 : decode cX11_against 22 = .ok (.getfield 14, 3) := by decide +kernel
theorem dX11_against_25 : decode cX11_against 25 = .ok (.iload_n 2, 1) := by decide +kernel
theorem dX11_against_26 : decode cX11_against 26 = .ok (.iaload, 1) := by decide +kernel
theorem dX11_against_27 : decode cX11_against 27 = .ok (.if_icmp .ge 7, 3) := by decide +kernel
theorem dX11_against_30 : decode cX11_against 30 = .ok (.iconst (-1), 1) := by decide +kernel
theorem dX11_against_31 : decode cX11_against 31 = .ok (.goto 4, 3) := by decide +kernel
theorem dX11_against_34 : decode cX11_against 34 = .ok (.iconst 1, 1) := by decide +kernel
theorem dX11_against_35 : decode cX11_against 35 = .ok (.ireturn, 1) := by decide +kernel
theorem dX11_against_36 : decode cX11_against 36 = .ok (.aload_n 0, 1) := by decide +kernel
theorem dX11_against_37 : decode cX11_against 37 = .ok (.getfield 14, 3) := by decide +kernel
theorem dX11_against_40 : decode cX11_against 40 = .ok (.iload_n 1, 1) := by decide +kernel
theorem dX11_against_41 : decode cX11_against 41 = .ok (.iaload, 1) := by decide +kernel
theorem dX11_against_42 : decode cX11_against 42 = .ok (.iconst 1, 1) := by decide +kernel
theorem dX11_against_43 : decode cX11_against 43 = .ok (.isub, 1) := by decide +kernel
theorem dX11_against_44 : decode cX11_against 44 = .ok (.istore_n 3, 1) := by decide +kernel
theorem dX11_against_45 : decode cX11_against 45 = .ok (.iload_n 3, 1) := by decide +kernel
theorem dX11_against_46 : decode cX11_against 46 = .ok (.ifCond .lt 45, 3) := by decide +kernel
theorem dX11_against_49 : decode cX11_against 49 = .ok (.aload_n 0, 1) := by decide +kernel
theorem dX11_against_50 : decode cX11_against 50 = .ok (.iload_n 1, 1) := by decide +kernel
theorem dX11_against_51 : decode cX11_against 51 = .ok (.iload_n 3, 1) := by decide +kernel
theorem dX11_against_52 : decode cX11_against 52 = .ok (.invokevirtual 59, 3) := by decide +kernel
theorem dX11_against_55 : decode cX11_against 55 = .ok (.aload_n 0, 1) := by decide +kernel
theorem dX11_against_56 : decode cX11_against 56 = .ok (.iload_n 2, 1) := by decide +kernel
theorem dX11_against_57 : decode cX11_against 57 = .ok (.iload_n 3, 1) := by decide +kernel
theorem dX11_against_58 : decode cX11_against 58 = .ok (.invokevirtual 59, 3) := by decide +kernel
theorem dX11_against_61 : decode cX11_against 61 = .ok (.if_icmp .eq 24, 3) := by decide +kernel
theorem dX11_against_64 : decode cX11_against 64 = .ok (.aload_n 0, 1) := by decide +kernel
theorem dX11_against_65 : decode cX11_against 65 = .ok (.iload_n 1, 1) := by decide +kernel
theorem dX11_against_66 : decode cX11_against 66 = .ok (.iload_n 3, 1) := by decide +kernel
theorem dX11_against_67 : decode cX11_against 67 = .ok (.invokevirtual 59, 3) := by decide +kernel
theorem dX11_against_70 : decode cX11_against 70 = .ok (.aload_n 0, 1) := by decide +kernel
theorem dX11_against_71 : decode cX11_against 71 = .ok (.iload_n 2, 1) := by decide +kernel
theorem dX11_against_72 : decode cX11_against 72 = .ok (.iload_n 3, 1) := by decide +kernel
theorem dX11_against_73 : decode cX11_against 73 = .ok (.invokevirtual 59, 3) := by decide +kernel
theorem dX11_against_76 : decode cX11_against 76 = .ok (.if_icmp .ge 7, 3) := by decide +kernel
theorem dX11_against_79 : decode cX11_against 79 = .ok (.iconst (-1), 1) := by decide +kernel
theorem dX11_against_80 : decode cX11_against 80 = .ok (.goto 4, 3) := by decide +kernel
theorem dX11_against_83 : decode cX11_against 83 = .ok (.iconst 1, 1) := by decide +kernel
theorem dX11_against_84 : decode cX11_against 84 = .ok (.ireturn, 1) := by decide +kernel
theorem dX11_against_85 : decode cX11_against 85 = .ok (.iinc 3 (-1), 3) := by decide +kernel
theorem dX11_against_88 : decode cX11_against 88 = .ok (.goto (-43), 3) := by decide +kernel
theorem dX11_against_91 : decode cX11_against 91 = .ok (.iconst 0, 1) := by decide +kernel
theorem dX11_against_92 : decode cX11_against 92 = .ok (.ireturn, 1) := by decide +kernel
theorem dX11_adds_0 : decode cX11_adds 0 = .ok (.iload 4, 2) := by decide +kernel
theorem dX11_adds_2 : decode cX11_adds 2 = .ok (.aload_n 0, 1) := by decide +kernel
theorem dX11_adds_3 : decode cX11_adds 3 = .ok (.getfield 17, 3) := by decide +kernel
theorem dX11_adds_6 : decode cX11_adds 6 = .ok (.iload_n 3, 1) := by decide +kernel
theorem dX11_adds_7 : decode cX11_adds 7 = .ok (.iaload, 1) := by decide +kernel
theorem dX11_adds_8 : decode cX11_adds 8 = .ok (.imul, 1) := by decide +kernel
theorem dX11_adds_9 : decode cX11_adds 9 = .ok (.istore 5, 2) := by decide +kernel
theorem dX11_adds_11 : decode cX11_adds 11 = .ok (.iload 5, 2) := by decide +kernel
theorem dX11_adds_13 : decode cX11_adds 13 = .ok (.ifCond .eq 12, 3) := by decide +kernel
theorem dX11_adds_16 : decode cX11_adds 16 = .ok (.aload_n 0, 1) := by decide +kernel
theorem dX11_adds_17 : decode cX11_adds 17 = .ok (.getfield 17, 3) := by decide +kernel
theorem dX11_adds_20 : decode cX11_adds 20 = .ok (.iload_n 2, 1) := by decide +kernel
theorem dX11_adds_21 : decode cX11_adds 21 = .ok (.iaload, 1) := by decide +kernel
theorem dX11_adds_22 : decode cX11_adds 22 = .ok (.ifCond .ne 44, 3) := by decide +kernel
theorem dX11_adds_25 : decode cX11_adds 25 = .ok (.iload 5, 2) := by decide +kernel
theorem dX11_adds_27 : decode cX11_adds 27 = .ok (.ifCond .ne 7, 3) := by decide +kernel
theorem dX11_adds_30 : decode cX11_adds 30 = .ok (.iconst 1, 1) := by decide +kernel
theorem dX11_adds_31 : decode cX11_adds 31 = .ok (.goto 4, 3) := by decide +kernel
theorem dX11_adds_34 : decode cX11_adds 34 = .ok (.iconst 0, 1) := by decide +kernel
theorem dX11_adds_35 : decode cX11_adds 35 = .ok (.istore 6, 2) := by decide +kernel
theorem dX11_adds_37 : decode cX11_adds 37 = .ok (.aload_n 0, 1) := by decide +kernel
theorem dX11_adds_38 : decode cX11_adds 38 = .ok (.iload_n 1, 1) := by decide +kernel
theorem dX11_adds_39 : decode cX11_adds 39 = .ok (.iload 6, 2) := by decide +kernel
theorem dX11_adds_41 : decode cX11_adds 41 = .ok (.ifCond .eq 7, 3) := by decide +kernel
theorem dX11_adds_44 : decode cX11_adds 44 = .ok (.iload_n 2, 1) := by decide +kernel
theorem dX11_adds_45 : decode cX11_adds 45 = .ok (.goto 4, 3) := by decide +kernel
theorem dX11_adds_48 : decode cX11_adds 48 = .ok (.iload_n 3, 1) := by decide +kernel
theorem dX11_adds_49 : decode cX11_adds 49 = .ok (.invokevirtual 63, 3) := by decide +kernel
theorem dX11_adds_52 : decode cX11_adds 52 = .ok (.iload 6, 2) := by decide +kernel
theorem dX11_adds_54 : decode cX11_adds 54 = .ok (.ifCond .ne 11, 3) := by decide +kernel
theorem dX11_adds_57 : decode cX11_adds 57 = .ok (.aload_n 0, 1) := by decide +kernel
theorem dX11_adds_58 : decode cX11_adds 58 = .ok (.getfield 17, 3) := by decide +kernel
theorem dX11_adds_61 : decode cX11_adds 61 = .ok (.iload_n 1, 1) := by decide +kernel
theorem dX11_adds_62 : decode cX11_adds 62 = .ok (.iload 5, 2) := by decide +kernel
theorem dX11_adds_64 : decode cX11_adds 64 = .ok (.iastore, 1) := by decide +kernel
theorem dX11_adds_65 : decode cX11_adds 65 = .ok (.return_, 1) := by decide +kernel
theorem dX11_adds_66 : decode cX11_adds 66 = .ok (.aload_n 0, 1) := by decide +kernel
theorem dX11_adds_67 : decode cX11_adds 67 = .ok (.getfield 17, 3) := by decide +kernel
theorem dX11_adds_70 : decode cX11_adds 70 = .ok (.iload_n 2, 1) := by decide +kernel
theorem dX11_adds_71 : decode cX11_adds 71 = .ok (.iaload, 1) := by decide +kernel
theorem dX11_adds_72 : decode cX11_adds 72 = .ok (.iload 5, 2) := by decide +kernel
theorem dX11_adds_74 : decode cX11_adds 74 = .ok (.if_icmp .ne 162, 3) := by decide +kernel
theorem dX11_adds_77 : decode cX11_adds 77 = .ok (.aload_n 0, 1) := by decide +kernel
theorem dX11_adds_78 : decode cX11_adds 78 = .ok (.getfield 14, 3) := by decide +kernel
theorem dX11_adds_81 : decode cX11_adds 81 = .ok (.iload_n 2, 1) := by decide +kernel
theorem dX11_adds_82 : decode cX11_adds 82 = .ok (.iaload, 1) := by decide +kernel
theorem dX11_adds_83 : decode cX11_adds 83 = .ok (.aload_n 0, 1) := by decide +kernel
theorem dX11_adds_84 : decode cX11_adds 84 = .ok (.getfield 14, 3) := by decide +kernel
theorem dX11_adds_87 : decode cX11_adds 87 = .ok (.iload_n 3, 1) := by decide +kernel
theorem dX11_adds_88 : decode cX11_adds 88 = .ok (.iaload, 1) := by decide +kernel
theorem dX11_adds_89 : decode cX11_adds 89 = .ok (.if_icmp .le 12, 3) := by decide +kernel
theorem dX11_adds_92 : decode cX11_adds 92 = .ok (.aload_n 0, 1) := by decide +kernel
theorem dX11_adds_93 : decode cX11_adds 93 = .ok (.getfield 14, 3) := by decide +kernel
theorem dX11_adds_96 : decode cX11_adds 96 = .ok (.iload_n 2, 1) := by decide +kernel
theorem dX11_adds_97 : decode cX11_adds 97 = .ok (.iaload, 1) := by decide +kernel
theorem dX11_adds_98 : decode cX11_adds 98 = .ok (.goto 9, 3) := by decide +kernel
theorem dX11_adds_101 : decode cX11_adds 101 = .ok (.aload_n 0, 1) := by decide +kernel
theorem dX11_adds_102 : decode cX11_adds 102 = .ok (.getfield 14, 3) := by decide +kernel
theorem dX11_adds_105 : decode cX11_adds 105 = .ok (.iload_n 3, 1) := by decide +kernel
theorem dX11_adds_106 : decode cX11_adds 106 = .ok (.iaload, 1) := by decide +kernel
theorem dX11_adds_107 : decode cX11_adds 107 = .ok (.istore 6, 2) := by decide +kernel
theorem dX11_adds_109 : decode cX11_adds 109 = .ok (.iconst 0, 1) := by decide +kernel
theorem dX11_adds_110 : decode cX11_adds 110 = .ok (.istore 7, 2) := by decide +kernel
theorem dX11_adds_112 : decode cX11_adds 112 = .ok (.iconst 0, 1) := by decide +kernel
theorem dX11_adds_113 : decode cX11_adds 113 = .ok (.istore 8, 2) := by decide +kernel
theorem dX11_adds_115 : decode cX11_adds 115 = .ok (.iload 8, 2) := by decide +kernel
theorem dX11_adds_117 : decode cX11_adds 117 = .ok (.iload 6, 2) := by decide +kernel
theorem dX11_adds_119 : decode cX11_adds 119 = .ok (.if_icmp .ge 84, 3) := by decide +kernel
theorem dX11_adds_122 : decode cX11_adds 122 = .ok (.iload 8, 2) := by decide +kernel
theorem dX11_adds_124 : decode cX11_adds 124 = .ok (.aload_n 0, 1) := by decide +kernel
theorem dX11_adds_125 : decode cX11_adds 125 = .ok (.getfield 14, 3) := by decide +kernel
theorem dX11_adds_128 : decode cX11_adds 128 = .ok (.iload_n 2, 1) := by decide +kernel
theorem dX11_adds_129 : decode cX11_adds 129 = .ok (.iaload, 1) := by decide +kernel
theorem dX11_adds_130 : decode cX11_adds 130 = .ok (.if_icmp .ge 13, 3) := by decide +kernel
theorem dX11_adds_133 : decode cX11_adds 133 = .ok (.aload_n 0, 1) := by decide +kernel
theorem dX11_adds_134 : decode cX11_adds 134 = .ok (.iload_n 2, 1) := by decide +kernel
theorem dX11_adds_135 : decode cX11_adds 135 = .ok (.iload 8, 2) := by decide +kernel
theorem dX11_adds_137 : decode cX11_adds 137 = .ok (.invokevirtual 59, 3) := by decide +kernel
theorem dX11_adds_140 : decode cX11_adds 140 = .ok (.goto 4, 3) := by decide +kernel
theorem dX11_adds_143 : decode cX11_adds 143 = .ok (.iconst 0, 1) := by decide +kernel
theorem dX11_adds_144 : decode cX11_adds 144 = .ok (.iload 8, 2) := by decide +kernel
theorem dX11_adds_146 : decode cX11_adds 146 = .ok (.aload_n 0, 1) := by decide +kernel
theorem dX11_adds_147 : decode cX11_adds 147 = .ok (.getfield 14, 3) := by decide +kernel
theorem dX11_adds_150 : decode cX11_adds 150 = .ok (.iload_n 3, 1) := by decide +kernel
theorem dX11_adds_151 : decode cX11_adds 151 = .ok (.iaload, 1) := by decide +kernel
theorem dX11_adds_152 : decode cX11_adds 152 = .ok (.if_icmp .ge 13, 3) := by decide +kernel
theorem dX11_adds_155 : decode cX11_adds 155 = .ok (.aload_n 0, 1) := by decide +kernel
theorem dX11_adds_156 : decode cX11_adds 156 = .ok (.iload_n 3, 1) := by decide +kernel
theorem dX11_adds_157 : decode cX11_adds 157 = .ok (.iload 8, 2) := by decide +kernel
theorem dX11_adds_159 : decode cX11_adds 159 = .ok (.invokevirtual 59, 3) := by decide +kernel
theorem dX11_adds_162 : decode cX11_adds 162 = .ok (.goto 4, 3) := by decide +kernel
theorem dX11_adds_165 : decode cX11_adds 165 = .ok (.iconst 0, 1) := by decide +kernel
theorem dX11_adds_166 : decode cX11_adds 166 = .ok (.iadd, 1) := by decide +kernel
theorem dX11_adds_167 : decode cX11_adds 167 = .ok (.iload 7, 2) := by decide +kernel
theorem dX11_adds_169 : decode cX11_adds 169 = .ok (.iadd, 1) := by decide +kernel
theorem dX11_adds_170 : decode cX11_adds 170 = .ok (.istore 9, 2) := by decide +kernel
theorem dX11_adds_172 : decode cX11_adds 172 = .ok (.aload_n 0, 1) := by decide +kernel
theorem dX11_adds_173 : decode cX11_adds 173 = .ok (.getfield 8, 3) := by decide +kernel
theorem dX11_adds_176 : decode cX11_adds 176 = .ok (.sipush 200, 3) := by decide +kernel
theorem dX11_adds_179 : decode cX11_adds 179 = .ok (.iload_n 1, 1) := by decide +kernel
theorem dX11_adds_180 : decode cX11_adds 180 = .ok (.imul, 1) := by decide +kernel
theorem dX11_adds_181 : decode cX11_adds 181 = .ok (.iload 8, 2) := by decide +kernel
theorem dX11_adds_183 : decode cX11_adds 183 = .ok (.iadd, 1) := by decide +kernel
theorem dX11_adds_184 : decode cX11_adds 184 = .ok (.iload 9, 2) := by decide +kernel
theorem dX11_adds_186 : decode cX11_adds 186 = .ok (.ldc 67, 2) := by decide +kernel
theorem dX11_adds_188 : decode cX11_adds 188 = .ok (.irem, 1) := by decide +kernel
theorem dX11_adds_189 : decode cX11_adds 189 = .ok (.iastore, 1) := by decide +kernel
theorem dX11_adds_190 : decode cX11_adds 190 = .ok (.iload 9, 2) := by decide +kernel
theorem dX11_adds_192 : decode cX11_adds 192 = .ok (.ldc 67, 2) := by decide +kernel
theorem dX11_adds_194 : decode cX11_adds 194 = .ok (.idiv, 1) := by decide +kernel
theorem dX11_adds_195 : decode cX11_adds 195 = .ok (.istore 7, 2) := by decide +kernel
theorem dX11_adds_197 : decode cX11_adds 197 = .ok (.iinc 8 1, 3) := by decide +kernel
theorem dX11_adds_200 : decode cX11_adds 200 = .ok (.goto (-85), 3) := by decide +kernel
theorem dX11_adds_203 : decode cX11_adds 203 = .ok (.aload_n 0, 1) := by decide +kernel
theorem dX11_adds_204 : decode cX11_adds 204 = .ok (.getfield 8, 3) := by decide +kernel
theorem dX11_adds_207 : decode cX11_adds 207 = .ok (.sipush 200, 3) := by decide +kernel
theorem dX11_adds_210 : decode cX11_adds 210 = .ok (.iload_n 1, 1) := by decide +kernel
theorem dX11_adds_211 : decode cX11_adds 211 = .ok (.imul, 1) := by decide +kernel
theorem dX11_adds_212 : decode cX11_adds 212 = .ok (.iload 6, 2) := by decide +kernel
theorem dX11_adds_214 : decode cX11_adds 214 = .ok (.iadd, 1) := by decide +kernel
theorem dX11_adds_215 : decode cX11_adds 215 = .ok (.iload 7, 2) := by decide +kernel
theorem dX11_adds_217 : decode cX11_adds 217 = .ok (.iastore, 1) := by decide +kernel
theorem dX11_adds_218 : decode cX11_adds 218 = .ok (.aload_n 0, 1) := by decide +kernel
theorem dX11_adds_219 : decode cX11_adds 219 = .ok (.getfield 17, 3) := by decide +kernel
theorem dX11_adds_222 : decode cX11_adds 222 = .ok (.iload_n 1, 1) := by decide +kernel
theorem dX11_adds_223 : decode cX11_adds 223 = .ok (.iload 5, 2) := by decide +kernel
theorem dX11_adds_225 : decode cX11_adds 225 = .ok (.iastore, 1) := by decide +kernel
theorem dX11_adds_226 : decode cX11_adds 226 = .ok (.aload_n 0, 1) := by decide +kernel
theorem dX11_adds_227 : decode cX11_adds 227 = .ok (.iload_n 1, 1) := by decide +kernel
theorem dX11_adds_228 : decode cX11_adds 228 = .ok (.iload 6, 2) := by decide +kernel
theorem dX11_adds_230 : decode cX11_adds 230 = .ok (.iconst 1, 1) := by decide +kernel
theorem dX11_adds_231 : decode cX11_adds 231 = .ok (.iadd, 1) := by decide +kernel
theorem dX11_adds_232 : decode cX11_adds 232 = .ok (.invokevirtual 68, 3) := by decide +kernel
theorem dX11_adds_235 : decode cX11_adds 235 = .ok (.return_, 1) := by decide +kernel
theorem dX11_adds_236 : decode cX11_adds 236 = .ok (.aload_n 0, 1) := by decide +kernel
theorem dX11_adds_237 : decode cX11_adds 237 = .ok (.iload_n 2, 1) := by decide +kernel
theorem dX11_adds_238 : decode cX11_adds 238 = .ok (.iload_n 3, 1) := by decide +kernel
theorem dX11_adds_239 : decode cX11_adds 239 = .ok (.invokevirtual 71, 3) := by decide +kernel
theorem dX11_adds_242 : decode cX11_adds 242 = .ok (.ifCond .lt 7, 3) := by decide +kernel
theorem dX11_adds_245 : decode cX11_adds 245 = .ok (.iconst 1, 1) := by decide +kernel
theorem dX11_adds_246 : decode cX11_adds 246 = .ok (.goto 4, 3) := by decide +kernel
theorem dX11_adds_249 : decode cX11_adds 249 = .ok (.iconst 0, 1) := by decide +kernel
theorem dX11_adds_250 : decode cX11_adds 250 = .ok (.istore 6, 2) := by decide +kernel
theorem dX11_adds_252 : decode cX11_adds 252 = .ok (.iload 6, 2) := by decide +kernel
theorem dX11_adds_254 : decode cX11_adds 254 = .ok (.ifCond .eq 7, 3) := by decide +kernel
theorem dX11_adds_257 : decode cX11_adds 257 = .ok (.iload_n 2, 1) := by decide +kernel
theorem dX11_adds_258 : decode cX11_adds 258 = .ok (.goto 4, 3) := by decide +kernel
theorem dX11_adds_261 : decode cX11_adds 261 = .ok (.iload_n 3, 1) := by decide +kernel
theorem dX11_adds_262 : decode cX11_adds 262 = .ok (.istore 7, 2) := by decide +kernel
theorem dX11_adds_264 : decode cX11_adds 264 = .ok (.iload 6, 2) := by decide +kernel
theorem dX11_adds_266 : decode cX11_adds 266 = .ok (.ifCond .eq 7, 3) := by decide +kernel
theorem dX11_adds_269 : decode cX11_adds 269 = .ok (.iload_n 3, 1) := by decide +kernel
theorem dX11_adds_270 : decode cX11_adds 270 = .ok (.goto 4, 3) := by decide +kernel
theorem dX11_adds_273 : decode cX11_adds 273 = .ok (.iload_n 2, 1) := by decide +kernel
theorem dX11_adds_274 : decode cX11_adds 274 = .ok (.istore 8, 2) := by decide +kernel
theorem dX11_adds_276 : decode cX11_adds 276 = .ok (.iload 6, 2) := by decide +kernel
theorem dX11_adds_278 : decode cX11_adds 278 = .ok (.ifCond .eq 12, 3) := by decide +kernel
theorem dX11_adds_281 : decode cX11_adds 281 = .ok (.aload_n 0, 1) := by decide +kernel
theorem dX11_adds_282 : decode cX11_adds 282 = .ok (.getfield 17, 3) := by decide +kernel
theorem dX11_adds_285 : decode cX11_adds 285 = .ok (.iload_n 2, 1) := by decide +kernel
theorem dX11_adds_286 : decode cX11_adds 286 = .ok (.iaload, 1) := by decide +kernel
theorem dX11_adds_287 : decode cX11_adds 287 = .ok (.goto 5, 3) := by decide +kernel
theorem dX11_adds_290 : decode cX11_adds 290 = .ok (.iload 5, 2) := by decide +kernel
theorem dX11_adds_292 : decode cX11_adds 292 = .ok (.istore 9, 2) := by decide +kernel
theorem dX11_adds_294 : decode cX11_adds 294 = .ok (.aload_n 0, 1) := by decide +kernel
theorem dX11_adds_295 : decode cX11_adds 295 = .ok (.getfield 14, 3) := by decide +kernel
theorem dX11_adds_298 : decode cX11_adds 298 = .ok (.iload 7, 2) := by decide +kernel
theorem dX11_adds_300 : decode cX11_adds 300 = .ok (.iaload, 1) := by decide +kernel
theorem dX11_adds_301 : decode cX11_adds 301 = .ok (.istore 10, 2) := by decide +kernel
theorem dX11_adds_303 : decode cX11_adds 303 = .ok (.iconst 0, 1) := by decide +kernel
theorem dX11_adds_304 : decode cX11_adds 304 = .ok (.istore 11, 2) := by decide +kernel
theorem dX11_adds_306 : decode cX11_adds 306 = .ok (.aload_n 0, 1) := by decide +kernel
theorem dX11_adds_307 : decode cX11_adds 307 = .ok (.getfield 14, 3) := by decide +kernel
theorem dX11_adds_310 : decode cX11_adds 310 = .ok (.iload 8, 2) := by decide +kernel
theorem dX11_adds_312 : decode cX11_adds 312 = .ok (.iaload, 1) := by decide +kernel
theorem dX11_adds_313 : decode cX11_adds 313 = .ok (.istore 12, 2) := by decide +kernel
theorem dX11_adds_315 : decode cX11_adds 315 = .ok (.iconst 0, 1) := by decide +kernel
theorem dX11_adds_316 : decode cX11_adds 316 = .ok (.istore 13, 2) := by decide +kernel
theorem dX11_adds_318 : decode cX11_adds 318 = .ok (.iload 13, 2) := by decide +kernel
theorem dX11_adds_320 : decode cX11_adds 320 = .ok (.iload 10, 2) := by decide +kernel
theorem dX11_adds_322 : decode cX11_adds 322 = .ok (.if_icmp .ge 75, 3) := by decide +kernel
theorem dX11_adds_325 : decode cX11_adds 325 = .ok (.aload_n 0, 1) := by decide +kernel
theorem dX11_adds_326 : decode cX11_adds 326 = .ok (.iload 7, 2) := by decide +kernel
theorem dX11_adds_328 : decode cX11_adds 328 = .ok (.iload 13, 2) := by decide +kernel
theorem dX11_adds_330 : decode cX11_adds 330 = .ok (.invokevirtual 59, 3) := by decide +kernel
theorem dX11_adds_333 : decode cX11_adds 333 = .ok (.iload 13, 2) := by decide +kernel
theorem dX11_adds_335 : decode cX11_adds 335 = .ok (.iload 12, 2) := by decide +kernel
theorem dX11_adds_337 : decode cX11_adds 337 = .ok (.if_icmp .ge 14, 3) := by decide +kernel
theorem dX11_adds_340 : decode cX11_adds 340 = .ok (.aload_n 0, 1) := by decide +kernel
theorem dX11_adds_341 : decode cX11_adds 341 = .ok (.iload 8, 2) := by decide +kernel
theorem dX11_adds_343 : decode cX11_adds 343 = .ok (.iload 13, 2) := by decide +kernel
theorem dX11_adds_345 : decode cX11_adds 345 = .ok (.invokevirtual 59, 3) := by decide +kernel
theorem dX11_adds_348 : decode cX11_adds 348 = .ok (.goto 4, 3) := by decide +kernel
theorem dX11_adds_351 : decode cX11_adds 351 = .ok (.iconst 0, 1) := by decide +kernel
theorem dX11_adds_352 : decode cX11_adds 352 = .ok (.isub, 1) := by decide +kernel
theorem dX11_adds_353 : decode cX11_adds 353 = .ok (.iload 11, 2) := by decide +kernel
theorem dX11_adds_355 : decode cX11_adds 355 = .ok (.isub, 1) := by decide +kernel
theorem dX11_adds_356 : decode cX11_adds 356 = .ok (.istore 14, 2) := by decide +kernel
theorem dX11_adds_358 : decode cX11_adds 358 = .ok (.iload 14, 2) := by decide +kernel
theorem dX11_adds_360 : decode cX11_adds 360 = .ok (.ifCond .ge 7, 3) := by decide +kernel
theorem dX11_adds_363 : decode cX11_adds 363 = .ok (.iconst 1, 1) := by decide +kernel
theorem dX11_adds_364 : decode cX11_adds 364 = .ok (.goto 4, 3) := by decide +kernel
theorem dX11_adds_367 : decode cX11_adds 367 = .ok (.iconst 0, 1) := by decide +kernel
theorem dX11_adds_368 : decode cX11_adds 368 = .ok (.istore 11, 2) := by decide +kernel
theorem dX11_adds_370 : decode cX11_adds 370 = .ok (.aload_n 0, 1) := by decide +kernel
theorem dX11_adds_371 : decode cX11_adds 371 = .ok (.getfield 8, 3) := by decide +kernel
