theorem dX9_refuse_26 : decode cX9_refuse 26 = .ok (.aload_n 0, 1) := by decide +kernel
theorem dX9_refuse_27 : decode cX9_refuse 27 = .ok (.getfield 20, 3) := by decide +kernel
theorem dX9_refuse_30 : decode cX9_refuse 30 = .ok (.iload_n 1, 1) := by decide +kernel
theorem dX9_refuse_31 : decode cX9_refuse 31 = .ok (.iaload, 1) := by decide +kernel
theorem dX9_refuse_32 : decode cX9_refuse 32 = .ok (.aload_n 0, 1) := by decide +kernel
theorem dX9_refuse_33 : decode cX9_refuse 33 = .ok (.getfield 7, 3) := by decide +kernel
theorem dX9_refuse_36 : decode cX9_refuse 36 = .ok (.bipush 54, 2) := by decide +kernel
theorem dX9_refuse_38 : decode cX9_refuse 38 = .ok (.iload_n 1, 1) := by decide +kernel
theorem dX9_refuse_39 : decode cX9_refuse 39 = .ok (.iadd, 1) := by decide +kernel
theorem dX9_refuse_40 : decode cX9_refuse 40 = .ok (.iaload, 1) := by decide +kernel
theorem dX9_refuse_41 : decode cX9_refuse 41 = .ok (.if_icmp .ne 6, 3) := by decide +kernel
theorem dX9_refuse_44 : decode cX9_refuse 44 = .ok (.ldc 230, 2) := by decide +kernel
theorem dX9_refuse_46 : decode cX9_refuse 46 = .ok (.ireturn, 1) := by decide +kernel
theorem dX9_refuse_47 : decode cX9_refuse 47 = .ok (.aload_n 0, 1) := by decide +kernel
theorem dX9_refuse_48 : decode cX9_refuse 48 = .ok (.invokevirtual 223, 3) := by decide +kernel
theorem dX9_refuse_51 : decode cX9_refuse 51 = .ok (.aload_n 0, 1) := by decide +kernel
theorem dX9_refuse_52 : decode cX9_refuse 52 = .ok (.iconst 0, 1) := by decide +kernel
theorem dX9_refuse_53 : decode cX9_refuse 53 = .ok (.iload_n 1, 1) := by decide +kernel
theorem dX9_refuse_54 : decode cX9_refuse 54 = .ok (.aload_n 0, 1) := by decide +kernel
theorem dX9_refuse_55 : decode cX9_refuse 55 = .ok (.getfield 20, 3) := by decide +kernel
theorem dX9_refuse_58 : decode cX9_refuse 58 = .ok (.iload_n 1, 1) := by decide +kernel
theorem dX9_refuse_59 : decode cX9_refuse 59 = .ok (.iaload, 1) := by decide +kernel
theorem dX9_refuse_60 : decode cX9_refuse 60 = .ok (.invokevirtual 219, 3) := by decide +kernel
theorem dX9_refuse_63 : decode cX9_refuse 63 = .ok (.aload_n 0, 1) := by decide +kernel
theorem dX9_refuse_64 : decode cX9_refuse 64 = .ok (.iconst 0, 1) := by decide +kernel
theorem dX9_refuse_65 : decode cX9_refuse 65 = .ok (.invokevirtual 187, 3) := by decide +kernel
theorem dX9_refuse_68 : decode cX9_refuse 68 = .ok (.aload_n 0, 1) := by decide +kernel
theorem dX9_refuse_69 : decode cX9_refuse 69 = .ok (.getfield 20, 3) := by decide +kernel
theorem dX9_refuse_72 : decode cX9_refuse 72 = .ok (.iload_n 1, 1) := by decide +kernel
theorem dX9_refuse_73 : decode cX9_refuse 73 = .ok (.iaload, 1) := by decide +kernel
theorem dX9_refuse_74 : decode cX9_refuse 74 = .ok (.ireturn, 1) := by decide +kernel
theorem dX9_moveAll_0 : decode cX9_moveAll 0 = .ok (.aload_n 0, 1) := by decide +kernel
theorem dX9_moveAll_1 : decode cX9_moveAll 1 = .ok (.iconst 0, 1) := by decide +kernel
theorem dX9_moveAll_2 : decode cX9_moveAll 2 = .ok (.invokevirtual 187, 3) := by decide +kernel
theorem dX9_moveAll_5 : decode cX9_moveAll 5 = .ok (.iconst 0, 1) := by decide +kernel
theorem dX9_moveAll_6 : decode cX9_moveAll 6 = .ok (.istore_n 1, 1) := by decide +kernel
theorem dX9_moveAll_7 : decode cX9_moveAll 7 = .ok (.iconst 0, 1) := by decide +kernel
theorem dX9_moveAll_8 : decode cX9_moveAll 8 = .ok (.istore_n 2, 1) := by decide +kernel
theorem dX9_moveAll_9 : decode cX9_moveAll 9 = .ok (.iload_n 2, 1) := by decide +kernel
theorem dX9_moveAll_10 : decode cX9_moveAll 10 = .ok (.aload_n 0, 1) := by decide +kernel
theorem dX9_moveAll_11 : decode cX9_moveAll 11 = .ok (.getfield 51, 3) := by decide +kernel
theorem dX9_moveAll_14 : decode cX9_moveAll 14 = .ok (.if_icmp .ge 50, 3) := by decide +kernel
theorem dX9_moveAll_17 : decode cX9_moveAll 17 = .ok (.iload_n 1, 1) := by decide +kernel
theorem dX9_moveAll_18 : decode cX9_moveAll 18 = .ok (.aload_n 0, 1) := by decide +kernel
theorem dX9_moveAll_19 : decode cX9_moveAll 19 = .ok (.getfield 20, 3) := by decide +kernel
theorem dX9_moveAll_22 : decode cX9_moveAll 22 = .ok (.iload_n 2, 1) := by decide +kernel
theorem dX9_moveAll_23 : decode cX9_moveAll 23 = .ok (.iaload, 1) := by decide +kernel
theorem dX9_moveAll_24 : decode cX9_moveAll 24 = .ok (.aload_n 0, 1) := by decide +kernel
theorem dX9_moveAll_25 : decode cX9_moveAll 25 = .ok (.getfield 7, 3) := by decide +kernel
theorem dX9_moveAll_28 : decode cX9_moveAll 28 = .ok (.bipush 54, 2) := by decide +kernel
theorem dX9_moveAll_30 : decode cX9_moveAll 30 = .ok (.iload_n 2, 1) := by decide +kernel
theorem dX9_moveAll_31 : decode cX9_moveAll 31 = .ok (.iadd, 1) := by decide +kernel
theorem dX9_moveAll_32 : decode cX9_moveAll 32 = .ok (.iaload, 1) := by decide +kernel
theorem dX9_moveAll_33 : decode cX9_moveAll 33 = .ok (.if_icmp .ne 7, 3) := by decide +kernel
theorem dX9_moveAll_36 : decode cX9_moveAll 36 = .ok (.iconst 0, 1) := by decide +kernel
theorem dX9_moveAll_37 : decode cX9_moveAll 37 = .ok (.goto 4, 3) := by decide +kernel
theorem dX9_moveAll_40 : decode cX9_moveAll 40 = .ok (.iconst 1, 1) := by decide +kernel
theorem dX9_moveAll_41 : decode cX9_moveAll 41 = .ok (.iadd, 1) := by decide +kernel
theorem dX9_moveAll_42 : decode cX9_moveAll 42 = .ok (.istore_n 1, 1) := by decide +kernel
theorem dX9_moveAll_43 : decode cX9_moveAll 43 = .ok (.aload_n 0, 1) := by decide +kernel
theorem dX9_moveAll_44 : decode cX9_moveAll 44 = .ok (.getfield 7, 3) := by decide +kernel
theorem dX9_moveAll_47 : decode cX9_moveAll 47 = .ok (.bipush 54, 2) := by decide +kernel
theorem dX9_moveAll_49 : decode cX9_moveAll 49 = .ok (.iload_n 2, 1) := by decide +kernel
theorem dX9_moveAll_50 : decode cX9_moveAll 50 = .ok (.iadd, 1) := by decide +kernel
theorem dX9_moveAll_51 : decode cX9_moveAll 51 = .ok (.aload_n 0, 1) := by decide +kernel
theorem dX9_moveAll_52 : decode cX9_moveAll 52 = .ok (.getfield 20, 3) := by decide +kernel
theorem dX9_moveAll_55 : decode cX9_moveAll 55 = .ok (.iload_n 2, 1) := by decide +kernel
theorem dX9_moveAll_56 : decode cX9_moveAll 56 = .ok (.iaload, 1) := by decide +kernel
theorem dX9_moveAll_57 : decode cX9_moveAll 57 = .ok (.iastore, 1) := by decide +kernel
theorem dX9_moveAll_58 : decode cX9_moveAll 58 = .ok (.iinc 2 1, 3) := by decide +kernel
theorem dX9_moveAll_61 : decode cX9_moveAll 61 = .ok (.goto (-52), 3) := by decide +kernel
theorem dX9_moveAll_64 : decode cX9_moveAll 64 = .ok (.iload_n 1, 1) := by decide +kernel
theorem dX9_moveAll_65 : decode cX9_moveAll 65 = .ok (.ireturn, 1) := by decide +kernel
theorem dX9_moved_0 : decode cX9_moved 0 = .ok (.aload_n 0, 1) := by decide +kernel
theorem dX9_moved_1 : decode cX9_moved 1 = .ok (.getfield 51, 3) := by decide +kernel
theorem dX9_moved_4 : decode cX9_moved 4 = .ok (.ifCond .ne 6, 3) := by decide +kernel
theorem dX9_moved_7 : decode cX9_moved 7 = .ok (.ldc 230, 2) := by decide +kernel
theorem dX9_moved_9 : decode cX9_moved 9 = .ok (.ireturn, 1) := by decide +kernel
theorem dX9_moved_10 : decode cX9_moved 10 = .ok (.aload_n 0, 1) := by decide +kernel
theorem dX9_moved_11 : decode cX9_moved 11 = .ok (.invokevirtual 223, 3) := by decide +kernel
theorem dX9_moved_14 : decode cX9_moved 14 = .ok (.aload_n 0, 1) := by decide +kernel
theorem dX9_moved_15 : decode cX9_moved 15 = .ok (.invokevirtual 234, 3) := by decide +kernel
theorem dX9_moved_18 : decode cX9_moved 18 = .ok (.ireturn, 1) := by decide +kernel
theorem dX9_leave_0 : decode cX9_leave 0 = .ok (.aload_n 0, 1) := by decide +kernel
theorem dX9_leave_1 : decode cX9_leave 1 = .ok (.iload_n 1, 1) := by decide +kernel
theorem dX9_leave_2 : decode cX9_leave 2 = .ok (.invokevirtual 202, 3) := by decide +kernel
theorem dX9_leave_5 : decode cX9_leave 5 = .ok (.ifCond .ne 6, 3) := by decide +kernel
theorem dX9_leave_8 : decode cX9_leave 8 = .ok (.ldc 206, 2) := by decide +kernel
theorem dX9_leave_10 : decode cX9_leave 10 = .ok (.ireturn, 1) := by decide +kernel
theorem dX9_leave_11 : decode cX9_leave 11 = .ok (.aload_n 0, 1) := by decide +kernel
theorem dX9_leave_12 : decode cX9_leave 12 = .ok (.getfield 7, 3) := by decide +kernel
theorem dX9_leave_15 : decode cX9_leave 15 = .ok (.bipush 54, 2) := by decide +kernel
theorem dX9_leave_17 : decode cX9_leave 17 = .ok (.iload_n 1, 1) := by decide +kernel
theorem dX9_leave_18 : decode cX9_leave 18 = .ok (.iadd, 1) := by decide +kernel
theorem dX9_leave_19 : decode cX9_leave 19 = .ok (.iaload, 1) := by decide +kernel
theorem dX9_leave_20 : decode cX9_leave 20 = .ok (.istore_n 2, 1) := by decide +kernel
theorem dX9_leave_21 : decode cX9_leave 21 = .ok (.iload_n 2, 1) := by decide +kernel
theorem dX9_leave_22 : decode cX9_leave 22 = .ok (.iconst (-1), 1) := by decide +kernel
theorem dX9_leave_23 : decode cX9_leave 23 = .ok (.if_icmp .ne 6, 3) := by decide +kernel
theorem dX9_leave_26 : decode cX9_leave 26 = .ok (.ldc 230, 2) := by decide +kernel
theorem dX9_leave_28 : decode cX9_leave 28 = .ok (.ireturn, 1) := by decide +kernel
theorem dX9_leave_29 : decode cX9_leave 29 = .ok (.aload_n 0, 1) := by decide +kernel
theorem dX9_leave_30 : decode cX9_leave 30 = .ok (.invokevirtual 223, 3) := by decide +kernel
theorem dX9_leave_33 : decode cX9_leave 33 = .ok (.aload_n 0, 1) := by decide +kernel
theorem dX9_leave_34 : decode cX9_leave 34 = .ok (.getfield 7, 3) := by decide +kernel
theorem dX9_leave_37 : decode cX9_leave 37 = .ok (.bipush 54, 2) := by decide +kernel
theorem dX9_leave_39 : decode cX9_leave 39 = .ok (.iload_n 1, 1) := by decide +kernel
theorem dX9_leave_40 : decode cX9_leave 40 = .ok (.iadd, 1) := by decide +kernel
theorem dX9_leave_41 : decode cX9_leave 41 = .ok (.iconst (-1), 1) := by decide +kernel
theorem dX9_leave_42 : decode cX9_leave 42 = .ok (.iastore, 1) := by decide +kernel
theorem dX9_leave_43 : decode cX9_leave 43 = .ok (.iload_n 2, 1) := by decide +kernel
theorem dX9_leave_44 : decode cX9_leave 44 = .ok (.ireturn, 1) := by decide +kernel
theorem dX9_draw_0 : decode cX9_draw 0 = .ok (.aload_n 0, 1) := by decide +kernel
theorem dX9_draw_1 : decode cX9_draw 1 = .ok (.getfield 7, 3) := by decide +kernel
theorem dX9_draw_4 : decode cX9_draw 4 = .ok (.bipush 66, 2) := by decide +kernel
theorem dX9_draw_6 : decode cX9_draw 6 = .ok (.iaload, 1) := by decide +kernel
theorem dX9_draw_7 : decode cX9_draw 7 = .ok (.i2l, 1) := by decide +kernel
theorem dX9_draw_8 : decode cX9_draw 8 = .ok (.ldc2_w 237, 3) := by decide +kernel
theorem dX9_draw_11 : decode cX9_draw 11 = .ok (.lmul, 1) := by decide +kernel
theorem dX9_draw_12 : decode cX9_draw 12 = .ok (.ldc2_w 239, 3) := by decide +kernel
theorem dX9_draw_15 : decode cX9_draw 15 = .ok (.ladd, 1) := by decide +kernel
theorem dX9_draw_16 : decode cX9_draw 16 = .ok (.ldc2_w 241, 3) := by decide +kernel
theorem dX9_draw_19 : decode cX9_draw 19 = .ok (.lrem, 1) := by decide +kernel
theorem dX9_draw_20 : decode cX9_draw 20 = .ok (.lstore_n 2, 1) := by decide +kernel
theorem dX9_draw_21 : decode cX9_draw 21 = .ok (.aload_n 0, 1) := by decide +kernel
theorem dX9_draw_22 : decode cX9_draw 22 = .ok (.getfield 7, 3) := by decide +kernel
theorem dX9_draw_25 : decode cX9_draw 25 = .ok (.bipush 66, 2) := by decide +kernel
theorem dX9_draw_27 : decode cX9_draw 27 = .ok (.lload_n 2, 1) := by decide +kernel
theorem dX9_draw_28 : decode cX9_draw 28 = .ok (.l2i, 1) := by decide +kernel
theorem dX9_draw_29 : decode cX9_draw 29 = .ok (.iastore, 1) := by decide +kernel
theorem dX9_draw_30 : decode cX9_draw 30 = .ok (.aload_n 0, 1) := by decide +kernel
theorem dX9_draw_31 : decode cX9_draw 31 = .ok (.getfield 7, 3) := by decide +kernel
theorem dX9_draw_34 : decode cX9_draw 34 = .ok (.bipush 66, 2) := by decide +kernel
theorem dX9_draw_36 : decode cX9_draw 36 = .ok (.iaload, 1) := by decide +kernel
theorem dX9_draw_37 : decode cX9_draw 37 = .ok (.ldc 243, 2) := by decide +kernel
theorem dX9_draw_39 : decode cX9_draw 39 = .ok (.idiv, 1) := by decide +kernel
theorem dX9_draw_40 : decode cX9_draw 40 = .ok (.iload_n 1, 1) := by decide +kernel
theorem dX9_draw_41 : decode cX9_draw 41 = .ok (.irem, 1) := by decide +kernel
theorem dX9_draw_42 : decode cX9_draw 42 = .ok (.ireturn, 1) := by decide +kernel
theorem dX9_time_0 : decode cX9_time 0 = .ok (.aload_n 0, 1) := by decide +kernel
theorem dX9_time_1 : decode cX9_time 1 = .ok (.iconst 4, 1) := by decide +kernel
theorem dX9_time_2 : decode cX9_time 2 = .ok (.invokevirtual 244, 3) := by decide +kernel
theorem dX9_time_5 : decode cX9_time 5 = .ok (.istore_n 1, 1) := by decide +kernel
theorem dX9_time_6 : decode cX9_time 6 = .ok (.aload_n 0, 1) := by decide +kernel
theorem dX9_time_7 : decode cX9_time 7 = .ok (.aload_n 0, 1) := by decide +kernel
theorem dX9_time_8 : decode cX9_time 8 = .ok (.getfield 51, 3) := by decide +kernel
theorem dX9_time_11 : decode cX9_time 11 = .ok (.invokevirtual 244, 3) := by decide +kernel
theorem dX9_time_14 : decode cX9_time 14 = .ok (.istore_n 2, 1) := by decide +kernel
theorem dX9_time_15 : decode cX9_time 15 = .ok (.iload_n 1, 1) := by decide +kernel
theorem dX9_time_16 : decode cX9_time 16 = .ok (.ifCond .ne 28, 3) := by decide +kernel
theorem dX9_time_19 : decode cX9_time 19 = .ok (.aload_n 0, 1) := by decide +kernel
theorem dX9_time_20 : decode cX9_time 20 = .ok (.aload_n 0, 1) := by decide +kernel
theorem dX9_time_21 : decode cX9_time 21 = .ok (.getfield 58, 3) := by decide +kernel
theorem dX9_time_24 : decode cX9_time 24 = .ok (.invokevirtual 244, 3) := by decide +kernel
theorem dX9_time_27 : decode cX9_time 27 = .ok (.istore_n 3, 1) := by decide +kernel
theorem dX9_time_28 : decode cX9_time 28 = .ok (.aload_n 0, 1) := by decide +kernel
theorem dX9_time_29 : decode cX9_time 29 = .ok (.iconst 0, 1) := by decide +kernel
theorem dX9_time_30 : decode cX9_time 30 = .ok (.iload_n 2, 1) := by decide +kernel
theorem dX9_time_31 : decode cX9_time 31 = .ok (.iload_n 3, 1) := by decide +kernel
theorem dX9_time_32 : decode cX9_time 32 = .ok (.aload_n 0, 1) := by decide +kernel
theorem dX9_time_33 : decode cX9_time 33 = .ok (.bipush 8, 2) := by decide +kernel
theorem dX9_time_35 : decode cX9_time 35 = .ok (.invokevirtual 244, 3) := by decide +kernel
theorem dX9_time_38 : decode cX9_time 38 = .ok (.invokevirtual 226, 3) := by decide +kernel
theorem dX9_time_41 : decode cX9_time 41 = .ok (.goto 51, 3) := by decide +kernel
theorem dX9_time_44 : decode cX9_time 44 = .ok (.iload_n 1, 1) := by decide +kernel
theorem dX9_time_45 : decode cX9_time 45 = .ok (.iconst 1, 1) := by decide +kernel
theorem dX9_time_46 : decode cX9_time 46 = .ok (.if_icmp .ne 20, 3) := by decide +kernel
theorem dX9_time_49 : decode cX9_time 49 = .ok (.aload_n 0, 1) := by decide +kernel
theorem dX9_time_50 : decode cX9_time 50 = .ok (.iconst 0, 1) := by decide +kernel
theorem dX9_time_51 : decode cX9_time 51 = .ok (.iload_n 2, 1) := by decide +kernel
theorem dX9_time_52 : decode cX9_time 52 = .ok (.aload_n 0, 1) := by decide +kernel
theorem dX9_time_53 : decode cX9_time 53 = .ok (.aload_n 0, 1) := by decide +kernel
theorem dX9_time_54 : decode cX9_time 54 = .ok (.getfield 58, 3) := by decide +kernel
theorem dX9_time_57 : decode cX9_time 57 = .ok (.invokevirtual 244, 3) := by decide +kernel
theorem dX9_time_60 : decode cX9_time 60 = .ok (.invokevirtual 219, 3) := by decide +kernel
theorem dX9_time_63 : decode cX9_time 63 = .ok (.goto 29, 3) := by decide +kernel
theorem dX9_time_66 : decode cX9_time 66 = .ok (.iload_n 1, 1) := by decide +kernel
theorem dX9_time_67 : decode cX9_time 67 = .ok (.iconst 2, 1) := by decide +kernel
theorem dX9_time_68 : decode cX9_time 68 = .ok (.if_icmp .ne 19, 3) := by decide +kernel
theorem dX9_time_71 : decode cX9_time 71 = .ok (.aload_n 0, 1) := by decide +kernel
theorem dX9_time_72 : decode cX9_time 72 = .ok (.iload_n 2, 1) := by decide +kernel
theorem dX9_time_73 : decode cX9_time 73 = .ok (.aload_n 0, 1) := by decide +kernel
theorem dX9_time_74 : decode cX9_time 74 = .ok (.aload_n 0, 1) := by decide +kernel
theorem dX9_time_75 : decode cX9_time 75 = .ok (.getfield 51, 3) := by decide +kernel
theorem dX9_time_78 : decode cX9_time 78 = .ok (.invokevirtual 244, 3) := by decide +kernel
theorem dX9_time_81 : decode cX9_time 81 = .ok (.invokevirtual 231, 3) := by decide +kernel
theorem dX9_time_84 : decode cX9_time 84 = .ok (.goto 8, 3) := by decide +kernel
theorem dX9_time_87 : decode cX9_time 87 = .ok (.aload_n 0, 1) := by decide +kernel
theorem dX9_time_88 : decode cX9_time 88 = .ok (.invokevirtual 234, 3) := by decide +kernel
theorem dX9_time_91 : decode cX9_time 91 = .ok (.istore_n 3, 1) := by decide +kernel
theorem dX9_time_92 : decode cX9_time 92 = .ok (.return_, 1) := by decide +kernel
theorem dX9_drift_0 : decode cX9_drift 0 = .ok (.iload_n 1, 1) := by decide +kernel
theorem dX9_drift_1 : decode cX9_drift 1 = .ok (.iconst 1, 1) := by decide +kernel
theorem dX9_drift_2 : decode cX9_drift 2 = .ok (.bipush 20, 2) := by decide +kernel
theorem dX9_drift_4 : decode cX9_drift 4 = .ok (.invokestatic 54, 3) := by decide +kernel
theorem dX9_drift_7 : decode cX9_drift 7 = .ok (.ifCond .ne 6, 3) := by decide +kernel
theorem dX9_drift_10 : decode cX9_drift 10 = .ok (.ldc 61, 2) := by decide +kernel
theorem dX9_drift_12 : decode cX9_drift 12 = .ok (.ireturn, 1) := by decide +kernel
theorem dX9_drift_13 : decode cX9_drift 13 = .ok (.aload_n 0, 1) := by decide +kernel
theorem dX9_drift_14 : decode cX9_drift 14 = .ok (.getfield 58, 3) := by decide +kernel
theorem dX9_drift_17 : decode cX9_drift 17 = .ok (.ifCond .ne 6, 3) := by decide +kernel
theorem dX9_drift_20 : decode cX9_drift 20 = .ok (.ldc 230, 2) := by decide +kernel
theorem dX9_drift_22 : decode cX9_drift 22 = .ok (.ireturn, 1) := by decide +kernel
theorem dX9_drift_23 : decode cX9_drift 23 = .ok (.iconst 0, 1) := by decide +kernel
theorem dX9_drift_24 : decode cX9_drift 24 = .ok (.istore_n 2, 1) := by decide +kernel
theorem dX9_drift_25 : decode cX9_drift 25 = .ok (.iload_n 2, 1) := by decide +kernel
theorem dX9_drift_26 : decode cX9_drift 26 = .ok (.iload_n 1, 1) := by decide +kernel
theorem dX9_drift_27 : decode cX9_drift 27 = .ok (.if_icmp .ge 24, 3) := by decide +kernel
theorem dX9_drift_30 : decode cX9_drift 30 = .ok (.aload_n 0, 1) := by decide +kernel
theorem dX9_drift_31 : decode cX9_drift 31 = .ok (.getfield 51, 3) := by decide +kernel
theorem dX9_drift_34 : decode cX9_drift 34 = .ok (.ifCond .le 17, 3) := by decide +kernel
theorem dX9_drift_37 : decode cX9_drift 37 = .ok (.aload_n 0, 1) := by decide +kernel
theorem dX9_drift_38 : decode cX9_drift 38 = .ok (.invokevirtual 223, 3) := by decide +kernel
theorem dX9_drift_41 : decode cX9_drift 41 = .ok (.aload_n 0, 1) := by decide +kernel
theorem dX9_drift_42 : decode cX9_drift 42 = .ok (.invokevirtual 247, 3) := by decide +kernel
theorem dX9_drift_45 : decode cX9_drift 45 = .ok (.iinc 2 1, 3) := by decide +kernel
theorem dX9_drift_48 : decode cX9_drift 48 = .ok (.goto (-23), 3) := by decide +kernel
theorem dX9_drift_51 : decode cX9_drift 51 = .ok (.aload_n 0, 1) := by decide +kernel
theorem dX9_drift_52 : decode cX9_drift 52 = .ok (.iconst 0, 1) := by decide +kernel
theorem dX9_drift_53 : decode cX9_drift 53 = .ok (.invokevirtual 193, 3) := by decide +kernel
theorem dX9_drift_56 : decode cX9_drift 56 = .ok (.invokestatic 172, 3) := by decide +kernel
theorem dX9_drift_59 : decode cX9_drift 59 = .ok (.ireturn, 1) := by decide +kernel
theorem dX9_undo_0 : decode cX9_undo 0 = .ok (.iload_n 1, 1) := by decide +kernel
theorem dX9_undo_1 : decode cX9_undo 1 = .ok (.iconst 1, 1) := by decide +kernel
theorem dX9_undo_2 : decode cX9_undo 2 = .ok (.bipush 20, 2) := by decide +kernel
theorem dX9_undo_4 : decode cX9_undo 4 = .ok (.invokestatic 54, 3) := by decide +kernel
theorem dX9_undo_7 : decode cX9_undo 7 = .ok (.ifCond .ne 6, 3) := by decide +kernel
theorem dX9_undo_10 : decode cX9_undo 10 = .ok (.ldc 61, 2) := by decide +kernel
theorem dX9_undo_12 : decode cX9_undo 12 = .ok (.ireturn, 1) := by decide +kernel
theorem dX9_undo_13 : decode cX9_undo 13 = .ok (.iload_n 1, 1) := by decide +kernel
theorem dX9_undo_14 : decode cX9_undo 14 = .ok (.aload_n 0, 1) := by decide +kernel
theorem dX9_undo_15 : decode cX9_undo 15 = .ok (.getfield 119, 3) := by decide +kernel
theorem dX9_undo_18 : decode cX9_undo 18 = .ok (.if_icmp .le 6, 3) := by decide +kernel
theorem dX9_undo_21 : decode cX9_undo 21 = .ok (.ldc 230, 2) := by decide +kernel
theorem dX9_undo_23 : decode cX9_undo 23 = .ok (.ireturn, 1) := by decide +kernel
theorem dX9_undo_24 : decode cX9_undo 24 = .ok (.aload_n 0, 1) := by decide +kernel
theorem dX9_undo_25 : decode cX9_undo 25 = .ok (.getfield 7, 3) := by decide +kernel
theorem dX9_undo_28 : decode cX9_undo 28 = .ok (.bipush 66, 2) := by decide +kernel
theorem dX9_undo_30 : decode cX9_undo 30 = .ok (.iaload, 1) := by decide +kernel
theorem dX9_undo_31 : decode cX9_undo 31 = .ok (.istore_n 2, 1) := by decide +kernel
theorem dX9_undo_32 : decode cX9_undo 32 = .ok (.aload_n 0, 1) := by decide +kernel
theorem dX9_undo_33 : decode cX9_undo 33 = .ok (.dup, 1) := by decide +kernel
theorem dX9_undo_34 : decode cX9_undo 34 = .ok (.getfield 119, 3) := by decide +kernel
theorem dX9_undo_37 : decode cX9_undo 37 = .ok (.iload_n 1, 1) := by decide +kernel
theorem dX9_undo_38 : decode cX9_undo 38 = .ok (.isub, 1) := by decide +kernel
theorem dX9_undo_39 : decode cX9_undo 39 = .ok (.putfield 119, 3) := by decide +kernel
theorem dX9_undo_42 : decode cX9_undo 42 = .ok (.aload_n 0, 1) := by decide +kernel
theorem dX9_undo_43 : decode cX9_undo 43 = .ok (.bipush 67, 2) := by decide +kernel
theorem dX9_undo_45 : decode cX9_undo 45 = .ok (.bipush 67, 2) := by decide +kernel
theorem dX9_undo_47 : decode cX9_undo 47 = .ok (.aload_n 0, 1) := by decide +kernel
theorem dX9_undo_48 : decode cX9_undo 48 = .ok (.getfield 119, 3) := by decide +kernel
theorem dX9_undo_51 : decode cX9_undo 51 = .ok (.imul, 1) := by decide +kernel
theorem dX9_undo_52 : decode cX9_undo 52 = .ok (.iadd, 1) := by decide +kernel
theorem dX9_undo_53 : decode cX9_undo 53 = .ok (.iconst 0, 1) := by decide +kernel
theorem dX9_undo_54 : decode cX9_undo 54 = .ok (.invokevirtual 116, 3) := by decide +kernel
theorem dX9_undo_57 : decode cX9_undo 57 = .ok (.aload_n 0, 1) := by decide +kernel
theorem dX9_undo_58 : decode cX9_undo 58 = .ok (.getfield 7, 3) := by decide +kernel
theorem dX9_undo_61 : decode cX9_undo 61 = .ok (.bipush 66, 2) := by decide +kernel
theorem dX9_undo_63 : decode cX9_undo 63 = .ok (.iload_n 2, 1) := by decide +kernel
theorem dX9_undo_64 : decode cX9_undo 64 = .ok (.iastore, 1) := by decide +kernel
theorem dX9_undo_65 : decode cX9_undo 65 = .ok (.aload_n 0, 1) := by decide +kernel
theorem dX9_undo_66 : decode cX9_undo 66 = .ok (.getfield 119, 3) := by decide +kernel
theorem dX9_undo_69 : decode cX9_undo 69 = .ok (.ireturn, 1) := by decide +kernel
theorem dX9_otherwise_0 : decode cX9_otherwise 0 = .ok (.aload_n 0, 1) := by decide +kernel
theorem dX9_otherwise_1 : decode cX9_otherwise 1 = .ok (.iload_n 1, 1) := by decide +kernel
theorem dX9_otherwise_2 : decode cX9_otherwise 2 = .ok (.invokevirtual 202, 3) := by decide +kernel
theorem dX9_otherwise_5 : decode cX9_otherwise 5 = .ok (.ifCond .eq 11, 3) := by decide +kernel
theorem dX9_otherwise_8 : decode cX9_otherwise 8 = .ok (.aload_n 0, 1) := by decide +kernel
theorem dX9_otherwise_9 : decode cX9_otherwise 9 = .ok (.iload_n 2, 1) := by decide +kernel
theorem dX9_otherwise_10 : decode cX9_otherwise 10 = .ok (.invokevirtual 216, 3) := by decide +kernel
theorem dX9_otherwise_13 : decode cX9_otherwise 13 = .ok (.ifCond .ne 6, 3) := by decide +kernel
theorem dX9_otherwise_16 : decode cX9_otherwise 16 = .ok (.ldc 206, 2) := by decide +kernel
theorem dX9_otherwise_18 : decode cX9_otherwise 18 = .ok (.ireturn, 1) := by decide +kernel
theorem dX9_otherwise_19 : decode cX9_otherwise 19 = .ok (.aload_n 0, 1) := by decide +kernel
theorem dX9_otherwise_20 : decode cX9_otherwise 20 = .ok (.iconst 0, 1) := by decide +kernel
theorem dX9_otherwise_21 : decode cX9_otherwise 21 = .ok (.sipush 1541, 3) := by decide +kernel
theorem dX9_otherwise_24 : decode cX9_otherwise 24 = .ok (.invokevirtual 116, 3) := by decide +kernel
theorem dX9_otherwise_27 : decode cX9_otherwise 27 = .ok (.aload_n 0, 1) := by decide +kernel
theorem dX9_otherwise_28 : decode cX9_otherwise 28 = .ok (.getfield 7, 3) := by decide +kernel
theorem dX9_otherwise_31 : decode cX9_otherwise 31 = .ok (.sipush 1589, 3) := by decide +kernel
theorem dX9_otherwise_34 : decode cX9_otherwise 34 = .ok (.iload_n 1, 1) := by decide +kernel
theorem dX9_otherwise_35 : decode cX9_otherwise 35 = .ok (.iadd, 1) := by decide +kernel
theorem dX9_otherwise_36 : decode cX9_otherwise 36 = .ok (.iconst 1, 1) := by decide +kernel
theorem dX9_otherwise_37 : decode cX9_otherwise 37 = .ok (.iastore, 1) := by decide +kernel
theorem dX9_otherwise_38 : decode cX9_otherwise 38 = .ok (.aload_n 0, 1) := by decide +kernel
theorem dX9_otherwise_39 : decode cX9_otherwise 39 = .ok (.getfield 7, 3) := by decide +kernel
theorem dX9_otherwise_42 : decode cX9_otherwise 42 = .ok (.sipush 1541, 3) := by decide +kernel
theorem dX9_otherwise_45 : decode cX9_otherwise 45 = .ok (.bipush 8, 2) := by decide +kernel
theorem dX9_otherwise_47 : decode cX9_otherwise 47 = .ok (.iload_n 1, 1) := by decide +kernel
theorem dX9_otherwise_48 : decode cX9_otherwise 48 = .ok (.imul, 1) := by decide +kernel
theorem dX9_otherwise_49 : decode cX9_otherwise 49 = .ok (.iadd, 1) := by decide +kernel
theorem dX9_otherwise_50 : decode cX9_otherwise 50 = .ok (.iload_n 2, 1) := by decide +kernel
theorem dX9_otherwise_51 : decode cX9_otherwise 51 = .ok (.iastore, 1) := by decide +kernel
theorem dX9_otherwise_52 : decode cX9_otherwise 52 = .ok (.aload_n 0, 1) := by decide +kernel
theorem dX9_otherwise_53 : decode cX9_otherwise 53 = .ok (.sipush 1541, 3) := by decide +kernel
theorem dX9_otherwise_56 : decode cX9_otherwise 56 = .ok (.invokevirtual 187, 3) := by decide +kernel
theorem dX9_otherwise_59 : decode cX9_otherwise 59 = .ok (.aload_n 0, 1) := by decide +kernel
theorem dX9_otherwise_60 : decode cX9_otherwise 60 = .ok (.getfield 20, 3) := by decide +kernel
theorem dX9_otherwise_63 : decode cX9_otherwise 63 = .ok (.iload_n 1, 1) := by decide +kernel
theorem dX9_otherwise_64 : decode cX9_otherwise 64 = .ok (.iaload, 1) := by decide +kernel
theorem dX9_otherwise_65 : decode cX9_otherwise 65 = .ok (.ireturn, 1) := by decide +kernel
theorem dX9_nextLots_0 : decode cX9_nextLots 0 = .ok (.aload_n 0, 1) := by decide +kernel
theorem dX9_nextLots_1 : decode cX9_nextLots 1 = .ok (.getfield 51, 3) := by decide +kernel
theorem dX9_nextLots_4 : decode cX9_nextLots 4 = .ok (.iconst 2, 1) := by decide +kernel
theorem dX9_nextLots_5 : decode cX9_nextLots 5 = .ok (.isub, 1) := by decide +kernel
theorem dX9_nextLots_6 : decode cX9_nextLots 6 = .ok (.istore_n 1, 1) := by decide +kernel
theorem dX9_nextLots_7 : decode cX9_nextLots 7 = .ok (.iload_n 1, 1) := by decide +kernel
theorem dX9_nextLots_8 : decode cX9_nextLots 8 = .ok (.ifCond .lt 34, 3) := by decide +kernel
theorem dX9_nextLots_11 : decode cX9_nextLots 11 = .ok (.aload_n 0, 1) := by decide +kernel
theorem dX9_nextLots_12 : decode cX9_nextLots 12 = .ok (.getfield 7, 3) := by decide +kernel
theorem dX9_nextLots_15 : decode cX9_nextLots 15 = .ok (.sipush 1601, 3) := by decide +kernel
theorem dX9_nextLots_18 : decode cX9_nextLots 18 = .ok (.iload_n 1, 1) := by decide +kernel
theorem dX9_nextLots_19 : decode cX9_nextLots 19 = .ok (.iadd, 1) := by decide +kernel
theorem dX9_nextLots_20 : decode cX9_nextLots 20 = .ok (.iaload, 1) := by decide +kernel
theorem dX9_nextLots_21 : decode cX9_nextLots 21 = .ok (.aload_n 0, 1) := by decide +kernel
theorem dX9_nextLots_22 : decode cX9_nextLots 22 = .ok (.getfield 7, 3) := by decide +kernel
theorem dX9_nextLots_25 : decode cX9_nextLots 25 = .ok (.sipush 1601, 3) := by decide +kernel
theorem dX9_nextLots_28 : decode cX9_nextLots 28 = .ok (.iload_n 1, 1) := by decide +kernel
theorem dX9_nextLots_29 : decode cX9_nextLots 29 = .ok (.iadd, 1) := by decide +kernel
theorem dX9_nextLots_30 : decode cX9_nextLots 30 = .ok (.iconst 1, 1) := by decide +kernel
theorem dX9_nextLots_31 : decode cX9_nextLots 31 = .ok (.iadd, 1) := by decide +kernel
theorem dX9_nextLots_32 : decode cX9_nextLots 32 = .ok (.iaload, 1) := by decide +kernel
theorem dX9_nextLots_33 : decode cX9_nextLots 33 = .ok (.if_icmp .le 9, 3) := by decide +kernel
theorem dX9_nextLots_36 : decode cX9_nextLots 36 = .ok (.iinc 1 (-1), 3) := by decide +kernel
theorem dX9_nextLots_39 : decode cX9_nextLots 39 = .ok (.goto (-32), 3) := by decide +kernel
theorem dX9_nextLots_42 : decode cX9_nextLots 42 = .ok (.iload_n 1, 1) := by decide +kernel
theorem dX9_nextLots_43 : decode cX9_nextLots 43 = .ok (.ifCond .ge 5, 3) := by decide +kernel
theorem dX9_nextLots_46 : decode cX9_nextLots 46 = .ok (.iconst 0, 1) := by decide +kernel
theorem dX9_nextLots_47 : decode cX9_nextLots 47 = .ok (.ireturn, 1) := by decide +kernel
theorem dX9_nextLots_48 : decode cX9_nextLots 48 = .ok (.aload_n 0, 1) := by decide +kernel
theorem dX9_nextLots_49 : decode cX9_nextLots 49 = .ok (.getfield 51, 3) := by decide +kernel
theorem dX9_nextLots_52 : decode cX9_nextLots 52 = .ok (.iconst 1, 1) := by decide +kernel
theorem dX9_nextLots_53 : decode cX9_nextLots 53 = .ok (.isub, 1) := by decide +kernel
theorem dX9_nextLots_54 : decode cX9_nextLots 54 = .ok (.istore_n 2, 1) := by decide +kernel
theorem dX9_nextLots_55 : decode cX9_nextLots 55 = .ok (.aload_n 0, 1) := by decide +kernel
theorem dX9_nextLots_56 : decode cX9_nextLots 56 = .ok (.getfield 7, 3) := by decide +kernel
theorem dX9_nextLots_59 : decode cX9_nextLots 59 = .ok (.sipush 1601, 3) := by decide +kernel
theorem dX9_nextLots_62 : decode cX9_nextLots 62 = .ok (.iload_n 2, 1) := by decide +kernel
theorem dX9_nextLots_63 : decode cX9_nextLots 63 = .ok (.iadd, 1) := by decide +kernel
theorem dX9_nextLots_64 : decode cX9_nextLots 64 = .ok (.iaload, 1) := by decide +kernel
theorem dX9_nextLots_65 : decode cX9_nextLots 65 = .ok (.aload_n 0, 1) := by decide +kernel
theorem dX9_nextLots_66 : decode cX9_nextLots 66 = .ok (.getfield 7, 3) := by decide +kernel
theorem dX9_nextLots_69 : decode cX9_nextLots 69 = .ok (.sipush 1601, 3) := by decide +kernel
theorem dX9_nextLots_72 : decode cX9_nextLots 72 = .ok (.iload_n 1, 1) := by decide +kernel
theorem dX9_nextLots_73 : decode cX9_nextLots 73 = .ok (.iadd, 1) := by decide +kernel
theorem dX9_nextLots_74 : decode cX9_nextLots 74 = .ok (.iaload, 1) := by decide +kernel
theorem dX9_nextLots_75 : decode cX9_nextLots 75 = .ok (.if_icmp .ge 9, 3) := by decide +kernel
theorem dX9_nextLots_78 : decode cX9_nextLots 78 = .ok (.iinc 2 (-1), 3) := by decide +kernel
theorem dX9_nextLots_81 : decode cX9_nextLots 81 = .ok (.goto (-26), 3) := by decide +kernel
theorem dX9_nextLots_84 : decode cX9_nextLots 84 = .ok (.aload_n 0, 1) := by decide +kernel
theorem dX9_nextLots_85 : decode cX9_nextLots 85 = .ok (.iload_n 1, 1) := by decide +kernel
theorem dX9_nextLots_86 : decode cX9_nextLots 86 = .ok (.iload_n 2, 1) := by decide +kernel
theorem dX9_nextLots_87 : decode cX9_nextLots 87 = .ok (.invokevirtual 250, 3) := by decide +kernel
theorem dX9_nextLots_90 : decode cX9_nextLots 90 = .ok (.iload_n 1, 1) := by decide +kernel
theorem dX9_nextLots_91 : decode cX9_nextLots 91 = .ok (.iconst 1, 1) := by decide +kernel
theorem dX9_nextLots_92 : decode cX9_nextLots 92 = .ok (.iadd, 1) := by decide +kernel
theorem dX9_nextLots_93 : decode cX9_nextLots 93 = .ok (.istore_n 3, 1) := by decide +kernel
theorem dX9_nextLots_94 : decode cX9_nextLots 94 = .ok (.aload_n 0, 1) := by decide +kernel
theorem dX9_nextLots_95 : decode cX9_nextLots 95 = .ok (.getfield 51, 3) := by decide +kernel
theorem dX9_nextLots_98 : decode cX9_nextLots 98 = .ok (.iconst 1, 1) := by decide +kernel
theorem dX9_nextLots_99 : decode cX9_nextLots 99 = .ok (.isub, 1) := by decide +kernel
theorem dX9_nextLots_100 : decode cX9_nextLots 100 = .ok (.istore 4, 2) := by decide +kernel
theorem dX9_nextLots_102 : decode cX9_nextLots 102 = .ok (.iload_n 3, 1) := by decide +kernel
theorem dX9_nextLots_103 : decode cX9_nextLots 103 = .ok (.iload 4, 2) := by decide +kernel
theorem dX9_nextLots_105 : decode cX9_nextLots 105 = .ok (.if_icmp .ge 19, 3) := by decide +kernel
theorem dX9_nextLots_108 : decode cX9_nextLots 108 = .ok (.aload_n 0, 1) := by decide +kernel
theorem dX9_nextLots_109 : decode cX9_nextLots 109 = .ok (.iload_n 3, 1) := by decide +kernel
theorem dX9_nextLots_110 : decode cX9_nextLots 110 = .ok (.iload 4, 2) := by decide +kernel
theorem dX9_nextLots_112 : decode cX9_nextLots 112 = .ok (.invokevirtual 250, 3) := by decide +kernel
theorem dX9_nextLots_115 : decode cX9_nextLots 115 = .ok (.iinc 3 1, 3) := by decide +kernel
theorem dX9_nextLots_118 : decode cX9_nextLots 118 = .ok (.iinc 4 (-1), 3) := by decide +kernel
theorem dX9_nextLots_121 : decode cX9_nextLots 121 = .ok (.goto (-19), 3) := by decide +kernel
theorem dX9_nextLots_124 : decode cX9_nextLots 124 = .ok (.iconst 1, 1) := by decide +kernel
theorem dX9_nextLots_125 : decode cX9_nextLots 125 = .ok (.ireturn, 1) := by decide +kernel
theorem dX9_swap_0 : decode cX9_swap 0 = .ok (.aload_n 0, 1) := by decide +kernel
theorem dX9_swap_1 : decode cX9_swap 1 = .ok (.getfield 7, 3) := by decide +kernel
theorem dX9_swap_4 : decode cX9_swap 4 = .ok (.sipush 1601, 3) := by decide +kernel
theorem dX9_swap_7 : decode cX9_swap 7 = .ok (.iload_n 1, 1) := by decide +kernel
theorem dX9_swap_8 : decode cX9_swap 8 = .ok (.iadd, 1) := by decide +kernel
theorem dX9_swap_9 : decode cX9_swap 9 = .ok (.iaload, 1) := by decide +kernel
theorem dX9_swap_10 : decode cX9_swap 10 = .ok (.istore_n 3, 1) := by decide +kernel
theorem dX9_swap_11 : decode cX9_swap 11 = .ok (.aload_n 0, 1) := by decide +kernel
theorem dX9_swap_12 : decode cX9_swap 12 = .ok (.getfield 7, 3) := by decide +kernel
theorem dX9_swap_15 : decode cX9_swap 15 = .ok (.sipush 1601, 3) := by decide +kernel
theorem dX9_swap_18 : decode cX9_swap 18 = .ok (.iload_n 1, 1) := by decide +kernel
theorem dX9_swap_19 : decode cX9_swap 19 = .ok (.iadd, 1) := by decide +kernel
theorem dX9_swap_20 : decode cX9_swap 20 = .ok (.aload_n 0, 1) := by decide +kernel
theorem dX9_swap_21 : decode cX9_swap 21 = .ok (.getfield 7, 3) := by decide +kernel
theorem dX9_swap_24 : decode cX9_swap 24 = .ok (.sipush 1601, 3) := by decide +kernel
theorem dX9_swap_27 : decode cX9_swap 27 = .ok (.iload_n 2, 1) := by decide +kernel
theorem dX9_swap_28 : decode cX9_swap 28 = .ok (.iadd, 1) := by decide +kernel
theorem dX9_swap_29 : decode cX9_swap 29 = .ok (.iaload, 1) := by decide +kernel
theorem dX9_swap_30 : decode cX9_swap 30 = .ok (.iastore, 1) := by decide +kernel
theorem dX9_swap_31 : decode cX9_swap 31 = .ok (.aload_n 0, 1) := by decide +kernel
theorem dX9_swap_32 : decode cX9_swap 32 = .ok (.getfield 7, 3) := by decide +kernel
theorem dX9_swap_35 : decode cX9_swap 35 = .ok (.sipush 1601, 3) := by decide +kernel
theorem dX9_swap_38 : decode cX9_swap 38 = .ok (.iload_n 2, 1) := by decide +kernel
theorem dX9_swap_39 : decode cX9_swap 39 = .ok (.iadd, 1) := by decide +kernel
theorem dX9_swap_40 : decode cX9_swap 40 = .ok (.iload_n 3, 1) := by decide +kernel
theorem dX9_swap_41 : decode cX9_swap 41 = .ok (.iastore, 1) := by decide +kernel
theorem dX9_swap_42 : decode cX9_swap 42 = .ok (.return_, 1) := by decide +kernel
theorem dX9_odds_0 : decode cX9_odds 0 = .ok (.aload_n 0, 1) := by decide +kernel
theorem dX9_odds_1 : decode cX9_odds 1 = .ok (.iload_n 1, 1) := by decide +kernel
theorem dX9_odds_2 : decode cX9_odds 2 = .ok (.invokevirtual 202, 3) := by decide +kernel
theorem dX9_odds_5 : decode cX9_odds 5 = .ok (.ifCond .eq 16, 3) := by decide +kernel
theorem dX9_odds_8 : decode cX9_odds 8 = .ok (.iload_n 2, 1) := by decide +kernel
theorem dX9_odds_9 : decode cX9_odds 9 = .ok (.iconst (-1), 1) := by decide +kernel
theorem dX9_odds_10 : decode cX9_odds 10 = .ok (.if_icmp .eq 14, 3) := by decide +kernel
theorem dX9_odds_13 : decode cX9_odds 13 = .ok (.aload_n 0, 1) := by decide +kernel
theorem dX9_odds_14 : decode cX9_odds 14 = .ok (.iload_n 2, 1) := by decide +kernel
theorem dX9_odds_15 : decode cX9_odds 15 = .ok (.invokevirtual 216, 3) := by decide +kernel
theorem dX9_odds_18 : decode cX9_odds 18 = .ok (.ifCond .ne 6, 3) := by decide +kernel
theorem dX9_odds_21 : decode cX9_odds 21 = .ok (.ldc 206, 2) := by decide +kernel
theorem dX9_odds_23 : decode cX9_odds 23 = .ok (.ireturn, 1) := by decide +kernel
theorem dX9_odds_24 : decode cX9_odds 24 = .ok (.aload_n 0, 1) := by decide +kernel
theorem dX9_odds_25 : decode cX9_odds 25 = .ok (.iconst 0, 1) := by decide +kernel
theorem dX9_odds_26 : decode cX9_odds 26 = .ok (.sipush 1541, 3) := by decide +kernel
theorem dX9_odds_29 : decode cX9_odds 29 = .ok (.invokevirtual 116, 3) := by decide +kernel
theorem dX9_odds_32 : decode cX9_odds 32 = .ok (.aload_n 0, 1) := by decide +kernel
theorem dX9_odds_33 : decode cX9_odds 33 = .ok (.sipush 1541, 3) := by decide +kernel
theorem dX9_odds_36 : decode cX9_odds 36 = .ok (.invokevirtual 47, 3) := by decide +kernel
theorem dX9_odds_39 : decode cX9_odds 39 = .ok (.iconst 0, 1) := by decide +kernel
theorem dX9_odds_40 : decode cX9_odds 40 = .ok (.istore_n 3, 1) := by decide +kernel
theorem dX9_odds_41 : decode cX9_odds 41 = .ok (.iconst 1, 1) := by decide +kernel
theorem dX9_odds_42 : decode cX9_odds 42 = .ok (.istore 4, 2) := by decide +kernel
theorem dX9_odds_44 : decode cX9_odds 44 = .ok (.iload 4, 2) := by decide +kernel
theorem dX9_odds_46 : decode cX9_odds 46 = .ok (.ifCond .eq 37, 3) := by decide +kernel
theorem dX9_odds_49 : decode cX9_odds 49 = .ok (.aload_n 0, 1) := by decide +kernel
theorem dX9_odds_50 : decode cX9_odds 50 = .ok (.sipush 1541, 3) := by decide +kernel
theorem dX9_odds_53 : decode cX9_odds 53 = .ok (.invokevirtual 187, 3) := by decide +kernel
theorem dX9_odds_56 : decode cX9_odds 56 = .ok (.iload_n 3, 1) := by decide +kernel
theorem dX9_odds_57 : decode cX9_odds 57 = .ok (.aload_n 0, 1) := by decide +kernel
theorem dX9_odds_58 : decode cX9_odds 58 = .ok (.getfield 20, 3) := by decide +kernel
theorem dX9_odds_61 : decode cX9_odds 61 = .ok (.iload_n 1, 1) := by decide +kernel
theorem dX9_odds_62 : decode cX9_odds 62 = .ok (.iaload, 1) := by decide +kernel
theorem dX9_odds_63 : decode cX9_odds 63 = .ok (.iload_n 2, 1) := by decide +kernel
theorem dX9_odds_64 : decode cX9_odds 64 = .ok (.if_icmp .ne 7, 3) := by decide +kernel
theorem dX9_odds_67 : decode cX9_odds 67 = .ok (.iconst 1, 1) := by decide +kernel
theorem dX9_odds_68 : decode cX9_odds 68 = .ok (.goto 4, 3) := by decide +kernel
theorem dX9_odds_71 : decode cX9_odds 71 = .ok (.iconst 0, 1) := by decide +kernel
theorem dX9_odds_72 : decode cX9_odds 72 = .ok (.iadd, 1) := by decide +kernel
theorem dX9_odds_73 : decode cX9_odds 73 = .ok (.istore_n 3, 1) := by decide +kernel
theorem dX9_odds_74 : decode cX9_odds 74 = .ok (.aload_n 0, 1) := by decide +kernel
theorem dX9_odds_75 : decode cX9_odds 75 = .ok (.invokevirtual 253, 3) := by decide +kernel
theorem dX9_odds_78 : decode cX9_odds 78 = .ok (.istore 4, 2) := by decide +kernel
theorem dX9_odds_80 : decode cX9_odds 80 = .ok (.goto (-36), 3) := by decide +kernel
theorem dX9_odds_83 : decode cX9_odds 83 = .ok (.iload_n 3, 1) := by decide +kernel
theorem dX9_odds_84 : decode cX9_odds 84 = .ok (.ireturn, 1) := by decide +kernel
theorem dX9_quiet_0 : decode cX9_quiet 0 = .ok (.iload_n 1, 1) := by decide +kernel
theorem dX9_quiet_1 : decode cX9_quiet 1 = .ok (.iconst 0, 1) := by decide +kernel
theorem dX9_quiet_2 : decode cX9_quiet 2 = .ok (.bipush 60, 2) := by decide +kernel
theorem dX9_quiet_4 : decode cX9_quiet 4 = .ok (.invokestatic 54, 3) := by decide +kernel
theorem dX9_quiet_7 : decode cX9_quiet 7 = .ok (.ifCond .eq 13, 3) := by decide +kernel
theorem dX9_quiet_10 : decode cX9_quiet 10 = .ok (.iload_n 2, 1) := by decide +kernel
theorem dX9_quiet_11 : decode cX9_quiet 11 = .ok (.iconst 0, 1) := by decide +kernel
theorem dX9_quiet_12 : decode cX9_quiet 12 = .ok (.bipush 100, 2) := by decide +kernel
theorem dX9_quiet_14 : decode cX9_quiet 14 = .ok (.invokestatic 54, 3) := by decide +kernel
theorem dX9_quiet_17 : decode cX9_quiet 17 = .ok (.ifCond .ne 6, 3) := by decide +kernel
theorem dX9_quiet_20 : decode cX9_quiet 20 = .ok (.ldc 61, 2) := by decide +kernel
theorem dX9_quiet_22 : decode cX9_quiet 22 = .ok (.ireturn, 1) := by decide +kernel
theorem dX9_quiet_23 : decode cX9_quiet 23 = .ok (.ldc2_w 256, 3) := by decide +kernel
theorem dX9_quiet_26 : decode cX9_quiet 26 = .ok (.lstore_n 3, 1) := by decide +kernel
theorem dX9_quiet_27 : decode cX9_quiet 27 = .ok (.iconst 0, 1) := by decide +kernel
theorem dX9_quiet_28 : decode cX9_quiet 28 = .ok (.istore 5, 2) := by decide +kernel
theorem dX9_quiet_30 : decode cX9_quiet 30 = .ok (.iload 5, 2) := by decide +kernel
theorem dX9_quiet_32 : decode cX9_quiet 32 = .ok (.iload_n 1, 1) := by decide +kernel
theorem dX9_quiet_33 : decode cX9_quiet 33 = .ok (.if_icmp .ge 18, 3) := by decide +kernel
theorem dX9_quiet_36 : decode cX9_quiet 36 = .ok (.lload_n 3, 1) := by decide +kernel
theorem dX9_quiet_37 : decode cX9_quiet 37 = .ok (.iload_n 2, 1) := by decide +kernel
theorem dX9_quiet_38 : decode cX9_quiet 38 = .ok (.i2l, 1) := by decide +kernel
theorem dX9_quiet_39 : decode cX9_quiet 39 = .ok (.lmul, 1) := by decide +kernel
theorem dX9_quiet_40 : decode cX9_quiet 40 = .ok (.ldc2_w 258, 3) := by decide +kernel
theorem dX9_quiet_43 : decode cX9_quiet 43 = .ok (.ldiv, 1) := by decide +kernel
theorem dX9_quiet_44 : decode cX9_quiet 44 = .ok (.lstore_n 3, 1) := by decide +kernel
theorem dX9_quiet_45 : decode cX9_quiet 45 = .ok (.iinc 5 1, 3) := by decide +kernel
theorem dX9_quiet_48 : decode cX9_quiet 48 = .ok (.goto (-18), 3) := by decide +kernel
theorem dX9_quiet_51 : decode cX9_quiet 51 = .ok (.lload_n 3, 1) := by decide +kernel
theorem dX9_quiet_52 : decode cX9_quiet 52 = .ok (.l2i, 1) := by decide +kernel
theorem dX9_quiet_53 : decode cX9_quiet 53 = .ok (.ireturn, 1) := by decide +kernel
theorem dX9_isRoomOrNone_0 : decode cX9_isRoomOrNone 0 = .ok (.iload_n 1, 1) := by decide +kernel
theorem dX9_isRoomOrNone_1 : decode cX9_isRoomOrNone 1 = .ok (.iconst (-1), 1) := by decide +kernel
theorem dX9_isRoomOrNone_2 : decode cX9_isRoomOrNone 2 = .ok (.if_icmp .eq 11, 3) := by decide +kernel
theorem dX9_isRoomOrNone_5 : decode cX9_isRoomOrNone 5 = .ok (.aload_n 0, 1) := by decide +kernel
theorem dX9_isRoomOrNone_6 : decode cX9_isRoomOrNone 6 = .ok (.iload_n 1, 1) := by decide +kernel
theorem dX9_isRoomOrNone_7 : decode cX9_isRoomOrNone 7 = .ok (.invokevirtual 216, 3) := by decide +kernel
theorem dX9_isRoomOrNone_10 : decode cX9_isRoomOrNone 10 = .ok (.ifCond .eq 7, 3) := by decide +kernel
theorem dX9_isRoomOrNone_13 : decode cX9_isRoomOrNone 13 = .ok (.iconst 1, 1) := by decide +kernel
theorem dX9_isRoomOrNone_14 : decode cX9_isRoomOrNone 14 = .ok (.goto 4, 3) := by decide +kernel
theorem dX9_isRoomOrNone_17 : decode cX9_isRoomOrNone 17 = .ok (.iconst 0, 1) := by decide +kernel
theorem dX9_isRoomOrNone_18 : decode cX9_isRoomOrNone 18 = .ok (.ireturn, 1) := by decide +kernel
theorem dX9_see_0 : decode cX9_see 0 = .ok (.aload_n 0, 1) := by decide +kernel
theorem dX9_see_1 : decode cX9_see 1 = .ok (.iload_n 1, 1) := by decide +kernel
theorem dX9_see_2 : decode cX9_see 2 = .ok (.invokevirtual 260, 3) := by decide +kernel
theorem dX9_see_5 : decode cX9_see 5 = .ok (.ifCond .ne 6, 3) := by decide +kernel
theorem dX9_see_8 : decode cX9_see 8 = .ok (.ldc 206, 2) := by decide +kernel
theorem dX9_see_10 : decode cX9_see 10 = .ok (.ireturn, 1) := by decide +kernel
theorem dX9_see_11 : decode cX9_see 11 = .ok (.aload_n 0, 1) := by decide +kernel
theorem dX9_see_12 : decode cX9_see 12 = .ok (.getfield 125, 3) := by decide +kernel
theorem dX9_see_15 : decode cX9_see 15 = .ok (.bipush 6, 2) := by decide +kernel
theorem dX9_see_17 : decode cX9_see 17 = .ok (.if_icmp .ne 6, 3) := by decide +kernel
theorem dX9_see_20 : decode cX9_see 20 = .ok (.ldc 65, 2) := by decide +kernel
theorem dX9_see_22 : decode cX9_see 22 = .ok (.ireturn, 1) := by decide +kernel
theorem dX9_see_23 : decode cX9_see 23 = .ok (.aload_n 0, 1) := by decide +kernel
theorem dX9_see_24 : decode cX9_see 24 = .ok (.getfield 32, 3) := by decide +kernel
theorem dX9_see_27 : decode cX9_see 27 = .ok (.aload_n 0, 1) := by decide +kernel
theorem dX9_see_28 : decode cX9_see 28 = .ok (.getfield 125, 3) := by decide +kernel
theorem dX9_see_31 : decode cX9_see 31 = .ok (.iload_n 1, 1) := by decide +kernel
theorem dX9_see_32 : decode cX9_see 32 = .ok (.iastore, 1) := by decide +kernel
theorem dX9_see_33 : decode cX9_see 33 = .ok (.aload_n 0, 1) := by decide +kernel
theorem dX9_see_34 : decode cX9_see 34 = .ok (.getfield 35, 3) := by decide +kernel
theorem dX9_see_37 : decode cX9_see 37 = .ok (.aload_n 0, 1) := by decide +kernel
theorem dX9_see_38 : decode cX9_see 38 = .ok (.getfield 125, 3) := by decide +kernel
theorem dX9_see_41 : decode cX9_see 41 = .ok (.iload_n 2, 1) := by decide +kernel
theorem dX9_see_42 : decode cX9_see 42 = .ok (.ifCond .eq 7, 3) := by decide +kernel
theorem dX9_see_45 : decode cX9_see 45 = .ok (.iconst 1, 1) := by decide +kernel
theorem dX9_see_46 : decode cX9_see 46 = .ok (.goto 4, 3) := by decide +kernel
theorem dX9_see_49 : decode cX9_see 49 = .ok (.iconst 0, 1) := by decide +kernel
theorem dX9_see_50 : decode cX9_see 50 = .ok (.iastore, 1) := by decide +kernel
theorem dX9_see_51 : decode cX9_see 51 = .ok (.aload_n 0, 1) := by decide +kernel
theorem dX9_see_52 : decode cX9_see 52 = .ok (.dup, 1) := by decide +kernel
theorem dX9_see_53 : decode cX9_see 53 = .ok (.getfield 125, 3) := by decide +kernel
theorem dX9_see_56 : decode cX9_see 56 = .ok (.iconst 1, 1) := by decide +kernel
theorem dX9_see_57 : decode cX9_see 57 = .ok (.iadd, 1) := by decide +kernel
theorem dX9_see_58 : decode cX9_see 58 = .ok (.putfield 125, 3) := by decide +kernel
theorem dX9_see_61 : decode cX9_see 61 = .ok (.aload_n 0, 1) := by decide +kernel
theorem dX9_see_62 : decode cX9_see 62 = .ok (.getfield 125, 3) := by decide +kernel
theorem dX9_see_65 : decode cX9_see 65 = .ok (.ireturn, 1) := by decide +kernel
theorem dX9_couldBe_0 : decode cX9_couldBe 0 = .ok (.aload_n 0, 1) := by decide +kernel
theorem dX9_couldBe_1 : decode cX9_couldBe 1 = .ok (.iconst 0, 1) := by decide +kernel
theorem dX9_couldBe_2 : decode cX9_couldBe 2 = .ok (.invokevirtual 187, 3) := by decide +kernel
theorem dX9_couldBe_5 : decode cX9_couldBe 5 = .ok (.iconst 0, 1) := by decide +kernel
theorem dX9_couldBe_6 : decode cX9_couldBe 6 = .ok (.istore_n 1, 1) := by decide +kernel
theorem dX9_couldBe_7 : decode cX9_couldBe 7 = .ok (.iconst 0, 1) := by decide +kernel
theorem dX9_couldBe_8 : decode cX9_couldBe 8 = .ok (.istore_n 2, 1) := by decide +kernel
theorem dX9_couldBe_9 : decode cX9_couldBe 9 = .ok (.iload_n 2, 1) := by decide +kernel
theorem dX9_couldBe_10 : decode cX9_couldBe 10 = .ok (.aload_n 0, 1) := by decide +kernel
theorem dX9_couldBe_11 : decode cX9_couldBe 11 = .ok (.getfield 51, 3) := by decide +kernel
theorem dX9_couldBe_14 : decode cX9_couldBe 14 = .ok (.if_icmp .ge 93, 3) := by decide +kernel
theorem dX9_couldBe_17 : decode cX9_couldBe 17 = .ok (.iconst 1, 1) := by decide +kernel
theorem dX9_couldBe_18 : decode cX9_couldBe 18 = .ok (.istore_n 3, 1) := by decide +kernel
theorem dX9_couldBe_19 : decode cX9_couldBe 19 = .ok (.iconst 0, 1) := by decide +kernel
theorem dX9_couldBe_20 : decode cX9_couldBe 20 = .ok (.istore 4, 2) := by decide +kernel
theorem dX9_couldBe_22 : decode cX9_couldBe 22 = .ok (.iload 4, 2) := by decide +kernel
theorem dX9_couldBe_24 : decode cX9_couldBe 24 = .ok (.aload_n 0, 1) := by decide +kernel
theorem dX9_couldBe_25 : decode cX9_couldBe 25 = .ok (.getfield 125, 3) := by decide +kernel
theorem dX9_couldBe_28 : decode cX9_couldBe 28 = .ok (.if_icmp .ge 59, 3) := by decide +kernel
theorem dX9_couldBe_31 : decode cX9_couldBe 31 = .ok (.iload_n 3, 1) := by decide +kernel
theorem dX9_couldBe_32 : decode cX9_couldBe 32 = .ok (.ifCond .eq 47, 3) := by decide +kernel
theorem dX9_couldBe_35 : decode cX9_couldBe 35 = .ok (.aload_n 0, 1) := by decide +kernel
theorem dX9_couldBe_36 : decode cX9_couldBe 36 = .ok (.getfield 20, 3) := by decide +kernel
theorem dX9_couldBe_39 : decode cX9_couldBe 39 = .ok (.iload_n 2, 1) := by decide +kernel
theorem dX9_couldBe_40 : decode cX9_couldBe 40 = .ok (.iaload, 1) := by decide +kernel
theorem dX9_couldBe_41 : decode cX9_couldBe 41 = .ok (.aload_n 0, 1) := by decide +kernel
theorem dX9_couldBe_42 : decode cX9_couldBe 42 = .ok (.getfield 32, 3) := by decide +kernel
theorem dX9_couldBe_45 : decode cX9_couldBe 45 = .ok (.iload 4, 2) := by decide +kernel
theorem dX9_couldBe_47 : decode cX9_couldBe 47 = .ok (.iaload, 1) := by decide +kernel
theorem dX9_couldBe_48 : decode cX9_couldBe 48 = .ok (.if_icmp .ne 7, 3) := by decide +kernel
theorem dX9_couldBe_51 : decode cX9_couldBe 51 = .ok (.iconst 1, 1) := by decide +kernel
theorem dX9_couldBe_52 : decode cX9_couldBe 52 = .ok (.goto 4, 3) := by decide +kernel
theorem dX9_couldBe_55 : decode cX9_couldBe 55 = .ok (.iconst 0, 1) := by decide +kernel
theorem dX9_couldBe_56 : decode cX9_couldBe 56 = .ok (.aload_n 0, 1) := by decide +kernel
theorem dX9_couldBe_57 : decode cX9_couldBe 57 = .ok (.getfield 35, 3) := by decide +kernel
theorem dX9_couldBe_60 : decode cX9_couldBe 60 = .ok (.iload 4, 2) := by decide +kernel
theorem dX9_couldBe_62 : decode cX9_couldBe 62 = .ok (.iaload, 1) := by decide +kernel
theorem dX9_couldBe_63 : decode cX9_couldBe 63 = .ok (.iconst 1, 1) := by decide +kernel
theorem dX9_couldBe_64 : decode cX9_couldBe 64 = .ok (.if_icmp .ne 7, 3) := by decide +kernel
theorem dX9_couldBe_67 : decode cX9_couldBe 67 = .ok (.iconst 1, 1) := by decide +kernel
theorem dX9_couldBe_68 : decode cX9_couldBe 68 = .ok (.goto 4, 3) := by decide +kernel
theorem dX9_couldBe_71 : decode cX9_couldBe 71 = .ok (.iconst 0, 1) := by decide +kernel
theorem dX9_couldBe_72 : decode cX9_couldBe 72 = .ok (.if_icmp .ne 7, 3) := by decide +kernel
theorem dX9_couldBe_75 : decode cX9_couldBe 75 = .ok (.iconst 1, 1) := by decide +kernel
theorem dX9_couldBe_76 : decode cX9_couldBe 76 = .ok (.goto 4, 3) := by decide +kernel
theorem dX9_couldBe_79 : decode cX9_couldBe 79 = .ok (.iconst 0, 1) := by decide +kernel
theorem dX9_couldBe_80 : decode cX9_couldBe 80 = .ok (.istore_n 3, 1) := by decide +kernel
theorem dX9_couldBe_81 : decode cX9_couldBe 81 = .ok (.iinc 4 1, 3) := by decide +kernel
theorem dX9_couldBe_84 : decode cX9_couldBe 84 = .ok (.goto (-62), 3) := by decide +kernel
theorem dX9_couldBe_87 : decode cX9_couldBe 87 = .ok (.iload_n 1, 1) := by decide +kernel
theorem dX9_couldBe_88 : decode cX9_couldBe 88 = .ok (.iload_n 3, 1) := by decide +kernel
theorem dX9_couldBe_89 : decode cX9_couldBe 89 = .ok (.ifCond .eq 9, 3) := by decide +kernel
theorem dX9_couldBe_92 : decode cX9_couldBe 92 = .ok (.iconst 1, 1) := by decide +kernel
theorem dX9_couldBe_93 : decode cX9_couldBe 93 = .ok (.iload_n 2, 1) := by decide +kernel
theorem dX9_couldBe_94 : decode cX9_couldBe 94 = .ok (.ishl, 1) := by decide +kernel
theorem dX9_couldBe_95 : decode cX9_couldBe 95 = .ok (.goto 4, 3) := by decide +kernel
theorem dX9_couldBe_98 : decode cX9_couldBe 98 = .ok (.iconst 0, 1) := by decide +kernel
theorem dX9_couldBe_99 : decode cX9_couldBe 99 = .ok (.ior, 1) := by decide +kernel
theorem dX9_couldBe_100 : decode cX9_couldBe 100 = .ok (.istore_n 1, 1) := by decide +kernel
theorem dX9_couldBe_101 : decode cX9_couldBe 101 = .ok (.iinc 2 1, 3) := by decide +kernel
theorem dX9_couldBe_104 : decode cX9_couldBe 104 = .ok (.goto (-95), 3) := by decide +kernel
theorem dX9_couldBe_107 : decode cX9_couldBe 107 = .ok (.iload_n 1, 1) := by decide +kernel
theorem dX9_couldBe_108 : decode cX9_couldBe 108 = .ok (.ireturn, 1) := by decide +kernel
theorem dX9_ask_0 : decode cX9_ask 0 = .ok (.aload_n 0, 1) := by decide +kernel
theorem dX9_ask_1 : decode cX9_ask 1 = .ok (.invokevirtual 263, 3) := by decide +kernel
theorem dX9_ask_4 : decode cX9_ask 4 = .ok (.istore_n 1, 1) := by decide +kernel
theorem dX9_ask_5 : decode cX9_ask 5 = .ok (.iconst (-1), 1) := by decide +kernel
theorem dX9_ask_6 : decode cX9_ask 6 = .ok (.istore_n 2, 1) := by decide +kernel
theorem dX9_ask_7 : decode cX9_ask 7 = .ok (.iload_n 1, 1) := by decide +kernel
theorem dX9_ask_8 : decode cX9_ask 8 = .ok (.invokestatic 172, 3) := by decide +kernel
theorem dX9_ask_11 : decode cX9_ask 11 = .ok (.istore_n 3, 1) := by decide +kernel
theorem dX9_ask_12 : decode cX9_ask 12 = .ok (.iconst 0, 1) := by decide +kernel
theorem dX9_ask_13 : decode cX9_ask 13 = .ok (.istore 4, 2) := by decide +kernel
theorem dX9_ask_15 : decode cX9_ask 15 = .ok (.iload 4, 2) := by decide +kernel
theorem dX9_ask_17 : decode cX9_ask 17 = .ok (.aload_n 0, 1) := by decide +kernel
theorem dX9_ask_18 : decode cX9_ask 18 = .ok (.getfield 58, 3) := by decide +kernel
theorem dX9_ask_21 : decode cX9_ask 21 = .ok (.if_icmp .ge 113, 3) := by decide +kernel
theorem dX9_ask_24 : decode cX9_ask 24 = .ok (.iconst 0, 1) := by decide +kernel
theorem dX9_ask_25 : decode cX9_ask 25 = .ok (.istore 5, 2) := by decide +kernel
theorem dX9_ask_27 : decode cX9_ask 27 = .ok (.iconst 0, 1) := by decide +kernel
theorem dX9_ask_28 : decode cX9_ask 28 = .ok (.istore 6, 2) := by decide +kernel
theorem dX9_ask_30 : decode cX9_ask 30 = .ok (.iload 6, 2) := by decide +kernel
theorem dX9_ask_32 : decode cX9_ask 32 = .ok (.aload_n 0, 1) := by decide +kernel
theorem dX9_ask_33 : decode cX9_ask 33 = .ok (.getfield 51, 3) := by decide +kernel
theorem dX9_ask_36 : decode cX9_ask 36 = .ok (.if_icmp .ge 40, 3) := by decide +kernel
theorem dX9_ask_39 : decode cX9_ask 39 = .ok (.iload 5, 2) := by decide +kernel
theorem dX9_ask_41 : decode cX9_ask 41 = .ok (.iload_n 1, 1) := by decide +kernel
theorem dX9_ask_42 : decode cX9_ask 42 = .ok (.iload 6, 2) := by decide +kernel
theorem dX9_ask_44 : decode cX9_ask 44 = .ok (.invokestatic 134, 3) := by decide +kernel
theorem dX9_ask_47 : decode cX9_ask 47 = .ok (.ifCond .eq 19, 3) := by decide +kernel
theorem dX9_ask_50 : decode cX9_ask 50 = .ok (.aload_n 0, 1) := by decide +kernel
theorem dX9_ask_51 : decode cX9_ask 51 = .ok (.getfield 20, 3) := by decide +kernel
theorem dX9_ask_54 : decode cX9_ask 54 = .ok (.iload 6, 2) := by decide +kernel
theorem dX9_ask_56 : decode cX9_ask 56 = .ok (.iaload, 1) := by decide +kernel
theorem dX9_ask_57 : decode cX9_ask 57 = .ok (.iload 4, 2) := by decide +kernel
theorem dX9_ask_59 : decode cX9_ask 59 = .ok (.if_icmp .ne 7, 3) := by decide +kernel
theorem dX9_ask_62 : decode cX9_ask 62 = .ok (.iconst 1, 1) := by decide +kernel
theorem dX9_ask_63 : decode cX9_ask 63 = .ok (.goto 4, 3) := by decide +kernel
theorem dX9_ask_66 : decode cX9_ask 66 = .ok (.iconst 0, 1) := by decide +kernel
theorem dX9_ask_67 : decode cX9_ask 67 = .ok (.iadd, 1) := by decide +kernel
theorem dX9_ask_68 : decode cX9_ask 68 = .ok (.istore 5, 2) := by decide +kernel
theorem dX9_ask_70 : decode cX9_ask 70 = .ok (.iinc 6 1, 3) := by decide +kernel
theorem dX9_ask_73 : decode cX9_ask 73 = .ok (.goto (-43), 3) := by decide +kernel
theorem dX9_ask_76 : decode cX9_ask 76 = .ok (.iload 5, 2) := by decide +kernel
theorem dX9_ask_78 : decode cX9_ask 78 = .ok (.iload_n 1, 1) := by decide +kernel
theorem dX9_ask_79 : decode cX9_ask 79 = .ok (.invokestatic 172, 3) := by decide +kernel
theorem dX9_ask_82 : decode cX9_ask 82 = .ok (.iload 5, 2) := by decide +kernel
theorem dX9_ask_84 : decode cX9_ask 84 = .ok (.isub, 1) := by decide +kernel
theorem dX9_ask_85 : decode cX9_ask 85 = .ok (.if_icmp .le 8, 3) := by decide +kernel
theorem dX9_ask_88 : decode cX9_ask 88 = .ok (.iload 5, 2) := by decide +kernel
theorem dX9_ask_90 : decode cX9_ask 90 = .ok (.goto 10, 3) := by decide +kernel
theorem dX9_ask_93 : decode cX9_ask 93 = .ok (.iload_n 1, 1) := by decide +kernel
theorem dX9_ask_94 : decode cX9_ask 94 = .ok (.invokestatic 172, 3) := by decide +kernel
theorem dX9_ask_97 : decode cX9_ask 97 = .ok (.iload 5, 2) := by decide +kernel
theorem dX9_ask_99 : decode cX9_ask 99 = .ok (.isub, 1) := by decide +kernel
theorem dX9_ask_100 : decode cX9_ask 100 = .ok (.istore 6, 2) := by decide +kernel
theorem dX9_ask_102 : decode cX9_ask 102 = .ok (.iload 6, 2) := by decide +kernel
theorem dX9_ask_104 : decode cX9_ask 104 = .ok (.iload_n 3, 1) := by decide +kernel
theorem dX9_ask_105 : decode cX9_ask 105 = .ok (.if_icmp .ge 8, 3) := by decide +kernel
theorem dX9_ask_108 : decode cX9_ask 108 = .ok (.iload 4, 2) := by decide +kernel
theorem dX9_ask_110 : decode cX9_ask 110 = .ok (.goto 4, 3) := by decide +kernel
theorem dX9_ask_113 : decode cX9_ask 113 = .ok (.iload_n 2, 1) := by decide +kernel
theorem dX9_ask_114 : decode cX9_ask 114 = .ok (.istore_n 2, 1) := by decide +kernel
theorem dX9_ask_115 : decode cX9_ask 115 = .ok (.iload 6, 2) := by decide +kernel
theorem dX9_ask_117 : decode cX9_ask 117 = .ok (.iload_n 3, 1) := by decide +kernel
theorem dX9_ask_118 : decode cX9_ask 118 = .ok (.if_icmp .ge 8, 3) := by decide +kernel
theorem dX9_ask_121 : decode cX9_ask 121 = .ok (.iload 6, 2) := by decide +kernel
theorem dX9_ask_123 : decode cX9_ask 123 = .ok (.goto 4, 3) := by decide +kernel
theorem dX9_ask_126 : decode cX9_ask 126 = .ok (.iload_n 3, 1) := by decide +kernel
theorem dX9_ask_127 : decode cX9_ask 127 = .ok (.istore_n 3, 1) := by decide +kernel
theorem dX9_ask_128 : decode cX9_ask 128 = .ok (.iinc 4 1, 3) := by decide +kernel
theorem dX9_ask_131 : decode cX9_ask 131 = .ok (.goto (-116), 3) := by decide +kernel
theorem dX9_ask_134 : decode cX9_ask 134 = .ok (.iload_n 2, 1) := by decide +kernel
theorem dX9_ask_135 : decode cX9_ask 135 = .ok (.ireturn, 1) := by decide +kernel
theorem dX9_write_0 : decode cX9_write 0 = .ok (.aload_n 0, 1) := by decide +kernel
theorem dX9_write_1 : decode cX9_write 1 = .ok (.iload_n 1, 1) := by decide +kernel
theorem dX9_write_2 : decode cX9_write 2 = .ok (.invokevirtual 202, 3) := by decide +kernel
theorem dX9_write_5 : decode cX9_write 5 = .ok (.ifCond .eq 11, 3) := by decide +kernel
theorem dX9_write_8 : decode cX9_write 8 = .ok (.aload_n 0, 1) := by decide +kernel
theorem dX9_write_9 : decode cX9_write 9 = .ok (.iload_n 2, 1) := by decide +kernel
theorem dX9_write_10 : decode cX9_write 10 = .ok (.invokevirtual 260, 3) := by decide +kernel
theorem dX9_write_13 : decode cX9_write 13 = .ok (.ifCond .ne 6, 3) := by decide +kernel
theorem dX9_write_16 : decode cX9_write 16 = .ok (.ldc 206, 2) := by decide +kernel
theorem dX9_write_18 : decode cX9_write 18 = .ok (.ireturn, 1) := by decide +kernel
theorem dX9_write_19 : decode cX9_write 19 = .ok (.aload_n 0, 1) := by decide +kernel
theorem dX9_write_20 : decode cX9_write 20 = .ok (.getfield 128, 3) := by decide +kernel
theorem dX9_write_23 : decode cX9_write 23 = .ok (.bipush 20, 2) := by decide +kernel
theorem dX9_write_25 : decode cX9_write 25 = .ok (.if_icmp .ne 6, 3) := by decide +kernel
theorem dX9_write_28 : decode cX9_write 28 = .ok (.ldc 65, 2) := by decide +kernel
theorem dX9_write_30 : decode cX9_write 30 = .ok (.ireturn, 1) := by decide +kernel
theorem dX9_write_31 : decode cX9_write 31 = .ok (.aload_n 0, 1) := by decide +kernel
theorem dX9_write_32 : decode cX9_write 32 = .ok (.getfield 38, 3) := by decide +kernel
theorem dX9_write_35 : decode cX9_write 35 = .ok (.aload_n 0, 1) := by decide +kernel
theorem dX9_write_36 : decode cX9_write 36 = .ok (.getfield 128, 3) := by decide +kernel
theorem dX9_write_39 : decode cX9_write 39 = .ok (.iload_n 1, 1) := by decide +kernel
theorem dX9_write_40 : decode cX9_write 40 = .ok (.iastore, 1) := by decide +kernel
theorem dX9_write_41 : decode cX9_write 41 = .ok (.aload_n 0, 1) := by decide +kernel
theorem dX9_write_42 : decode cX9_write 42 = .ok (.getfield 41, 3) := by decide +kernel
theorem dX9_write_45 : decode cX9_write 45 = .ok (.aload_n 0, 1) := by decide +kernel
theorem dX9_write_46 : decode cX9_write 46 = .ok (.getfield 128, 3) := by decide +kernel
theorem dX9_write_49 : decode cX9_write 49 = .ok (.iload_n 2, 1) := by decide +kernel
theorem dX9_write_50 : decode cX9_write 50 = .ok (.iastore, 1) := by decide +kernel
theorem dX9_write_51 : decode cX9_write 51 = .ok (.aload_n 0, 1) := by decide +kernel
theorem dX9_write_52 : decode cX9_write 52 = .ok (.dup, 1) := by decide +kernel
theorem dX9_write_53 : decode cX9_write 53 = .ok (.getfield 128, 3) := by decide +kernel
theorem dX9_write_56 : decode cX9_write 56 = .ok (.iconst 1, 1) := by decide +kernel
theorem dX9_write_57 : decode cX9_write 57 = .ok (.iadd, 1) := by decide +kernel
theorem dX9_write_58 : decode cX9_write 58 = .ok (.putfield 128, 3) := by decide +kernel
theorem dX9_write_61 : decode cX9_write 61 = .ok (.aload_n 0, 1) := by decide +kernel
theorem dX9_write_62 : decode cX9_write 62 = .ok (.getfield 128, 3) := by decide +kernel
theorem dX9_write_65 : decode cX9_write 65 = .ok (.ireturn, 1) := by decide +kernel
theorem dX9_judge_0 : decode cX9_judge 0 = .ok (.aload_n 0, 1) := by decide +kernel
theorem dX9_judge_1 : decode cX9_judge 1 = .ok (.iconst 0, 1) := by decide +kernel
