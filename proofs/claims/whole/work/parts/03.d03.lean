theorem dX8_person_133 : decode cX8_person 133 = .ok (.invokevirtual 165, 3) := by decide +kernel
theorem dX8_person_136 : decode cX8_person 136 = .ok (.ireturn, 1) := by decide +kernel
theorem dX8_person_137 : decode cX8_person 137 = .ok (.ldc 68, 2) := by decide +kernel
theorem dX8_person_139 : decode cX8_person 139 = .ok (.ireturn, 1) := by decide +kernel
theorem dX8_likes_0 : decode cX8_likes 0 = .ok (.aload_n 0, 1) := by decide +kernel
theorem dX8_likes_1 : decode cX8_likes 1 = .ok (.getfield 19, 3) := by decide +kernel
theorem dX8_likes_4 : decode cX8_likes 4 = .ok (.iload_n 1, 1) := by decide +kernel
theorem dX8_likes_5 : decode cX8_likes 5 = .ok (.invokevirtual 139, 3) := by decide +kernel
theorem dX8_likes_8 : decode cX8_likes 8 = .ok (.ifCond .ne 6, 3) := by decide +kernel
theorem dX8_likes_11 : decode cX8_likes 11 = .ok (.ldc 143, 2) := by decide +kernel
theorem dX8_likes_13 : decode cX8_likes 13 = .ok (.ireturn, 1) := by decide +kernel
theorem dX8_likes_14 : decode cX8_likes 14 = .ok (.aload_n 0, 1) := by decide +kernel
theorem dX8_likes_15 : decode cX8_likes 15 = .ok (.getfield 19, 3) := by decide +kernel
theorem dX8_likes_18 : decode cX8_likes 18 = .ok (.iload_n 1, 1) := by decide +kernel
theorem dX8_likes_19 : decode cX8_likes 19 = .ok (.iload_n 2, 1) := by decide +kernel
theorem dX8_likes_20 : decode cX8_likes 20 = .ok (.invokevirtual 169, 3) := by decide +kernel
theorem dX8_likes_23 : decode cX8_likes 23 = .ok (.ireturn, 1) := by decide +kernel
theorem dX8_room_0 : decode cX8_room 0 = .ok (.aload_n 0, 1) := by decide +kernel
theorem dX8_room_1 : decode cX8_room 1 = .ok (.getfield 19, 3) := by decide +kernel
theorem dX8_room_4 : decode cX8_room 4 = .ok (.iload_n 1, 1) := by decide +kernel
theorem dX8_room_5 : decode cX8_room 5 = .ok (.invokevirtual 172, 3) := by decide +kernel
theorem dX8_room_8 : decode cX8_room 8 = .ok (.ifCond .ne 6, 3) := by decide +kernel
theorem dX8_room_11 : decode cX8_room 11 = .ok (.ldc 143, 2) := by decide +kernel
theorem dX8_room_13 : decode cX8_room 13 = .ok (.ireturn, 1) := by decide +kernel
theorem dX8_room_14 : decode cX8_room 14 = .ok (.iload_n 2, 1) := by decide +kernel
theorem dX8_room_15 : decode cX8_room 15 = .ok (.lookupswitch 47 #[(0, 25), (1, 34)], 25) := by decide +kernel
theorem dX8_room_40 : decode cX8_room 40 = .ok (.aload_n 0, 1) := by decide +kernel
theorem dX8_room_41 : decode cX8_room 41 = .ok (.getfield 19, 3) := by decide +kernel
theorem dX8_room_44 : decode cX8_room 44 = .ok (.iload_n 1, 1) := by decide +kernel
theorem dX8_room_45 : decode cX8_room 45 = .ok (.invokevirtual 175, 3) := by decide +kernel
theorem dX8_room_48 : decode cX8_room 48 = .ok (.ireturn, 1) := by decide +kernel
theorem dX8_room_49 : decode cX8_room 49 = .ok (.aload_n 0, 1) := by decide +kernel
theorem dX8_room_50 : decode cX8_room 50 = .ok (.invokevirtual 103, 3) := by decide +kernel
theorem dX8_room_53 : decode cX8_room 53 = .ok (.aload_n 0, 1) := by decide +kernel
theorem dX8_room_54 : decode cX8_room 54 = .ok (.getfield 19, 3) := by decide +kernel
theorem dX8_room_57 : decode cX8_room 57 = .ok (.iload_n 1, 1) := by decide +kernel
theorem dX8_room_58 : decode cX8_room 58 = .ok (.invokevirtual 178, 3) := by decide +kernel
theorem dX8_room_61 : decode cX8_room 61 = .ok (.ireturn, 1) := by decide +kernel
theorem dX8_room_62 : decode cX8_room 62 = .ok (.ldc 68, 2) := by decide +kernel
theorem dX8_room_64 : decode cX8_room 64 = .ok (.ireturn, 1) := by decide +kernel
theorem dX8_like_0 : decode cX8_like 0 = .ok (.aload_n 0, 1) := by decide +kernel
theorem dX8_like_1 : decode cX8_like 1 = .ok (.getfield 19, 3) := by decide +kernel
theorem dX8_like_4 : decode cX8_like 4 = .ok (.iload_n 1, 1) := by decide +kernel
theorem dX8_like_5 : decode cX8_like 5 = .ok (.invokevirtual 139, 3) := by decide +kernel
theorem dX8_like_8 : decode cX8_like 8 = .ok (.ifCond .eq 14, 3) := by decide +kernel
theorem dX8_like_11 : decode cX8_like 11 = .ok (.aload_n 0, 1) := by decide +kernel
theorem dX8_like_12 : decode cX8_like 12 = .ok (.getfield 19, 3) := by decide +kernel
theorem dX8_like_15 : decode cX8_like 15 = .ok (.iload_n 2, 1) := by decide +kernel
theorem dX8_like_16 : decode cX8_like 16 = .ok (.invokevirtual 172, 3) := by decide +kernel
theorem dX8_like_19 : decode cX8_like 19 = .ok (.ifCond .ne 6, 3) := by decide +kernel
theorem dX8_like_22 : decode cX8_like 22 = .ok (.ldc 143, 2) := by decide +kernel
theorem dX8_like_24 : decode cX8_like 24 = .ok (.ireturn, 1) := by decide +kernel
theorem dX8_like_25 : decode cX8_like 25 = .ok (.iload_n 3, 1) := by decide +kernel
theorem dX8_like_26 : decode cX8_like 26 = .ok (.ifCond .lt 9, 3) := by decide +kernel
theorem dX8_like_29 : decode cX8_like 29 = .ok (.iload_n 3, 1) := by decide +kernel
theorem dX8_like_30 : decode cX8_like 30 = .ok (.bipush 8, 2) := by decide +kernel
theorem dX8_like_32 : decode cX8_like 32 = .ok (.if_icmp .lt 6, 3) := by decide +kernel
theorem dX8_like_35 : decode cX8_like 35 = .ok (.ldc 68, 2) := by decide +kernel
theorem dX8_like_37 : decode cX8_like 37 = .ok (.ireturn, 1) := by decide +kernel
theorem dX8_like_38 : decode cX8_like 38 = .ok (.aload_n 0, 1) := by decide +kernel
theorem dX8_like_39 : decode cX8_like 39 = .ok (.getfield 43, 3) := by decide +kernel
theorem dX8_like_42 : decode cX8_like 42 = .ok (.aload_n 0, 1) := by decide +kernel
theorem dX8_like_43 : decode cX8_like 43 = .ok (.getfield 19, 3) := by decide +kernel
theorem dX8_like_46 : decode cX8_like 46 = .ok (.invokevirtual 182, 3) := by decide +kernel
theorem dX8_like_49 : decode cX8_like 49 = .ok (.aload_n 0, 1) := by decide +kernel
theorem dX8_like_50 : decode cX8_like 50 = .ok (.getfield 19, 3) := by decide +kernel
theorem dX8_like_53 : decode cX8_like 53 = .ok (.iload_n 1, 1) := by decide +kernel
theorem dX8_like_54 : decode cX8_like 54 = .ok (.iload_n 2, 1) := by decide +kernel
theorem dX8_like_55 : decode cX8_like 55 = .ok (.iload_n 3, 1) := by decide +kernel
theorem dX8_like_56 : decode cX8_like 56 = .ok (.invokevirtual 185, 3) := by decide +kernel
theorem dX8_like_59 : decode cX8_like 59 = .ok (.aload_n 0, 1) := by decide +kernel
theorem dX8_like_60 : decode cX8_like 60 = .ok (.getfield 19, 3) := by decide +kernel
theorem dX8_like_63 : decode cX8_like 63 = .ok (.iload_n 1, 1) := by decide +kernel
theorem dX8_like_64 : decode cX8_like 64 = .ok (.invokevirtual 147, 3) := by decide +kernel
theorem dX8_like_67 : decode cX8_like 67 = .ok (.ireturn, 1) := by decide +kernel
theorem dX8_strike_0 : decode cX8_strike 0 = .ok (.aload_n 0, 1) := by decide +kernel
theorem dX8_strike_1 : decode cX8_strike 1 = .ok (.getfield 19, 3) := by decide +kernel
theorem dX8_strike_4 : decode cX8_strike 4 = .ok (.iload_n 1, 1) := by decide +kernel
theorem dX8_strike_5 : decode cX8_strike 5 = .ok (.invokevirtual 139, 3) := by decide +kernel
theorem dX8_strike_8 : decode cX8_strike 8 = .ok (.ifCond .eq 14, 3) := by decide +kernel
theorem dX8_strike_11 : decode cX8_strike 11 = .ok (.aload_n 0, 1) := by decide +kernel
theorem dX8_strike_12 : decode cX8_strike 12 = .ok (.getfield 19, 3) := by decide +kernel
theorem dX8_strike_15 : decode cX8_strike 15 = .ok (.iload_n 2, 1) := by decide +kernel
theorem dX8_strike_16 : decode cX8_strike 16 = .ok (.invokevirtual 172, 3) := by decide +kernel
theorem dX8_strike_19 : decode cX8_strike 19 = .ok (.ifCond .ne 6, 3) := by decide +kernel
theorem dX8_strike_22 : decode cX8_strike 22 = .ok (.ldc 143, 2) := by decide +kernel
theorem dX8_strike_24 : decode cX8_strike 24 = .ok (.ireturn, 1) := by decide +kernel
theorem dX8_strike_25 : decode cX8_strike 25 = .ok (.aload_n 0, 1) := by decide +kernel
theorem dX8_strike_26 : decode cX8_strike 26 = .ok (.getfield 19, 3) := by decide +kernel
theorem dX8_strike_29 : decode cX8_strike 29 = .ok (.iload_n 1, 1) := by decide +kernel
theorem dX8_strike_30 : decode cX8_strike 30 = .ok (.iload_n 2, 1) := by decide +kernel
theorem dX8_strike_31 : decode cX8_strike 31 = .ok (.invokevirtual 189, 3) := by decide +kernel
theorem dX8_strike_34 : decode cX8_strike 34 = .ok (.iconst (-1), 1) := by decide +kernel
theorem dX8_strike_35 : decode cX8_strike 35 = .ok (.if_icmp .ne 6, 3) := by decide +kernel
theorem dX8_strike_38 : decode cX8_strike 38 = .ok (.ldc 192, 2) := by decide +kernel
theorem dX8_strike_40 : decode cX8_strike 40 = .ok (.ireturn, 1) := by decide +kernel
theorem dX8_strike_41 : decode cX8_strike 41 = .ok (.aload_n 0, 1) := by decide +kernel
theorem dX8_strike_42 : decode cX8_strike 42 = .ok (.getfield 43, 3) := by decide +kernel
theorem dX8_strike_45 : decode cX8_strike 45 = .ok (.aload_n 0, 1) := by decide +kernel
theorem dX8_strike_46 : decode cX8_strike 46 = .ok (.getfield 19, 3) := by decide +kernel
theorem dX8_strike_49 : decode cX8_strike 49 = .ok (.invokevirtual 182, 3) := by decide +kernel
theorem dX8_strike_52 : decode cX8_strike 52 = .ok (.aload_n 0, 1) := by decide +kernel
theorem dX8_strike_53 : decode cX8_strike 53 = .ok (.getfield 19, 3) := by decide +kernel
theorem dX8_strike_56 : decode cX8_strike 56 = .ok (.iload_n 1, 1) := by decide +kernel
theorem dX8_strike_57 : decode cX8_strike 57 = .ok (.iload_n 2, 1) := by decide +kernel
theorem dX8_strike_58 : decode cX8_strike 58 = .ok (.invokevirtual 193, 3) := by decide +kernel
theorem dX8_strike_61 : decode cX8_strike 61 = .ok (.aload_n 0, 1) := by decide +kernel
theorem dX8_strike_62 : decode cX8_strike 62 = .ok (.getfield 19, 3) := by decide +kernel
theorem dX8_strike_65 : decode cX8_strike 65 = .ok (.iload_n 1, 1) := by decide +kernel
theorem dX8_strike_66 : decode cX8_strike 66 = .ok (.invokevirtual 147, 3) := by decide +kernel
theorem dX8_strike_69 : decode cX8_strike 69 = .ok (.ireturn, 1) := by decide +kernel
theorem dX8_lot_0 : decode cX8_lot 0 = .ok (.aload_n 0, 1) := by decide +kernel
theorem dX8_lot_1 : decode cX8_lot 1 = .ok (.getfield 19, 3) := by decide +kernel
theorem dX8_lot_4 : decode cX8_lot 4 = .ok (.iload_n 1, 1) := by decide +kernel
theorem dX8_lot_5 : decode cX8_lot 5 = .ok (.invokevirtual 139, 3) := by decide +kernel
theorem dX8_lot_8 : decode cX8_lot 8 = .ok (.ifCond .ne 6, 3) := by decide +kernel
theorem dX8_lot_11 : decode cX8_lot 11 = .ok (.ldc 143, 2) := by decide +kernel
theorem dX8_lot_13 : decode cX8_lot 13 = .ok (.ireturn, 1) := by decide +kernel
theorem dX8_lot_14 : decode cX8_lot 14 = .ok (.iload_n 2, 1) := by decide +kernel
theorem dX8_lot_15 : decode cX8_lot 15 = .ok (.ifCond .lt 14, 3) := by decide +kernel
theorem dX8_lot_18 : decode cX8_lot 18 = .ok (.iload_n 2, 1) := by decide +kernel
theorem dX8_lot_19 : decode cX8_lot 19 = .ok (.aload_n 0, 1) := by decide +kernel
theorem dX8_lot_20 : decode cX8_lot 20 = .ok (.getfield 19, 3) := by decide +kernel
theorem dX8_lot_23 : decode cX8_lot 23 = .ok (.getfield 90, 3) := by decide +kernel
theorem dX8_lot_26 : decode cX8_lot 26 = .ok (.if_icmp .lt 6, 3) := by decide +kernel
theorem dX8_lot_29 : decode cX8_lot 29 = .ok (.ldc 68, 2) := by decide +kernel
theorem dX8_lot_31 : decode cX8_lot 31 = .ok (.ireturn, 1) := by decide +kernel
theorem dX8_lot_32 : decode cX8_lot 32 = .ok (.aload_n 0, 1) := by decide +kernel
theorem dX8_lot_33 : decode cX8_lot 33 = .ok (.getfield 19, 3) := by decide +kernel
theorem dX8_lot_36 : decode cX8_lot 36 = .ok (.iload_n 1, 1) := by decide +kernel
theorem dX8_lot_37 : decode cX8_lot 37 = .ok (.invokevirtual 150, 3) := by decide +kernel
theorem dX8_lot_40 : decode cX8_lot 40 = .ok (.istore_n 3, 1) := by decide +kernel
theorem dX8_lot_41 : decode cX8_lot 41 = .ok (.aload_n 0, 1) := by decide +kernel
theorem dX8_lot_42 : decode cX8_lot 42 = .ok (.getfield 43, 3) := by decide +kernel
theorem dX8_lot_45 : decode cX8_lot 45 = .ok (.aload_n 0, 1) := by decide +kernel
theorem dX8_lot_46 : decode cX8_lot 46 = .ok (.getfield 19, 3) := by decide +kernel
theorem dX8_lot_49 : decode cX8_lot 49 = .ok (.invokevirtual 182, 3) := by decide +kernel
theorem dX8_lot_52 : decode cX8_lot 52 = .ok (.aload_n 0, 1) := by decide +kernel
theorem dX8_lot_53 : decode cX8_lot 53 = .ok (.getfield 19, 3) := by decide +kernel
theorem dX8_lot_56 : decode cX8_lot 56 = .ok (.iload_n 1, 1) := by decide +kernel
theorem dX8_lot_57 : decode cX8_lot 57 = .ok (.iload_n 2, 1) := by decide +kernel
theorem dX8_lot_58 : decode cX8_lot 58 = .ok (.invokevirtual 197, 3) := by decide +kernel
theorem dX8_lot_61 : decode cX8_lot 61 = .ok (.iload_n 3, 1) := by decide +kernel
theorem dX8_lot_62 : decode cX8_lot 62 = .ok (.ireturn, 1) := by decide +kernel
theorem dX8_refuse_0 : decode cX8_refuse 0 = .ok (.aload_n 0, 1) := by decide +kernel
theorem dX8_refuse_1 : decode cX8_refuse 1 = .ok (.getfield 19, 3) := by decide +kernel
theorem dX8_refuse_4 : decode cX8_refuse 4 = .ok (.iload_n 1, 1) := by decide +kernel
theorem dX8_refuse_5 : decode cX8_refuse 5 = .ok (.invokevirtual 139, 3) := by decide +kernel
theorem dX8_refuse_8 : decode cX8_refuse 8 = .ok (.ifCond .ne 6, 3) := by decide +kernel
theorem dX8_refuse_11 : decode cX8_refuse 11 = .ok (.ldc 143, 2) := by decide +kernel
theorem dX8_refuse_13 : decode cX8_refuse 13 = .ok (.ireturn, 1) := by decide +kernel
theorem dX8_refuse_14 : decode cX8_refuse 14 = .ok (.aload_n 0, 1) := by decide +kernel
theorem dX8_refuse_15 : decode cX8_refuse 15 = .ok (.invokevirtual 103, 3) := by decide +kernel
theorem dX8_refuse_18 : decode cX8_refuse 18 = .ok (.iload_n 1, 1) := by decide +kernel
theorem dX8_refuse_19 : decode cX8_refuse 19 = .ok (.invokevirtual 153, 3) := by decide +kernel
theorem dX8_refuse_22 : decode cX8_refuse 22 = .ok (.istore_n 2, 1) := by decide +kernel
theorem dX8_refuse_23 : decode cX8_refuse 23 = .ok (.iload_n 2, 1) := by decide +kernel
theorem dX8_refuse_24 : decode cX8_refuse 24 = .ok (.iconst (-1), 1) := by decide +kernel
theorem dX8_refuse_25 : decode cX8_refuse 25 = .ok (.if_icmp .eq 15, 3) := by decide +kernel
theorem dX8_refuse_28 : decode cX8_refuse 28 = .ok (.iload_n 2, 1) := by decide +kernel
theorem dX8_refuse_29 : decode cX8_refuse 29 = .ok (.aload_n 0, 1) := by decide +kernel
theorem dX8_refuse_30 : decode cX8_refuse 30 = .ok (.getfield 19, 3) := by decide +kernel
theorem dX8_refuse_33 : decode cX8_refuse 33 = .ok (.iload_n 1, 1) := by decide +kernel
theorem dX8_refuse_34 : decode cX8_refuse 34 = .ok (.invokevirtual 144, 3) := by decide +kernel
theorem dX8_refuse_37 : decode cX8_refuse 37 = .ok (.if_icmp .ne 6, 3) := by decide +kernel
theorem dX8_refuse_40 : decode cX8_refuse 40 = .ok (.ldc 192, 2) := by decide +kernel
theorem dX8_refuse_42 : decode cX8_refuse 42 = .ok (.ireturn, 1) := by decide +kernel
theorem dX8_refuse_43 : decode cX8_refuse 43 = .ok (.aload_n 0, 1) := by decide +kernel
theorem dX8_refuse_44 : decode cX8_refuse 44 = .ok (.getfield 43, 3) := by decide +kernel
theorem dX8_refuse_47 : decode cX8_refuse 47 = .ok (.aload_n 0, 1) := by decide +kernel
theorem dX8_refuse_48 : decode cX8_refuse 48 = .ok (.getfield 19, 3) := by decide +kernel
theorem dX8_refuse_51 : decode cX8_refuse 51 = .ok (.invokevirtual 182, 3) := by decide +kernel
theorem dX8_refuse_54 : decode cX8_refuse 54 = .ok (.aload_n 0, 1) := by decide +kernel
theorem dX8_refuse_55 : decode cX8_refuse 55 = .ok (.getfield 19, 3) := by decide +kernel
theorem dX8_refuse_58 : decode cX8_refuse 58 = .ok (.iload_n 1, 1) := by decide +kernel
theorem dX8_refuse_59 : decode cX8_refuse 59 = .ok (.iload_n 2, 1) := by decide +kernel
theorem dX8_refuse_60 : decode cX8_refuse 60 = .ok (.invokevirtual 193, 3) := by decide +kernel
theorem dX8_refuse_63 : decode cX8_refuse 63 = .ok (.aload_n 0, 1) := by decide +kernel
theorem dX8_refuse_64 : decode cX8_refuse 64 = .ok (.invokevirtual 103, 3) := by decide +kernel
theorem dX8_refuse_67 : decode cX8_refuse 67 = .ok (.iload_n 1, 1) := by decide +kernel
theorem dX8_refuse_68 : decode cX8_refuse 68 = .ok (.invokevirtual 153, 3) := by decide +kernel
theorem dX8_refuse_71 : decode cX8_refuse 71 = .ok (.ireturn, 1) := by decide +kernel
theorem dX8_moved_0 : decode cX8_moved 0 = .ok (.aload_n 0, 1) := by decide +kernel
theorem dX8_moved_1 : decode cX8_moved 1 = .ok (.getfield 19, 3) := by decide +kernel
theorem dX8_moved_4 : decode cX8_moved 4 = .ok (.getfield 90, 3) := by decide +kernel
theorem dX8_moved_7 : decode cX8_moved 7 = .ok (.ifCond .ne 6, 3) := by decide +kernel
theorem dX8_moved_10 : decode cX8_moved 10 = .ok (.ldc 192, 2) := by decide +kernel
theorem dX8_moved_12 : decode cX8_moved 12 = .ok (.ireturn, 1) := by decide +kernel
theorem dX8_moved_13 : decode cX8_moved 13 = .ok (.aload_n 0, 1) := by decide +kernel
theorem dX8_moved_14 : decode cX8_moved 14 = .ok (.getfield 43, 3) := by decide +kernel
theorem dX8_moved_17 : decode cX8_moved 17 = .ok (.aload_n 0, 1) := by decide +kernel
theorem dX8_moved_18 : decode cX8_moved 18 = .ok (.getfield 19, 3) := by decide +kernel
theorem dX8_moved_21 : decode cX8_moved 21 = .ok (.invokevirtual 182, 3) := by decide +kernel
theorem dX8_moved_24 : decode cX8_moved 24 = .ok (.aload_n 0, 1) := by decide +kernel
theorem dX8_moved_25 : decode cX8_moved 25 = .ok (.invokevirtual 200, 3) := by decide +kernel
theorem dX8_moved_28 : decode cX8_moved 28 = .ok (.ireturn, 1) := by decide +kernel
theorem dX8_leave_0 : decode cX8_leave 0 = .ok (.aload_n 0, 1) := by decide +kernel
theorem dX8_leave_1 : decode cX8_leave 1 = .ok (.getfield 19, 3) := by decide +kernel
theorem dX8_leave_4 : decode cX8_leave 4 = .ok (.iload_n 1, 1) := by decide +kernel
theorem dX8_leave_5 : decode cX8_leave 5 = .ok (.invokevirtual 139, 3) := by decide +kernel
theorem dX8_leave_8 : decode cX8_leave 8 = .ok (.ifCond .ne 6, 3) := by decide +kernel
theorem dX8_leave_11 : decode cX8_leave 11 = .ok (.ldc 143, 2) := by decide +kernel
theorem dX8_leave_13 : decode cX8_leave 13 = .ok (.ireturn, 1) := by decide +kernel
theorem dX8_leave_14 : decode cX8_leave 14 = .ok (.aload_n 0, 1) := by decide +kernel
theorem dX8_leave_15 : decode cX8_leave 15 = .ok (.getfield 19, 3) := by decide +kernel
theorem dX8_leave_18 : decode cX8_leave 18 = .ok (.iload_n 1, 1) := by decide +kernel
theorem dX8_leave_19 : decode cX8_leave 19 = .ok (.invokevirtual 144, 3) := by decide +kernel
theorem dX8_leave_22 : decode cX8_leave 22 = .ok (.istore_n 2, 1) := by decide +kernel
theorem dX8_leave_23 : decode cX8_leave 23 = .ok (.iload_n 2, 1) := by decide +kernel
theorem dX8_leave_24 : decode cX8_leave 24 = .ok (.iconst (-1), 1) := by decide +kernel
theorem dX8_leave_25 : decode cX8_leave 25 = .ok (.if_icmp .ne 6, 3) := by decide +kernel
theorem dX8_leave_28 : decode cX8_leave 28 = .ok (.ldc 192, 2) := by decide +kernel
theorem dX8_leave_30 : decode cX8_leave 30 = .ok (.ireturn, 1) := by decide +kernel
theorem dX8_leave_31 : decode cX8_leave 31 = .ok (.aload_n 0, 1) := by decide +kernel
theorem dX8_leave_32 : decode cX8_leave 32 = .ok (.getfield 43, 3) := by decide +kernel
theorem dX8_leave_35 : decode cX8_leave 35 = .ok (.aload_n 0, 1) := by decide +kernel
theorem dX8_leave_36 : decode cX8_leave 36 = .ok (.getfield 19, 3) := by decide +kernel
theorem dX8_leave_39 : decode cX8_leave 39 = .ok (.invokevirtual 182, 3) := by decide +kernel
theorem dX8_leave_42 : decode cX8_leave 42 = .ok (.aload_n 0, 1) := by decide +kernel
theorem dX8_leave_43 : decode cX8_leave 43 = .ok (.getfield 19, 3) := by decide +kernel
theorem dX8_leave_46 : decode cX8_leave 46 = .ok (.iload_n 1, 1) := by decide +kernel
theorem dX8_leave_47 : decode cX8_leave 47 = .ok (.iconst (-1), 1) := by decide +kernel
theorem dX8_leave_48 : decode cX8_leave 48 = .ok (.invokevirtual 203, 3) := by decide +kernel
theorem dX8_leave_51 : decode cX8_leave 51 = .ok (.iload_n 2, 1) := by decide +kernel
theorem dX8_leave_52 : decode cX8_leave 52 = .ok (.ireturn, 1) := by decide +kernel
theorem dX8_drift_0 : decode cX8_drift 0 = .ok (.iload_n 1, 1) := by decide +kernel
theorem dX8_drift_1 : decode cX8_drift 1 = .ok (.iconst 1, 1) := by decide +kernel
theorem dX8_drift_2 : decode cX8_drift 2 = .ok (.if_icmp .lt 9, 3) := by decide +kernel
theorem dX8_drift_5 : decode cX8_drift 5 = .ok (.iload_n 1, 1) := by decide +kernel
theorem dX8_drift_6 : decode cX8_drift 6 = .ok (.bipush 20, 2) := by decide +kernel
theorem dX8_drift_8 : decode cX8_drift 8 = .ok (.if_icmp .le 6, 3) := by decide +kernel
theorem dX8_drift_11 : decode cX8_drift 11 = .ok (.ldc 68, 2) := by decide +kernel
theorem dX8_drift_13 : decode cX8_drift 13 = .ok (.ireturn, 1) := by decide +kernel
theorem dX8_drift_14 : decode cX8_drift 14 = .ok (.aload_n 0, 1) := by decide +kernel
theorem dX8_drift_15 : decode cX8_drift 15 = .ok (.getfield 19, 3) := by decide +kernel
theorem dX8_drift_18 : decode cX8_drift 18 = .ok (.getfield 97, 3) := by decide +kernel
theorem dX8_drift_21 : decode cX8_drift 21 = .ok (.ifCond .ne 6, 3) := by decide +kernel
theorem dX8_drift_24 : decode cX8_drift 24 = .ok (.ldc 192, 2) := by decide +kernel
theorem dX8_drift_26 : decode cX8_drift 26 = .ok (.ireturn, 1) := by decide +kernel
theorem dX8_drift_27 : decode cX8_drift 27 = .ok (.iconst 0, 1) := by decide +kernel
theorem dX8_drift_28 : decode cX8_drift 28 = .ok (.istore_n 2, 1) := by decide +kernel
theorem dX8_drift_29 : decode cX8_drift 29 = .ok (.iload_n 2, 1) := by decide +kernel
theorem dX8_drift_30 : decode cX8_drift 30 = .ok (.iload_n 1, 1) := by decide +kernel
theorem dX8_drift_31 : decode cX8_drift 31 = .ok (.if_icmp .ge 34, 3) := by decide +kernel
theorem dX8_drift_34 : decode cX8_drift 34 = .ok (.aload_n 0, 1) := by decide +kernel
theorem dX8_drift_35 : decode cX8_drift 35 = .ok (.getfield 19, 3) := by decide +kernel
theorem dX8_drift_38 : decode cX8_drift 38 = .ok (.getfield 90, 3) := by decide +kernel
theorem dX8_drift_41 : decode cX8_drift 41 = .ok (.ifCond .le 24, 3) := by decide +kernel
theorem dX8_drift_44 : decode cX8_drift 44 = .ok (.aload_n 0, 1) := by decide +kernel
theorem dX8_drift_45 : decode cX8_drift 45 = .ok (.getfield 43, 3) := by decide +kernel
theorem dX8_drift_48 : decode cX8_drift 48 = .ok (.aload_n 0, 1) := by decide +kernel
theorem dX8_drift_49 : decode cX8_drift 49 = .ok (.getfield 19, 3) := by decide +kernel
theorem dX8_drift_52 : decode cX8_drift 52 = .ok (.invokevirtual 182, 3) := by decide +kernel
theorem dX8_drift_55 : decode cX8_drift 55 = .ok (.aload_n 0, 1) := by decide +kernel
theorem dX8_drift_56 : decode cX8_drift 56 = .ok (.invokevirtual 206, 3) := by decide +kernel
theorem dX8_drift_59 : decode cX8_drift 59 = .ok (.iinc 2 1, 3) := by decide +kernel
theorem dX8_drift_62 : decode cX8_drift 62 = .ok (.goto (-33), 3) := by decide +kernel
theorem dX8_drift_65 : decode cX8_drift 65 = .ok (.aload_n 0, 1) := by decide +kernel
theorem dX8_drift_66 : decode cX8_drift 66 = .ok (.getfield 19, 3) := by decide +kernel
theorem dX8_drift_69 : decode cX8_drift 69 = .ok (.invokevirtual 116, 3) := by decide +kernel
theorem dX8_drift_72 : decode cX8_drift 72 = .ok (.invokestatic 209, 3) := by decide +kernel
theorem dX8_drift_75 : decode cX8_drift 75 = .ok (.ireturn, 1) := by decide +kernel
theorem dX8_undo_0 : decode cX8_undo 0 = .ok (.iload_n 1, 1) := by decide +kernel
theorem dX8_undo_1 : decode cX8_undo 1 = .ok (.iconst 1, 1) := by decide +kernel
theorem dX8_undo_2 : decode cX8_undo 2 = .ok (.if_icmp .lt 9, 3) := by decide +kernel
theorem dX8_undo_5 : decode cX8_undo 5 = .ok (.iload_n 1, 1) := by decide +kernel
theorem dX8_undo_6 : decode cX8_undo 6 = .ok (.bipush 20, 2) := by decide +kernel
theorem dX8_undo_8 : decode cX8_undo 8 = .ok (.if_icmp .le 6, 3) := by decide +kernel
theorem dX8_undo_11 : decode cX8_undo 11 = .ok (.ldc 68, 2) := by decide +kernel
theorem dX8_undo_13 : decode cX8_undo 13 = .ok (.ireturn, 1) := by decide +kernel
theorem dX8_undo_14 : decode cX8_undo 14 = .ok (.iload_n 1, 1) := by decide +kernel
theorem dX8_undo_15 : decode cX8_undo 15 = .ok (.aload_n 0, 1) := by decide +kernel
theorem dX8_undo_16 : decode cX8_undo 16 = .ok (.getfield 43, 3) := by decide +kernel
theorem dX8_undo_19 : decode cX8_undo 19 = .ok (.getfield 136, 3) := by decide +kernel
theorem dX8_undo_22 : decode cX8_undo 22 = .ok (.if_icmp .le 6, 3) := by decide +kernel
theorem dX8_undo_25 : decode cX8_undo 25 = .ok (.ldc 192, 2) := by decide +kernel
theorem dX8_undo_27 : decode cX8_undo 27 = .ok (.ireturn, 1) := by decide +kernel
theorem dX8_undo_28 : decode cX8_undo 28 = .ok (.aload_n 0, 1) := by decide +kernel
theorem dX8_undo_29 : decode cX8_undo 29 = .ok (.getfield 43, 3) := by decide +kernel
theorem dX8_undo_32 : decode cX8_undo 32 = .ok (.iload_n 1, 1) := by decide +kernel
theorem dX8_undo_33 : decode cX8_undo 33 = .ok (.aload_n 0, 1) := by decide +kernel
theorem dX8_undo_34 : decode cX8_undo 34 = .ok (.getfield 19, 3) := by decide +kernel
theorem dX8_undo_37 : decode cX8_undo 37 = .ok (.invokevirtual 214, 3) := by decide +kernel
theorem dX8_undo_40 : decode cX8_undo 40 = .ok (.aload_n 0, 1) := by decide +kernel
theorem dX8_undo_41 : decode cX8_undo 41 = .ok (.getfield 43, 3) := by decide +kernel
theorem dX8_undo_44 : decode cX8_undo 44 = .ok (.getfield 136, 3) := by decide +kernel
theorem dX8_undo_47 : decode cX8_undo 47 = .ok (.ireturn, 1) := by decide +kernel
theorem dX8_otherwise_0 : decode cX8_otherwise 0 = .ok (.aload_n 0, 1) := by decide +kernel
theorem dX8_otherwise_1 : decode cX8_otherwise 1 = .ok (.getfield 19, 3) := by decide +kernel
theorem dX8_otherwise_4 : decode cX8_otherwise 4 = .ok (.iload_n 1, 1) := by decide +kernel
theorem dX8_otherwise_5 : decode cX8_otherwise 5 = .ok (.invokevirtual 139, 3) := by decide +kernel
theorem dX8_otherwise_8 : decode cX8_otherwise 8 = .ok (.ifCond .eq 14, 3) := by decide +kernel
theorem dX8_otherwise_11 : decode cX8_otherwise 11 = .ok (.aload_n 0, 1) := by decide +kernel
theorem dX8_otherwise_12 : decode cX8_otherwise 12 = .ok (.getfield 19, 3) := by decide +kernel
theorem dX8_otherwise_15 : decode cX8_otherwise 15 = .ok (.iload_n 2, 1) := by decide +kernel
theorem dX8_otherwise_16 : decode cX8_otherwise 16 = .ok (.invokevirtual 172, 3) := by decide +kernel
theorem dX8_otherwise_19 : decode cX8_otherwise 19 = .ok (.ifCond .ne 6, 3) := by decide +kernel
theorem dX8_otherwise_22 : decode cX8_otherwise 22 = .ok (.ldc 143, 2) := by decide +kernel
theorem dX8_otherwise_24 : decode cX8_otherwise 24 = .ok (.ireturn, 1) := by decide +kernel
theorem dX8_otherwise_25 : decode cX8_otherwise 25 = .ok (.aload_n 0, 1) := by decide +kernel
theorem dX8_otherwise_26 : decode cX8_otherwise 26 = .ok (.getfield 23, 3) := by decide +kernel
theorem dX8_otherwise_29 : decode cX8_otherwise 29 = .ok (.aload_n 0, 1) := by decide +kernel
theorem dX8_otherwise_30 : decode cX8_otherwise 30 = .ok (.getfield 19, 3) := by decide +kernel
theorem dX8_otherwise_33 : decode cX8_otherwise 33 = .ok (.invokevirtual 77, 3) := by decide +kernel
theorem dX8_otherwise_36 : decode cX8_otherwise 36 = .ok (.aload_n 0, 1) := by decide +kernel
theorem dX8_otherwise_37 : decode cX8_otherwise 37 = .ok (.getfield 23, 3) := by decide +kernel
theorem dX8_otherwise_40 : decode cX8_otherwise 40 = .ok (.iload_n 1, 1) := by decide +kernel
theorem dX8_otherwise_41 : decode cX8_otherwise 41 = .ok (.invokevirtual 218, 3) := by decide +kernel
theorem dX8_otherwise_44 : decode cX8_otherwise 44 = .ok (.aload_n 0, 1) := by decide +kernel
theorem dX8_otherwise_45 : decode cX8_otherwise 45 = .ok (.getfield 23, 3) := by decide +kernel
theorem dX8_otherwise_48 : decode cX8_otherwise 48 = .ok (.iload_n 1, 1) := by decide +kernel
theorem dX8_otherwise_49 : decode cX8_otherwise 49 = .ok (.iload_n 2, 1) := by decide +kernel
theorem dX8_otherwise_50 : decode cX8_otherwise 50 = .ok (.invokevirtual 222, 3) := by decide +kernel
theorem dX8_otherwise_53 : decode cX8_otherwise 53 = .ok (.aload_n 0, 1) := by decide +kernel
theorem dX8_otherwise_54 : decode cX8_otherwise 54 = .ok (.getfield 29, 3) := by decide +kernel
theorem dX8_otherwise_57 : decode cX8_otherwise 57 = .ok (.aload_n 0, 1) := by decide +kernel
theorem dX8_otherwise_58 : decode cX8_otherwise 58 = .ok (.getfield 23, 3) := by decide +kernel
theorem dX8_otherwise_61 : decode cX8_otherwise 61 = .ok (.invokevirtual 225, 3) := by decide +kernel
theorem dX8_otherwise_64 : decode cX8_otherwise 64 = .ok (.aload_n 0, 1) := by decide +kernel
theorem dX8_otherwise_65 : decode cX8_otherwise 65 = .ok (.getfield 29, 3) := by decide +kernel
theorem dX8_otherwise_68 : decode cX8_otherwise 68 = .ok (.iload_n 1, 1) := by decide +kernel
theorem dX8_otherwise_69 : decode cX8_otherwise 69 = .ok (.invokevirtual 153, 3) := by decide +kernel
theorem dX8_otherwise_72 : decode cX8_otherwise 72 = .ok (.ireturn, 1) := by decide +kernel
theorem dX8_odds_0 : decode cX8_odds 0 = .ok (.aload_n 0, 1) := by decide +kernel
theorem dX8_odds_1 : decode cX8_odds 1 = .ok (.getfield 19, 3) := by decide +kernel
theorem dX8_odds_4 : decode cX8_odds 4 = .ok (.iload_n 1, 1) := by decide +kernel
theorem dX8_odds_5 : decode cX8_odds 5 = .ok (.invokevirtual 139, 3) := by decide +kernel
theorem dX8_odds_8 : decode cX8_odds 8 = .ok (.ifCond .eq 14, 3) := by decide +kernel
theorem dX8_odds_11 : decode cX8_odds 11 = .ok (.aload_n 0, 1) := by decide +kernel
theorem dX8_odds_12 : decode cX8_odds 12 = .ok (.getfield 19, 3) := by decide +kernel
theorem dX8_odds_15 : decode cX8_odds 15 = .ok (.iload_n 2, 1) := by decide +kernel
theorem dX8_odds_16 : decode cX8_odds 16 = .ok (.invokevirtual 228, 3) := by decide +kernel
theorem dX8_odds_19 : decode cX8_odds 19 = .ok (.ifCond .ne 6, 3) := by decide +kernel
theorem dX8_odds_22 : decode cX8_odds 22 = .ok (.ldc 143, 2) := by decide +kernel
theorem dX8_odds_24 : decode cX8_odds 24 = .ok (.ireturn, 1) := by decide +kernel
theorem dX8_odds_25 : decode cX8_odds 25 = .ok (.aload_n 0, 1) := by decide +kernel
theorem dX8_odds_26 : decode cX8_odds 26 = .ok (.getfield 23, 3) := by decide +kernel
theorem dX8_odds_29 : decode cX8_odds 29 = .ok (.aload_n 0, 1) := by decide +kernel
theorem dX8_odds_30 : decode cX8_odds 30 = .ok (.getfield 19, 3) := by decide +kernel
theorem dX8_odds_33 : decode cX8_odds 33 = .ok (.invokevirtual 77, 3) := by decide +kernel
theorem dX8_odds_36 : decode cX8_odds 36 = .ok (.aload_n 0, 1) := by decide +kernel
theorem dX8_odds_37 : decode cX8_odds 37 = .ok (.getfield 23, 3) := by decide +kernel
theorem dX8_odds_40 : decode cX8_odds 40 = .ok (.invokevirtual 231, 3) := by decide +kernel
theorem dX8_odds_43 : decode cX8_odds 43 = .ok (.istore_n 3, 1) := by decide +kernel
theorem dX8_odds_44 : decode cX8_odds 44 = .ok (.iconst 0, 1) := by decide +kernel
theorem dX8_odds_45 : decode cX8_odds 45 = .ok (.istore 4, 2) := by decide +kernel
theorem dX8_odds_47 : decode cX8_odds 47 = .ok (.iconst 0, 1) := by decide +kernel
theorem dX8_odds_48 : decode cX8_odds 48 = .ok (.istore 5, 2) := by decide +kernel
theorem dX8_odds_50 : decode cX8_odds 50 = .ok (.iload 5, 2) := by decide +kernel
theorem dX8_odds_52 : decode cX8_odds 52 = .ok (.iload_n 3, 1) := by decide +kernel
theorem dX8_odds_53 : decode cX8_odds 53 = .ok (.if_icmp .ge 44, 3) := by decide +kernel
theorem dX8_odds_56 : decode cX8_odds 56 = .ok (.aload_n 0, 1) := by decide +kernel
theorem dX8_odds_57 : decode cX8_odds 57 = .ok (.getfield 23, 3) := by decide +kernel
theorem dX8_odds_60 : decode cX8_odds 60 = .ok (.iload 5, 2) := by decide +kernel
theorem dX8_odds_62 : decode cX8_odds 62 = .ok (.invokevirtual 234, 3) := by decide +kernel
theorem dX8_odds_65 : decode cX8_odds 65 = .ok (.aload_n 0, 1) := by decide +kernel
theorem dX8_odds_66 : decode cX8_odds 66 = .ok (.getfield 29, 3) := by decide +kernel
theorem dX8_odds_69 : decode cX8_odds 69 = .ok (.aload_n 0, 1) := by decide +kernel
theorem dX8_odds_70 : decode cX8_odds 70 = .ok (.getfield 23, 3) := by decide +kernel
theorem dX8_odds_73 : decode cX8_odds 73 = .ok (.invokevirtual 225, 3) := by decide +kernel
theorem dX8_odds_76 : decode cX8_odds 76 = .ok (.aload_n 0, 1) := by decide +kernel
theorem dX8_odds_77 : decode cX8_odds 77 = .ok (.getfield 29, 3) := by decide +kernel
theorem dX8_odds_80 : decode cX8_odds 80 = .ok (.iload_n 1, 1) := by decide +kernel
theorem dX8_odds_81 : decode cX8_odds 81 = .ok (.invokevirtual 153, 3) := by decide +kernel
theorem dX8_odds_84 : decode cX8_odds 84 = .ok (.iload_n 2, 1) := by decide +kernel
theorem dX8_odds_85 : decode cX8_odds 85 = .ok (.if_icmp .ne 6, 3) := by decide +kernel
theorem dX8_odds_88 : decode cX8_odds 88 = .ok (.iinc 4 1, 3) := by decide +kernel
theorem dX8_odds_91 : decode cX8_odds 91 = .ok (.iinc 5 1, 3) := by decide +kernel
theorem dX8_odds_94 : decode cX8_odds 94 = .ok (.goto (-44), 3) := by decide +kernel
theorem dX8_odds_97 : decode cX8_odds 97 = .ok (.iload 4, 2) := by decide +kernel
theorem dX8_odds_99 : decode cX8_odds 99 = .ok (.ireturn, 1) := by decide +kernel
theorem dX8_quiet_0 : decode cX8_quiet 0 = .ok (.iload_n 1, 1) := by decide +kernel
theorem dX8_quiet_1 : decode cX8_quiet 1 = .ok (.ifCond .lt 19, 3) := by decide +kernel
theorem dX8_quiet_4 : decode cX8_quiet 4 = .ok (.iload_n 1, 1) := by decide +kernel
theorem dX8_quiet_5 : decode cX8_quiet 5 = .ok (.bipush 60, 2) := by decide +kernel
theorem dX8_quiet_7 : decode cX8_quiet 7 = .ok (.if_icmp .gt 13, 3) := by decide +kernel
theorem dX8_quiet_10 : decode cX8_quiet 10 = .ok (.iload_n 2, 1) := by decide +kernel
theorem dX8_quiet_11 : decode cX8_quiet 11 = .ok (.ifCond .lt 9, 3) := by decide +kernel
theorem dX8_quiet_14 : decode cX8_quiet 14 = .ok (.iload_n 2, 1) := by decide +kernel
theorem dX8_quiet_15 : decode cX8_quiet 15 = .ok (.bipush 100, 2) := by decide +kernel
theorem dX8_quiet_17 : decode cX8_quiet 17 = .ok (.if_icmp .le 6, 3) := by decide +kernel
theorem dX8_quiet_20 : decode cX8_quiet 20 = .ok (.ldc 68, 2) := by decide +kernel
theorem dX8_quiet_22 : decode cX8_quiet 22 = .ok (.ireturn, 1) := by decide +kernel
theorem dX8_quiet_23 : decode cX8_quiet 23 = .ok (.ldc2_w 237, 3) := by decide +kernel
theorem dX8_quiet_26 : decode cX8_quiet 26 = .ok (.lstore_n 3, 1) := by decide +kernel
theorem dX8_quiet_27 : decode cX8_quiet 27 = .ok (.iconst 0, 1) := by decide +kernel
theorem dX8_quiet_28 : decode cX8_quiet 28 = .ok (.istore 5, 2) := by decide +kernel
theorem dX8_quiet_30 : decode cX8_quiet 30 = .ok (.iload 5, 2) := by decide +kernel
theorem dX8_quiet_32 : decode cX8_quiet 32 = .ok (.iload_n 1, 1) := by decide +kernel
theorem dX8_quiet_33 : decode cX8_quiet 33 = .ok (.if_icmp .ge 18, 3) := by decide +kernel
theorem dX8_quiet_36 : decode cX8_quiet 36 = .ok (.lload_n 3, 1) := by decide +kernel
theorem dX8_quiet_37 : decode cX8_quiet 37 = .ok (.iload_n 2, 1) := by decide +kernel
theorem dX8_quiet_38 : decode cX8_quiet 38 = .ok (.i2l, 1) := by decide +kernel
theorem dX8_quiet_39 : decode cX8_quiet 39 = .ok (.lmul, 1) := by decide +kernel
theorem dX8_quiet_40 : decode cX8_quiet 40 = .ok (.ldc2_w 239, 3) := by decide +kernel
theorem dX8_quiet_43 : decode cX8_quiet 43 = .ok (.ldiv, 1) := by decide +kernel
theorem dX8_quiet_44 : decode cX8_quiet 44 = .ok (.lstore_n 3, 1) := by decide +kernel
theorem dX8_quiet_45 : decode cX8_quiet 45 = .ok (.iinc 5 1, 3) := by decide +kernel
theorem dX8_quiet_48 : decode cX8_quiet 48 = .ok (.goto (-18), 3) := by decide +kernel
theorem dX8_quiet_51 : decode cX8_quiet 51 = .ok (.lload_n 3, 1) := by decide +kernel
theorem dX8_quiet_52 : decode cX8_quiet 52 = .ok (.l2i, 1) := by decide +kernel
theorem dX8_quiet_53 : decode cX8_quiet 53 = .ok (.ireturn, 1) := by decide +kernel
theorem dX8_see_0 : decode cX8_see 0 = .ok (.aload_n 0, 1) := by decide +kernel
theorem dX8_see_1 : decode cX8_see 1 = .ok (.getfield 19, 3) := by decide +kernel
theorem dX8_see_4 : decode cX8_see 4 = .ok (.iload_n 1, 1) := by decide +kernel
theorem dX8_see_5 : decode cX8_see 5 = .ok (.invokevirtual 228, 3) := by decide +kernel
theorem dX8_see_8 : decode cX8_see 8 = .ok (.ifCond .ne 6, 3) := by decide +kernel
theorem dX8_see_11 : decode cX8_see 11 = .ok (.ldc 143, 2) := by decide +kernel
theorem dX8_see_13 : decode cX8_see 13 = .ok (.ireturn, 1) := by decide +kernel
theorem dX8_see_14 : decode cX8_see 14 = .ok (.aload_n 0, 1) := by decide +kernel
theorem dX8_see_15 : decode cX8_see 15 = .ok (.getfield 50, 3) := by decide +kernel
theorem dX8_see_18 : decode cX8_see 18 = .ok (.iload_n 1, 1) := by decide +kernel
theorem dX8_see_19 : decode cX8_see 19 = .ok (.iload_n 2, 1) := by decide +kernel
theorem dX8_see_20 : decode cX8_see 20 = .ok (.invokevirtual 241, 3) := by decide +kernel
theorem dX8_see_23 : decode cX8_see 23 = .ok (.ireturn, 1) := by decide +kernel
theorem dX8_couldBe_0 : decode cX8_couldBe 0 = .ok (.aload_n 0, 1) := by decide +kernel
theorem dX8_couldBe_1 : decode cX8_couldBe 1 = .ok (.getfield 50, 3) := by decide +kernel
theorem dX8_couldBe_4 : decode cX8_couldBe 4 = .ok (.aload_n 0, 1) := by decide +kernel
theorem dX8_couldBe_5 : decode cX8_couldBe 5 = .ok (.invokevirtual 103, 3) := by decide +kernel
theorem dX8_couldBe_8 : decode cX8_couldBe 8 = .ok (.aload_n 0, 1) := by decide +kernel
theorem dX8_couldBe_9 : decode cX8_couldBe 9 = .ok (.getfield 19, 3) := by decide +kernel
theorem dX8_couldBe_12 : decode cX8_couldBe 12 = .ok (.getfield 90, 3) := by decide +kernel
theorem dX8_couldBe_15 : decode cX8_couldBe 15 = .ok (.invokevirtual 245, 3) := by decide +kernel
theorem dX8_couldBe_18 : decode cX8_couldBe 18 = .ok (.ireturn, 1) := by decide +kernel
theorem dX8_ask_0 : decode cX8_ask 0 = .ok (.aload_n 0, 1) := by decide +kernel
theorem dX8_ask_1 : decode cX8_ask 1 = .ok (.getfield 50, 3) := by decide +kernel
theorem dX8_ask_4 : decode cX8_ask 4 = .ok (.aload_n 0, 1) := by decide +kernel
theorem dX8_ask_5 : decode cX8_ask 5 = .ok (.invokevirtual 103, 3) := by decide +kernel
theorem dX8_ask_8 : decode cX8_ask 8 = .ok (.aload_n 0, 1) := by decide +kernel
theorem dX8_ask_9 : decode cX8_ask 9 = .ok (.getfield 19, 3) := by decide +kernel
theorem dX8_ask_12 : decode cX8_ask 12 = .ok (.getfield 90, 3) := by decide +kernel
theorem dX8_ask_15 : decode cX8_ask 15 = .ok (.invokevirtual 245, 3) := by decide +kernel
theorem dX8_ask_18 : decode cX8_ask 18 = .ok (.istore_n 1, 1) := by decide +kernel
theorem dX8_ask_19 : decode cX8_ask 19 = .ok (.iload_n 1, 1) := by decide +kernel
theorem dX8_ask_20 : decode cX8_ask 20 = .ok (.invokestatic 209, 3) := by decide +kernel
theorem dX8_ask_23 : decode cX8_ask 23 = .ok (.istore_n 2, 1) := by decide +kernel
theorem dX8_ask_24 : decode cX8_ask 24 = .ok (.iconst (-1), 1) := by decide +kernel
theorem dX8_ask_25 : decode cX8_ask 25 = .ok (.istore_n 3, 1) := by decide +kernel
theorem dX8_ask_26 : decode cX8_ask 26 = .ok (.iload_n 2, 1) := by decide +kernel
theorem dX8_ask_27 : decode cX8_ask 27 = .ok (.istore 4, 2) := by decide +kernel
theorem dX8_ask_29 : decode cX8_ask 29 = .ok (.iconst 0, 1) := by decide +kernel
theorem dX8_ask_30 : decode cX8_ask 30 = .ok (.istore 5, 2) := by decide +kernel
theorem dX8_ask_32 : decode cX8_ask 32 = .ok (.iload 5, 2) := by decide +kernel
theorem dX8_ask_34 : decode cX8_ask 34 = .ok (.aload_n 0, 1) := by decide +kernel
theorem dX8_ask_35 : decode cX8_ask 35 = .ok (.getfield 19, 3) := by decide +kernel
theorem dX8_ask_38 : decode cX8_ask 38 = .ok (.getfield 97, 3) := by decide +kernel
theorem dX8_ask_41 : decode cX8_ask 41 = .ok (.if_icmp .ge 61, 3) := by decide +kernel
theorem dX8_ask_44 : decode cX8_ask 44 = .ok (.iload_n 1, 1) := by decide +kernel
theorem dX8_ask_45 : decode cX8_ask 45 = .ok (.aload_n 0, 1) := by decide +kernel
theorem dX8_ask_46 : decode cX8_ask 46 = .ok (.getfield 29, 3) := by decide +kernel
theorem dX8_ask_49 : decode cX8_ask 49 = .ok (.aload_n 0, 1) := by decide +kernel
theorem dX8_ask_50 : decode cX8_ask 50 = .ok (.getfield 19, 3) := by decide +kernel
theorem dX8_ask_53 : decode cX8_ask 53 = .ok (.iload 5, 2) := by decide +kernel
theorem dX8_ask_55 : decode cX8_ask 55 = .ok (.invokevirtual 178, 3) := by decide +kernel
theorem dX8_ask_58 : decode cX8_ask 58 = .ok (.invokestatic 249, 3) := by decide +kernel
theorem dX8_ask_61 : decode cX8_ask 61 = .ok (.ifCond .eq 7, 3) := by decide +kernel
theorem dX8_ask_64 : decode cX8_ask 64 = .ok (.iconst 1, 1) := by decide +kernel
theorem dX8_ask_65 : decode cX8_ask 65 = .ok (.goto 4, 3) := by decide +kernel
theorem dX8_ask_68 : decode cX8_ask 68 = .ok (.iconst 0, 1) := by decide +kernel
theorem dX8_ask_69 : decode cX8_ask 69 = .ok (.istore 6, 2) := by decide +kernel
theorem dX8_ask_71 : decode cX8_ask 71 = .ok (.iload 6, 2) := by decide +kernel
theorem dX8_ask_73 : decode cX8_ask 73 = .ok (.iload_n 2, 1) := by decide +kernel
theorem dX8_ask_74 : decode cX8_ask 74 = .ok (.iload 6, 2) := by decide +kernel
theorem dX8_ask_76 : decode cX8_ask 76 = .ok (.isub, 1) := by decide +kernel
theorem dX8_ask_77 : decode cX8_ask 77 = .ok (.invokestatic 253, 3) := by decide +kernel
theorem dX8_ask_80 : decode cX8_ask 80 = .ok (.istore 7, 2) := by decide +kernel
theorem dX8_ask_82 : decode cX8_ask 82 = .ok (.iload 7, 2) := by decide +kernel
theorem dX8_ask_84 : decode cX8_ask 84 = .ok (.iload 4, 2) := by decide +kernel
theorem dX8_ask_86 : decode cX8_ask 86 = .ok (.if_icmp .ge 10, 3) := by decide +kernel
theorem dX8_ask_89 : decode cX8_ask 89 = .ok (.iload 7, 2) := by decide +kernel
theorem dX8_ask_91 : decode cX8_ask 91 = .ok (.istore 4, 2) := by decide +kernel
theorem dX8_ask_93 : decode cX8_ask 93 = .ok (.iload 5, 2) := by decide +kernel
theorem dX8_ask_95 : decode cX8_ask 95 = .ok (.istore_n 3, 1) := by decide +kernel
theorem dX8_ask_96 : decode cX8_ask 96 = .ok (.iinc 5 1, 3) := by decide +kernel
theorem dX8_ask_99 : decode cX8_ask 99 = .ok (.goto (-67), 3) := by decide +kernel
theorem dX8_ask_102 : decode cX8_ask 102 = .ok (.iload_n 3, 1) := by decide +kernel
theorem dX8_ask_103 : decode cX8_ask 103 = .ok (.ireturn, 1) := by decide +kernel
theorem dX8_write_0 : decode cX8_write 0 = .ok (.aload_n 0, 1) := by decide +kernel
theorem dX8_write_1 : decode cX8_write 1 = .ok (.getfield 19, 3) := by decide +kernel
theorem dX8_write_4 : decode cX8_write 4 = .ok (.iload_n 1, 1) := by decide +kernel
theorem dX8_write_5 : decode cX8_write 5 = .ok (.invokevirtual 139, 3) := by decide +kernel
theorem dX8_write_8 : decode cX8_write 8 = .ok (.ifCond .eq 14, 3) := by decide +kernel
theorem dX8_write_11 : decode cX8_write 11 = .ok (.aload_n 0, 1) := by decide +kernel
theorem dX8_write_12 : decode cX8_write 12 = .ok (.getfield 19, 3) := by decide +kernel
theorem dX8_write_15 : decode cX8_write 15 = .ok (.iload_n 2, 1) := by decide +kernel
theorem dX8_write_16 : decode cX8_write 16 = .ok (.invokevirtual 228, 3) := by decide +kernel
theorem dX8_write_19 : decode cX8_write 19 = .ok (.ifCond .ne 6, 3) := by decide +kernel
theorem dX8_write_22 : decode cX8_write 22 = .ok (.ldc 143, 2) := by decide +kernel
theorem dX8_write_24 : decode cX8_write 24 = .ok (.ireturn, 1) := by decide +kernel
theorem dX8_write_25 : decode cX8_write 25 = .ok (.aload_n 0, 1) := by decide +kernel
theorem dX8_write_26 : decode cX8_write 26 = .ok (.getfield 50, 3) := by decide +kernel
theorem dX8_write_29 : decode cX8_write 29 = .ok (.iload_n 1, 1) := by decide +kernel
theorem dX8_write_30 : decode cX8_write 30 = .ok (.iload_n 2, 1) := by decide +kernel
theorem dX8_write_31 : decode cX8_write 31 = .ok (.invokevirtual 258, 3) := by decide +kernel
theorem dX8_write_34 : decode cX8_write 34 = .ok (.ireturn, 1) := by decide +kernel
theorem dX8_judge_0 : decode cX8_judge 0 = .ok (.aload_n 0, 1) := by decide +kernel
theorem dX8_judge_1 : decode cX8_judge 1 = .ok (.getfield 50, 3) := by decide +kernel
theorem dX8_judge_4 : decode cX8_judge 4 = .ok (.aload_n 0, 1) := by decide +kernel
theorem dX8_judge_5 : decode cX8_judge 5 = .ok (.invokevirtual 103, 3) := by decide +kernel
theorem dX8_judge_8 : decode cX8_judge 8 = .ok (.invokevirtual 261, 3) := by decide +kernel
theorem dX8_judge_11 : decode cX8_judge 11 = .ok (.ireturn, 1) := by decide +kernel
theorem dX8_tear_0 : decode cX8_tear 0 = .ok (.aload_n 0, 1) := by decide +kernel
theorem dX8_tear_1 : decode cX8_tear 1 = .ok (.getfield 50, 3) := by decide +kernel
theorem dX8_tear_4 : decode cX8_tear 4 = .ok (.getfield 130, 3) := by decide +kernel
theorem dX8_tear_7 : decode cX8_tear 7 = .ok (.aload_n 0, 1) := by decide +kernel
theorem dX8_tear_8 : decode cX8_tear 8 = .ok (.getfield 50, 3) := by decide +kernel
theorem dX8_tear_11 : decode cX8_tear 11 = .ok (.getfield 133, 3) := by decide +kernel
theorem dX8_tear_14 : decode cX8_tear 14 = .ok (.iadd, 1) := by decide +kernel
theorem dX8_tear_15 : decode cX8_tear 15 = .ok (.istore_n 1, 1) := by decide +kernel
theorem dX8_tear_16 : decode cX8_tear 16 = .ok (.aload_n 0, 1) := by decide +kernel
theorem dX8_tear_17 : decode cX8_tear 17 = .ok (.getfield 50, 3) := by decide +kernel
theorem dX8_tear_20 : decode cX8_tear 20 = .ok (.invokevirtual 84, 3) := by decide +kernel
theorem dX8_tear_23 : decode cX8_tear 23 = .ok (.iload_n 1, 1) := by decide +kernel
theorem dX8_tear_24 : decode cX8_tear 24 = .ok (.ireturn, 1) := by decide +kernel
theorem dX8_seed_0 : decode cX8_seed 0 = .ok (.iload_n 1, 1) := by decide +kernel
theorem dX8_seed_1 : decode cX8_seed 1 = .ok (.ifCond .ge 6, 3) := by decide +kernel
theorem dX8_seed_4 : decode cX8_seed 4 = .ok (.ldc 68, 2) := by decide +kernel
theorem dX8_seed_6 : decode cX8_seed 6 = .ok (.ireturn, 1) := by decide +kernel
theorem dX8_seed_7 : decode cX8_seed 7 = .ok (.aload_n 0, 1) := by decide +kernel
theorem dX8_seed_8 : decode cX8_seed 8 = .ok (.getfield 57, 3) := by decide +kernel
theorem dX8_seed_11 : decode cX8_seed 11 = .ok (.getfield 265, 3) := by decide +kernel
theorem dX8_seed_14 : decode cX8_seed 14 = .ok (.istore_n 2, 1) := by decide +kernel
theorem dX8_seed_15 : decode cX8_seed 15 = .ok (.aload_n 0, 1) := by decide +kernel
theorem dX8_seed_16 : decode cX8_seed 16 = .ok (.getfield 57, 3) := by decide +kernel
theorem dX8_seed_19 : decode cX8_seed 19 = .ok (.iload_n 1, 1) := by decide +kernel
theorem dX8_seed_20 : decode cX8_seed 20 = .ok (.putfield 265, 3) := by decide +kernel
theorem dX8_seed_23 : decode cX8_seed 23 = .ok (.iload_n 2, 1) := by decide +kernel
theorem dX8_seed_24 : decode cX8_seed 24 = .ok (.ireturn, 1) := by decide +kernel
theorem dX8_keep_0 : decode cX8_keep 0 = .ok (.aload_n 0, 1) := by decide +kernel
theorem dX8_keep_1 : decode cX8_keep 1 = .ok (.iload_n 1, 1) := by decide +kernel
theorem dX8_keep_2 : decode cX8_keep 2 = .ok (.invokevirtual 268, 3) := by decide +kernel
theorem dX8_keep_5 : decode cX8_keep 5 = .ok (.astore_n 2, 1) := by decide +kernel
theorem dX8_keep_6 : decode cX8_keep 6 = .ok (.aload_n 2, 1) := by decide +kernel
theorem dX8_keep_7 : decode cX8_keep 7 = .ok (.ifnonnull 6, 3) := by decide +kernel
theorem dX8_keep_10 : decode cX8_keep 10 = .ok (.ldc 143, 2) := by decide +kernel
theorem dX8_keep_12 : decode cX8_keep 12 = .ok (.ireturn, 1) := by decide +kernel
theorem dX8_keep_13 : decode cX8_keep 13 = .ok (.aload_n 2, 1) := by decide +kernel
theorem dX8_keep_14 : decode cX8_keep 14 = .ok (.aload_n 0, 1) := by decide +kernel
theorem dX8_keep_15 : decode cX8_keep 15 = .ok (.getfield 19, 3) := by decide +kernel
theorem dX8_keep_18 : decode cX8_keep 18 = .ok (.aload_n 0, 1) := by decide +kernel
theorem dX8_keep_19 : decode cX8_keep 19 = .ok (.getfield 57, 3) := by decide +kernel
theorem dX8_keep_22 : decode cX8_keep 22 = .ok (.getfield 265, 3) := by decide +kernel
theorem dX8_keep_25 : decode cX8_keep 25 = .ok (.invokevirtual 272, 3) := by decide +kernel
theorem dX8_keep_28 : decode cX8_keep 28 = .ok (.aload_n 0, 1) := by decide +kernel
theorem dX8_keep_29 : decode cX8_keep 29 = .ok (.getfield 43, 3) := by decide +kernel
theorem dX8_keep_32 : decode cX8_keep 32 = .ok (.invokevirtual 81, 3) := by decide +kernel
theorem dX8_keep_35 : decode cX8_keep 35 = .ok (.iconst 1, 1) := by decide +kernel
theorem dX8_keep_36 : decode cX8_keep 36 = .ok (.ireturn, 1) := by decide +kernel
theorem dX8_goBack_0 : decode cX8_goBack 0 = .ok (.aload_n 0, 1) := by decide +kernel
theorem dX8_goBack_1 : decode cX8_goBack 1 = .ok (.iload_n 1, 1) := by decide +kernel
theorem dX8_goBack_2 : decode cX8_goBack 2 = .ok (.invokevirtual 268, 3) := by decide +kernel
theorem dX8_goBack_5 : decode cX8_goBack 5 = .ok (.astore_n 2, 1) := by decide +kernel
theorem dX8_goBack_6 : decode cX8_goBack 6 = .ok (.aload_n 2, 1) := by decide +kernel
theorem dX8_goBack_7 : decode cX8_goBack 7 = .ok (.ifnonnull 6, 3) := by decide +kernel
theorem dX8_goBack_10 : decode cX8_goBack 10 = .ok (.ldc 143, 2) := by decide +kernel
theorem dX8_goBack_12 : decode cX8_goBack 12 = .ok (.ireturn, 1) := by decide +kernel
theorem dX8_goBack_13 : decode cX8_goBack 13 = .ok (.aload_n 2, 1) := by decide +kernel
theorem dX8_goBack_14 : decode cX8_goBack 14 = .ok (.getfield 276, 3) := by decide +kernel
theorem dX8_goBack_17 : decode cX8_goBack 17 = .ok (.ifCond .ne 6, 3) := by decide +kernel
theorem dX8_goBack_20 : decode cX8_goBack 20 = .ok (.ldc 192, 2) := by decide +kernel
theorem dX8_goBack_22 : decode cX8_goBack 22 = .ok (.ireturn, 1) := by decide +kernel
theorem dX8_goBack_23 : decode cX8_goBack 23 = .ok (.aload_n 0, 1) := by decide +kernel
theorem dX8_goBack_24 : decode cX8_goBack 24 = .ok (.getfield 19, 3) := by decide +kernel
theorem dX8_goBack_27 : decode cX8_goBack 27 = .ok (.aload_n 2, 1) := by decide +kernel
theorem dX8_goBack_28 : decode cX8_goBack 28 = .ok (.getfield 280, 3) := by decide +kernel
theorem dX8_goBack_31 : decode cX8_goBack 31 = .ok (.invokevirtual 77, 3) := by decide +kernel
theorem dX8_goBack_34 : decode cX8_goBack 34 = .ok (.aload_n 0, 1) := by decide +kernel
theorem dX8_goBack_35 : decode cX8_goBack 35 = .ok (.getfield 57, 3) := by decide +kernel
theorem dX8_goBack_38 : decode cX8_goBack 38 = .ok (.aload_n 2, 1) := by decide +kernel
theorem dX8_goBack_39 : decode cX8_goBack 39 = .ok (.getfield 281, 3) := by decide +kernel
theorem dX8_goBack_42 : decode cX8_goBack 42 = .ok (.putfield 265, 3) := by decide +kernel
theorem dX8_goBack_45 : decode cX8_goBack 45 = .ok (.aload_n 0, 1) := by decide +kernel
theorem dX8_goBack_46 : decode cX8_goBack 46 = .ok (.getfield 43, 3) := by decide +kernel
theorem dX8_goBack_49 : decode cX8_goBack 49 = .ok (.invokevirtual 81, 3) := by decide +kernel
theorem dX8_goBack_52 : decode cX8_goBack 52 = .ok (.iconst 1, 1) := by decide +kernel
theorem dX8_goBack_53 : decode cX8_goBack 53 = .ok (.ireturn, 1) := by decide +kernel
theorem dX8_imageAt_0 : decode cX8_imageAt 0 = .ok (.iload_n 1, 1) := by decide +kernel
theorem dX8_imageAt_1 : decode cX8_imageAt 1 = .ok (.ifCond .lt 21, 3) := by decide +kernel
theorem dX8_imageAt_4 : decode cX8_imageAt 4 = .ok (.iload_n 1, 1) := by decide +kernel
theorem dX8_imageAt_5 : decode cX8_imageAt 5 = .ok (.aload_n 0, 1) := by decide +kernel
theorem dX8_imageAt_6 : decode cX8_imageAt 6 = .ok (.getfield 63, 3) := by decide +kernel
theorem dX8_imageAt_9 : decode cX8_imageAt 9 = .ok (.arraylength, 1) := by decide +kernel
theorem dX8_imageAt_10 : decode cX8_imageAt 10 = .ok (.if_icmp .ge 12, 3) := by decide +kernel
theorem dX8_imageAt_13 : decode cX8_imageAt 13 = .ok (.aload_n 0, 1) := by decide +kernel
theorem dX8_imageAt_14 : decode cX8_imageAt 14 = .ok (.getfield 63, 3) := by decide +kernel
theorem dX8_imageAt_17 : decode cX8_imageAt 17 = .ok (.iload_n 1, 1) := by decide +kernel
theorem dX8_imageAt_18 : decode cX8_imageAt 18 = .ok (.aaload, 1) := by decide +kernel
theorem dX8_imageAt_19 : decode cX8_imageAt 19 = .ok (.goto 4, 3) := by decide +kernel
theorem dX8_imageAt_22 : decode cX8_imageAt 22 = .ok (.aconst_null, 1) := by decide +kernel
theorem dX8_imageAt_23 : decode cX8_imageAt 23 = .ok (.areturn, 1) := by decide +kernel
theorem dX8_dealt_0 : decode cX8_dealt 0 = .ok (.aload_n 0, 1) := by decide +kernel
theorem dX8_dealt_1 : decode cX8_dealt 1 = .ok (.getfield 29, 3) := by decide +kernel
theorem dX8_dealt_4 : decode cX8_dealt 4 = .ok (.aload_n 0, 1) := by decide +kernel
theorem dX8_dealt_5 : decode cX8_dealt 5 = .ok (.getfield 19, 3) := by decide +kernel
theorem dX8_dealt_8 : decode cX8_dealt 8 = .ok (.invokevirtual 225, 3) := by decide +kernel
theorem dX8_dealt_11 : decode cX8_dealt 11 = .ok (.aload_n 0, 1) := by decide +kernel
theorem dX8_dealt_12 : decode cX8_dealt 12 = .ok (.getfield 29, 3) := by decide +kernel
theorem dX8_dealt_15 : decode cX8_dealt 15 = .ok (.areturn, 1) := by decide +kernel
theorem dX8_weighed_0 : decode cX8_weighed 0 = .ok (.aload_n 0, 1) := by decide +kernel
theorem dX8_weighed_1 : decode cX8_weighed 1 = .ok (.getfield 36, 3) := by decide +kernel
theorem dX8_weighed_4 : decode cX8_weighed 4 = .ok (.aload_n 0, 1) := by decide +kernel
theorem dX8_weighed_5 : decode cX8_weighed 5 = .ok (.getfield 19, 3) := by decide +kernel
theorem dX8_weighed_8 : decode cX8_weighed 8 = .ok (.invokevirtual 282, 3) := by decide +kernel
theorem dX8_weighed_11 : decode cX8_weighed 11 = .ok (.aload_n 0, 1) := by decide +kernel
theorem dX8_weighed_12 : decode cX8_weighed 12 = .ok (.getfield 36, 3) := by decide +kernel
theorem dX8_weighed_15 : decode cX8_weighed 15 = .ok (.areturn, 1) := by decide +kernel
theorem dX8_moveAll_0 : decode cX8_moveAll 0 = .ok (.aload_n 0, 1) := by decide +kernel
theorem dX8_moveAll_1 : decode cX8_moveAll 1 = .ok (.getfield 29, 3) := by decide +kernel
theorem dX8_moveAll_4 : decode cX8_moveAll 4 = .ok (.aload_n 0, 1) := by decide +kernel
theorem dX8_moveAll_5 : decode cX8_moveAll 5 = .ok (.getfield 19, 3) := by decide +kernel
theorem dX8_moveAll_8 : decode cX8_moveAll 8 = .ok (.invokevirtual 225, 3) := by decide +kernel
theorem dX8_moveAll_11 : decode cX8_moveAll 11 = .ok (.iconst 0, 1) := by decide +kernel
theorem dX8_moveAll_12 : decode cX8_moveAll 12 = .ok (.istore_n 1, 1) := by decide +kernel
theorem dX8_moveAll_13 : decode cX8_moveAll 13 = .ok (.iconst 0, 1) := by decide +kernel
theorem dX8_moveAll_14 : decode cX8_moveAll 14 = .ok (.istore_n 2, 1) := by decide +kernel
theorem dX8_moveAll_15 : decode cX8_moveAll 15 = .ok (.iload_n 2, 1) := by decide +kernel
theorem dX8_moveAll_16 : decode cX8_moveAll 16 = .ok (.aload_n 0, 1) := by decide +kernel
theorem dX8_moveAll_17 : decode cX8_moveAll 17 = .ok (.getfield 19, 3) := by decide +kernel
theorem dX8_moveAll_20 : decode cX8_moveAll 20 = .ok (.getfield 90, 3) := by decide +kernel
theorem dX8_moveAll_23 : decode cX8_moveAll 23 = .ok (.if_icmp .ge 42, 3) := by decide +kernel
theorem dX8_moveAll_26 : decode cX8_moveAll 26 = .ok (.aload_n 0, 1) := by decide +kernel
theorem dX8_moveAll_27 : decode cX8_moveAll 27 = .ok (.getfield 29, 3) := by decide +kernel
theorem dX8_moveAll_30 : decode cX8_moveAll 30 = .ok (.iload_n 2, 1) := by decide +kernel
theorem dX8_moveAll_31 : decode cX8_moveAll 31 = .ok (.invokevirtual 153, 3) := by decide +kernel
theorem dX8_moveAll_34 : decode cX8_moveAll 34 = .ok (.istore_n 3, 1) := by decide +kernel
theorem dX8_moveAll_35 : decode cX8_moveAll 35 = .ok (.iload_n 3, 1) := by decide +kernel
theorem dX8_moveAll_36 : decode cX8_moveAll 36 = .ok (.aload_n 0, 1) := by decide +kernel
theorem dX8_moveAll_37 : decode cX8_moveAll 37 = .ok (.getfield 19, 3) := by decide +kernel
theorem dX8_moveAll_40 : decode cX8_moveAll 40 = .ok (.iload_n 2, 1) := by decide +kernel
theorem dX8_moveAll_41 : decode cX8_moveAll 41 = .ok (.invokevirtual 144, 3) := by decide +kernel
theorem dX8_moveAll_44 : decode cX8_moveAll 44 = .ok (.if_icmp .eq 15, 3) := by decide +kernel
theorem dX8_moveAll_47 : decode cX8_moveAll 47 = .ok (.aload_n 0, 1) := by decide +kernel
theorem dX8_moveAll_48 : decode cX8_moveAll 48 = .ok (.getfield 19, 3) := by decide +kernel
theorem dX8_moveAll_51 : decode cX8_moveAll 51 = .ok (.iload_n 2, 1) := by decide +kernel
theorem dX8_moveAll_52 : decode cX8_moveAll 52 = .ok (.iload_n 3, 1) := by decide +kernel
theorem dX8_moveAll_53 : decode cX8_moveAll 53 = .ok (.invokevirtual 203, 3) := by decide +kernel
theorem dX8_moveAll_56 : decode cX8_moveAll 56 = .ok (.iinc 1 1, 3) := by decide +kernel
theorem dX8_moveAll_59 : decode cX8_moveAll 59 = .ok (.iinc 2 1, 3) := by decide +kernel
theorem dX8_moveAll_62 : decode cX8_moveAll 62 = .ok (.goto (-47), 3) := by decide +kernel
theorem dX8_moveAll_65 : decode cX8_moveAll 65 = .ok (.iload_n 1, 1) := by decide +kernel
theorem dX8_moveAll_66 : decode cX8_moveAll 66 = .ok (.ireturn, 1) := by decide +kernel
theorem dX8_drawDeed_0 : decode cX8_drawDeed 0 = .ok (.aload_n 0, 1) := by decide +kernel
theorem dX8_drawDeed_1 : decode cX8_drawDeed 1 = .ok (.getfield 57, 3) := by decide +kernel
theorem dX8_drawDeed_4 : decode cX8_drawDeed 4 = .ok (.iconst 4, 1) := by decide +kernel
theorem dX8_drawDeed_5 : decode cX8_drawDeed 5 = .ok (.invokevirtual 285, 3) := by decide +kernel
theorem dX8_drawDeed_8 : decode cX8_drawDeed 8 = .ok (.istore_n 1, 1) := by decide +kernel
theorem dX8_drawDeed_9 : decode cX8_drawDeed 9 = .ok (.aload_n 0, 1) := by decide +kernel
theorem dX8_drawDeed_10 : decode cX8_drawDeed 10 = .ok (.getfield 57, 3) := by decide +kernel
theorem dX8_drawDeed_13 : decode cX8_drawDeed 13 = .ok (.aload_n 0, 1) := by decide +kernel
theorem dX8_drawDeed_14 : decode cX8_drawDeed 14 = .ok (.getfield 19, 3) := by decide +kernel
theorem dX8_drawDeed_17 : decode cX8_drawDeed 17 = .ok (.getfield 90, 3) := by decide +kernel
theorem dX8_drawDeed_20 : decode cX8_drawDeed 20 = .ok (.invokevirtual 285, 3) := by decide +kernel
theorem dX8_drawDeed_23 : decode cX8_drawDeed 23 = .ok (.istore_n 2, 1) := by decide +kernel
theorem dX8_drawDeed_24 : decode cX8_drawDeed 24 = .ok (.iload_n 1, 1) := by decide +kernel
theorem dX8_drawDeed_25 : decode cX8_drawDeed 25 = .ok (.ifCond .ne 39, 3) := by decide +kernel
theorem dX8_drawDeed_28 : decode cX8_drawDeed 28 = .ok (.aload_n 0, 1) := by decide +kernel
theorem dX8_drawDeed_29 : decode cX8_drawDeed 29 = .ok (.getfield 57, 3) := by decide +kernel
theorem dX8_drawDeed_32 : decode cX8_drawDeed 32 = .ok (.aload_n 0, 1) := by decide +kernel
theorem dX8_drawDeed_33 : decode cX8_drawDeed 33 = .ok (.getfield 19, 3) := by decide +kernel
theorem dX8_drawDeed_36 : decode cX8_drawDeed 36 = .ok (.getfield 97, 3) := by decide +kernel
theorem dX8_drawDeed_39 : decode cX8_drawDeed 39 = .ok (.invokevirtual 285, 3) := by decide +kernel
theorem dX8_drawDeed_42 : decode cX8_drawDeed 42 = .ok (.istore_n 3, 1) := by decide +kernel
theorem dX8_drawDeed_43 : decode cX8_drawDeed 43 = .ok (.aload_n 0, 1) := by decide +kernel
theorem dX8_drawDeed_44 : decode cX8_drawDeed 44 = .ok (.getfield 19, 3) := by decide +kernel
theorem dX8_drawDeed_47 : decode cX8_drawDeed 47 = .ok (.iload_n 2, 1) := by decide +kernel
theorem dX8_drawDeed_48 : decode cX8_drawDeed 48 = .ok (.iload_n 3, 1) := by decide +kernel
theorem dX8_drawDeed_49 : decode cX8_drawDeed 49 = .ok (.aload_n 0, 1) := by decide +kernel
theorem dX8_drawDeed_50 : decode cX8_drawDeed 50 = .ok (.getfield 57, 3) := by decide +kernel
theorem dX8_drawDeed_53 : decode cX8_drawDeed 53 = .ok (.bipush 8, 2) := by decide +kernel
theorem dX8_drawDeed_55 : decode cX8_drawDeed 55 = .ok (.invokevirtual 285, 3) := by decide +kernel
theorem dX8_drawDeed_58 : decode cX8_drawDeed 58 = .ok (.invokevirtual 185, 3) := by decide +kernel
theorem dX8_drawDeed_61 : decode cX8_drawDeed 61 = .ok (.goto 68, 3) := by decide +kernel
theorem dX8_drawDeed_64 : decode cX8_drawDeed 64 = .ok (.iload_n 1, 1) := by decide +kernel
theorem dX8_drawDeed_65 : decode cX8_drawDeed 65 = .ok (.iconst 1, 1) := by decide +kernel
theorem dX8_drawDeed_66 : decode cX8_drawDeed 66 = .ok (.if_icmp .ne 28, 3) := by decide +kernel
theorem dX8_drawDeed_69 : decode cX8_drawDeed 69 = .ok (.aload_n 0, 1) := by decide +kernel
theorem dX8_drawDeed_70 : decode cX8_drawDeed 70 = .ok (.getfield 19, 3) := by decide +kernel
theorem dX8_drawDeed_73 : decode cX8_drawDeed 73 = .ok (.iload_n 2, 1) := by decide +kernel
theorem dX8_drawDeed_74 : decode cX8_drawDeed 74 = .ok (.aload_n 0, 1) := by decide +kernel
theorem dX8_drawDeed_75 : decode cX8_drawDeed 75 = .ok (.getfield 57, 3) := by decide +kernel
theorem dX8_drawDeed_78 : decode cX8_drawDeed 78 = .ok (.aload_n 0, 1) := by decide +kernel
theorem dX8_drawDeed_79 : decode cX8_drawDeed 79 = .ok (.getfield 19, 3) := by decide +kernel
theorem dX8_drawDeed_82 : decode cX8_drawDeed 82 = .ok (.getfield 97, 3) := by decide +kernel
theorem dX8_drawDeed_85 : decode cX8_drawDeed 85 = .ok (.invokevirtual 285, 3) := by decide +kernel
theorem dX8_drawDeed_88 : decode cX8_drawDeed 88 = .ok (.invokevirtual 193, 3) := by decide +kernel
theorem dX8_drawDeed_91 : decode cX8_drawDeed 91 = .ok (.goto 38, 3) := by decide +kernel
theorem dX8_drawDeed_94 : decode cX8_drawDeed 94 = .ok (.iload_n 1, 1) := by decide +kernel
theorem dX8_drawDeed_95 : decode cX8_drawDeed 95 = .ok (.iconst 2, 1) := by decide +kernel
theorem dX8_drawDeed_96 : decode cX8_drawDeed 96 = .ok (.if_icmp .ne 28, 3) := by decide +kernel
theorem dX8_drawDeed_99 : decode cX8_drawDeed 99 = .ok (.aload_n 0, 1) := by decide +kernel
theorem dX8_drawDeed_100 : decode cX8_drawDeed 100 = .ok (.getfield 19, 3) := by decide +kernel
theorem dX8_drawDeed_103 : decode cX8_drawDeed 103 = .ok (.iload_n 2, 1) := by decide +kernel
theorem dX8_drawDeed_104 : decode cX8_drawDeed 104 = .ok (.aload_n 0, 1) := by decide +kernel
theorem dX8_drawDeed_105 : decode cX8_drawDeed 105 = .ok (.getfield 57, 3) := by decide +kernel
theorem dX8_drawDeed_108 : decode cX8_drawDeed 108 = .ok (.aload_n 0, 1) := by decide +kernel
theorem dX8_drawDeed_109 : decode cX8_drawDeed 109 = .ok (.getfield 19, 3) := by decide +kernel
theorem dX8_drawDeed_112 : decode cX8_drawDeed 112 = .ok (.getfield 90, 3) := by decide +kernel
theorem dX8_drawDeed_115 : decode cX8_drawDeed 115 = .ok (.invokevirtual 285, 3) := by decide +kernel
theorem dX8_drawDeed_118 : decode cX8_drawDeed 118 = .ok (.invokevirtual 197, 3) := by decide +kernel
theorem dX8_drawDeed_121 : decode cX8_drawDeed 121 = .ok (.goto 8, 3) := by decide +kernel
