theorem dX3_seatsOf_9 : decode cX3_seatsOf 9 = .ok (.if_icmp .ge 30, 3) := by decide +kernel
theorem dX3_seatsOf_12 : decode cX3_seatsOf 12 = .ok (.iload_n 1, 1) := by decide +kernel
theorem dX3_seatsOf_13 : decode cX3_seatsOf 13 = .ok (.iload_n 3, 1) := by decide +kernel
theorem dX3_seatsOf_14 : decode cX3_seatsOf 14 = .ok (.invokestatic 55, 3) := by decide +kernel
theorem dX3_seatsOf_17 : decode cX3_seatsOf 17 = .ok (.ifCond .eq 16, 3) := by decide +kernel
theorem dX3_seatsOf_20 : decode cX3_seatsOf 20 = .ok (.iload_n 2, 1) := by decide +kernel
theorem dX3_seatsOf_21 : decode cX3_seatsOf 21 = .ok (.aload_n 0, 1) := by decide +kernel
theorem dX3_seatsOf_22 : decode cX3_seatsOf 22 = .ok (.getfield 9, 3) := by decide +kernel
theorem dX3_seatsOf_25 : decode cX3_seatsOf 25 = .ok (.iload_n 3, 1) := by decide +kernel
theorem dX3_seatsOf_26 : decode cX3_seatsOf 26 = .ok (.invokestatic 51, 3) := by decide +kernel
theorem dX3_seatsOf_29 : decode cX3_seatsOf 29 = .ok (.invokestatic 59, 3) := by decide +kernel
theorem dX3_seatsOf_32 : decode cX3_seatsOf 32 = .ok (.istore_n 2, 1) := by decide +kernel
theorem dX3_seatsOf_33 : decode cX3_seatsOf 33 = .ok (.iinc 3 1, 3) := by decide +kernel
theorem dX3_seatsOf_36 : decode cX3_seatsOf 36 = .ok (.goto (-32), 3) := by decide +kernel
theorem dX3_seatsOf_39 : decode cX3_seatsOf 39 = .ok (.iload_n 2, 1) := by decide +kernel
theorem dX3_seatsOf_40 : decode cX3_seatsOf 40 = .ok (.ireturn, 1) := by decide +kernel
theorem dX3_emptyRooms_0 : decode cX3_emptyRooms 0 = .ok (.aload_n 0, 1) := by decide +kernel
theorem dX3_emptyRooms_1 : decode cX3_emptyRooms 1 = .ok (.getfield 24, 3) := by decide +kernel
theorem dX3_emptyRooms_4 : decode cX3_emptyRooms 4 = .ok (.invokestatic 62, 3) := by decide +kernel
theorem dX3_emptyRooms_7 : decode cX3_emptyRooms 7 = .ok (.aload_n 0, 1) := by decide +kernel
theorem dX3_emptyRooms_8 : decode cX3_emptyRooms 8 = .ok (.aload_n 0, 1) := by decide +kernel
theorem dX3_emptyRooms_9 : decode cX3_emptyRooms 9 = .ok (.getfield 28, 3) := by decide +kernel
theorem dX3_emptyRooms_12 : decode cX3_emptyRooms 12 = .ok (.invokestatic 62, 3) := by decide +kernel
theorem dX3_emptyRooms_15 : decode cX3_emptyRooms 15 = .ok (.invokevirtual 66, 3) := by decide +kernel
theorem dX3_emptyRooms_18 : decode cX3_emptyRooms 18 = .ok (.iconst (-1), 1) := by decide +kernel
theorem dX3_emptyRooms_19 : decode cX3_emptyRooms 19 = .ok (.ixor, 1) := by decide +kernel
theorem dX3_emptyRooms_20 : decode cX3_emptyRooms 20 = .ok (.iand, 1) := by decide +kernel
theorem dX3_emptyRooms_21 : decode cX3_emptyRooms 21 = .ok (.ireturn, 1) := by decide +kernel
theorem dX3_amount_0 : decode cX3_amount 0 = .ok (.aload_n 0, 1) := by decide +kernel
theorem dX3_amount_1 : decode cX3_amount 1 = .ok (.getfield 15, 3) := by decide +kernel
theorem dX3_amount_4 : decode cX3_amount 4 = .ok (.iload_n 1, 1) := by decide +kernel
theorem dX3_amount_5 : decode cX3_amount 5 = .ok (.invokestatic 51, 3) := by decide +kernel
theorem dX3_amount_8 : decode cX3_amount 8 = .ok (.ireturn, 1) := by decide +kernel
theorem dX3_liking_0 : decode cX3_liking 0 = .ok (.iload_n 2, 1) := by decide +kernel
theorem dX3_liking_1 : decode cX3_liking 1 = .ok (.ifCond .lt 31, 3) := by decide +kernel
theorem dX3_liking_4 : decode cX3_liking 4 = .ok (.iload_n 2, 1) := by decide +kernel
theorem dX3_liking_5 : decode cX3_liking 5 = .ok (.aload_n 0, 1) := by decide +kernel
theorem dX3_liking_6 : decode cX3_liking 6 = .ok (.getfield 15, 3) := by decide +kernel
theorem dX3_liking_9 : decode cX3_liking 9 = .ok (.iload_n 1, 1) := by decide +kernel
theorem dX3_liking_10 : decode cX3_liking 10 = .ok (.invokestatic 51, 3) := by decide +kernel
theorem dX3_liking_13 : decode cX3_liking 13 = .ok (.if_icmp .ge 19, 3) := by decide +kernel
theorem dX3_liking_16 : decode cX3_liking 16 = .ok (.aload_n 0, 1) := by decide +kernel
theorem dX3_liking_17 : decode cX3_liking 17 = .ok (.getfield 18, 3) := by decide +kernel
theorem dX3_liking_20 : decode cX3_liking 20 = .ok (.iload_n 1, 1) := by decide +kernel
theorem dX3_liking_21 : decode cX3_liking 21 = .ok (.bipush 8, 2) := by decide +kernel
theorem dX3_liking_23 : decode cX3_liking 23 = .ok (.imul, 1) := by decide +kernel
theorem dX3_liking_24 : decode cX3_liking 24 = .ok (.iload_n 2, 1) := by decide +kernel
theorem dX3_liking_25 : decode cX3_liking 25 = .ok (.iadd, 1) := by decide +kernel
theorem dX3_liking_26 : decode cX3_liking 26 = .ok (.invokestatic 51, 3) := by decide +kernel
theorem dX3_liking_29 : decode cX3_liking 29 = .ok (.goto 4, 3) := by decide +kernel
theorem dX3_liking_32 : decode cX3_liking 32 = .ok (.iconst (-1), 1) := by decide +kernel
theorem dX3_liking_33 : decode cX3_liking 33 = .ok (.ireturn, 1) := by decide +kernel
theorem dX3_likingPlace_0 : decode cX3_likingPlace 0 = .ok (.aload_n 0, 1) := by decide +kernel
theorem dX3_likingPlace_1 : decode cX3_likingPlace 1 = .ok (.getfield 15, 3) := by decide +kernel
theorem dX3_likingPlace_4 : decode cX3_likingPlace 4 = .ok (.iload_n 1, 1) := by decide +kernel
theorem dX3_likingPlace_5 : decode cX3_likingPlace 5 = .ok (.invokestatic 51, 3) := by decide +kernel
theorem dX3_likingPlace_8 : decode cX3_likingPlace 8 = .ok (.istore_n 3, 1) := by decide +kernel
theorem dX3_likingPlace_9 : decode cX3_likingPlace 9 = .ok (.iconst 0, 1) := by decide +kernel
theorem dX3_likingPlace_10 : decode cX3_likingPlace 10 = .ok (.istore 4, 2) := by decide +kernel
theorem dX3_likingPlace_12 : decode cX3_likingPlace 12 = .ok (.iload 4, 2) := by decide +kernel
theorem dX3_likingPlace_14 : decode cX3_likingPlace 14 = .ok (.iload_n 3, 1) := by decide +kernel
theorem dX3_likingPlace_15 : decode cX3_likingPlace 15 = .ok (.if_icmp .ge 30, 3) := by decide +kernel
theorem dX3_likingPlace_18 : decode cX3_likingPlace 18 = .ok (.aload_n 0, 1) := by decide +kernel
theorem dX3_likingPlace_19 : decode cX3_likingPlace 19 = .ok (.getfield 18, 3) := by decide +kernel
theorem dX3_likingPlace_22 : decode cX3_likingPlace 22 = .ok (.iload_n 1, 1) := by decide +kernel
theorem dX3_likingPlace_23 : decode cX3_likingPlace 23 = .ok (.bipush 8, 2) := by decide +kernel
theorem dX3_likingPlace_25 : decode cX3_likingPlace 25 = .ok (.imul, 1) := by decide +kernel
theorem dX3_likingPlace_26 : decode cX3_likingPlace 26 = .ok (.iload 4, 2) := by decide +kernel
theorem dX3_likingPlace_28 : decode cX3_likingPlace 28 = .ok (.iadd, 1) := by decide +kernel
theorem dX3_likingPlace_29 : decode cX3_likingPlace 29 = .ok (.invokestatic 51, 3) := by decide +kernel
theorem dX3_likingPlace_32 : decode cX3_likingPlace 32 = .ok (.iload_n 2, 1) := by decide +kernel
theorem dX3_likingPlace_33 : decode cX3_likingPlace 33 = .ok (.if_icmp .ne 6, 3) := by decide +kernel
theorem dX3_likingPlace_36 : decode cX3_likingPlace 36 = .ok (.iload 4, 2) := by decide +kernel
theorem dX3_likingPlace_38 : decode cX3_likingPlace 38 = .ok (.ireturn, 1) := by decide +kernel
theorem dX3_likingPlace_39 : decode cX3_likingPlace 39 = .ok (.iinc 4 1, 3) := by decide +kernel
theorem dX3_likingPlace_42 : decode cX3_likingPlace 42 = .ok (.goto (-30), 3) := by decide +kernel
theorem dX3_likingPlace_45 : decode cX3_likingPlace 45 = .ok (.iconst (-1), 1) := by decide +kernel
theorem dX3_likingPlace_46 : decode cX3_likingPlace 46 = .ok (.ireturn, 1) := by decide +kernel
theorem dX3_addLiking_0 : decode cX3_addLiking 0 = .ok (.aload_n 0, 1) := by decide +kernel
theorem dX3_addLiking_1 : decode cX3_addLiking 1 = .ok (.getfield 15, 3) := by decide +kernel
theorem dX3_addLiking_4 : decode cX3_addLiking 4 = .ok (.iload_n 1, 1) := by decide +kernel
theorem dX3_addLiking_5 : decode cX3_addLiking 5 = .ok (.invokestatic 51, 3) := by decide +kernel
theorem dX3_addLiking_8 : decode cX3_addLiking 8 = .ok (.istore_n 3, 1) := by decide +kernel
theorem dX3_addLiking_9 : decode cX3_addLiking 9 = .ok (.iload_n 3, 1) := by decide +kernel
theorem dX3_addLiking_10 : decode cX3_addLiking 10 = .ok (.ifCond .lt 34, 3) := by decide +kernel
theorem dX3_addLiking_13 : decode cX3_addLiking 13 = .ok (.iload_n 3, 1) := by decide +kernel
theorem dX3_addLiking_14 : decode cX3_addLiking 14 = .ok (.bipush 8, 2) := by decide +kernel
theorem dX3_addLiking_16 : decode cX3_addLiking 16 = .ok (.if_icmp .ge 28, 3) := by decide +kernel
theorem dX3_addLiking_19 : decode cX3_addLiking 19 = .ok (.aload_n 0, 1) := by decide +kernel
theorem dX3_addLiking_20 : decode cX3_addLiking 20 = .ok (.getfield 18, 3) := by decide +kernel
theorem dX3_addLiking_23 : decode cX3_addLiking 23 = .ok (.iload_n 1, 1) := by decide +kernel
theorem dX3_addLiking_24 : decode cX3_addLiking 24 = .ok (.bipush 8, 2) := by decide +kernel
theorem dX3_addLiking_26 : decode cX3_addLiking 26 = .ok (.imul, 1) := by decide +kernel
theorem dX3_addLiking_27 : decode cX3_addLiking 27 = .ok (.iload_n 3, 1) := by decide +kernel
theorem dX3_addLiking_28 : decode cX3_addLiking 28 = .ok (.iadd, 1) := by decide +kernel
theorem dX3_addLiking_29 : decode cX3_addLiking 29 = .ok (.iload_n 2, 1) := by decide +kernel
theorem dX3_addLiking_30 : decode cX3_addLiking 30 = .ok (.invokestatic 37, 3) := by decide +kernel
theorem dX3_addLiking_33 : decode cX3_addLiking 33 = .ok (.aload_n 0, 1) := by decide +kernel
theorem dX3_addLiking_34 : decode cX3_addLiking 34 = .ok (.getfield 15, 3) := by decide +kernel
theorem dX3_addLiking_37 : decode cX3_addLiking 37 = .ok (.iload_n 1, 1) := by decide +kernel
theorem dX3_addLiking_38 : decode cX3_addLiking 38 = .ok (.iload_n 3, 1) := by decide +kernel
theorem dX3_addLiking_39 : decode cX3_addLiking 39 = .ok (.iconst 1, 1) := by decide +kernel
theorem dX3_addLiking_40 : decode cX3_addLiking 40 = .ok (.iadd, 1) := by decide +kernel
theorem dX3_addLiking_41 : decode cX3_addLiking 41 = .ok (.invokestatic 37, 3) := by decide +kernel
theorem dX3_addLiking_44 : decode cX3_addLiking 44 = .ok (.return_, 1) := by decide +kernel
theorem dX3_clearLikings_0 : decode cX3_clearLikings 0 = .ok (.aload_n 0, 1) := by decide +kernel
theorem dX3_clearLikings_1 : decode cX3_clearLikings 1 = .ok (.getfield 15, 3) := by decide +kernel
theorem dX3_clearLikings_4 : decode cX3_clearLikings 4 = .ok (.iload_n 1, 1) := by decide +kernel
theorem dX3_clearLikings_5 : decode cX3_clearLikings 5 = .ok (.iconst 0, 1) := by decide +kernel
theorem dX3_clearLikings_6 : decode cX3_clearLikings 6 = .ok (.invokestatic 37, 3) := by decide +kernel
theorem dX3_clearLikings_9 : decode cX3_clearLikings 9 = .ok (.return_, 1) := by decide +kernel
theorem dX3_dropLiking_0 : decode cX3_dropLiking 0 = .ok (.aload_n 0, 1) := by decide +kernel
theorem dX3_dropLiking_1 : decode cX3_dropLiking 1 = .ok (.iload_n 1, 1) := by decide +kernel
theorem dX3_dropLiking_2 : decode cX3_dropLiking 2 = .ok (.iload_n 2, 1) := by decide +kernel
theorem dX3_dropLiking_3 : decode cX3_dropLiking 3 = .ok (.invokevirtual 69, 3) := by decide +kernel
theorem dX3_dropLiking_6 : decode cX3_dropLiking 6 = .ok (.istore_n 3, 1) := by decide +kernel
theorem dX3_dropLiking_7 : decode cX3_dropLiking 7 = .ok (.iload_n 3, 1) := by decide +kernel
theorem dX3_dropLiking_8 : decode cX3_dropLiking 8 = .ok (.iconst (-1), 1) := by decide +kernel
theorem dX3_dropLiking_9 : decode cX3_dropLiking 9 = .ok (.if_icmp .ne 4, 3) := by decide +kernel
theorem dX3_dropLiking_12 : decode cX3_dropLiking 12 = .ok (.return_, 1) := by decide +kernel
theorem dX3_dropLiking_13 : decode cX3_dropLiking 13 = .ok (.iload_n 1, 1) := by decide +kernel
theorem dX3_dropLiking_14 : decode cX3_dropLiking 14 = .ok (.bipush 8, 2) := by decide +kernel
theorem dX3_dropLiking_16 : decode cX3_dropLiking 16 = .ok (.imul, 1) := by decide +kernel
theorem dX3_dropLiking_17 : decode cX3_dropLiking 17 = .ok (.istore 4, 2) := by decide +kernel
theorem dX3_dropLiking_19 : decode cX3_dropLiking 19 = .ok (.aload_n 0, 1) := by decide +kernel
theorem dX3_dropLiking_20 : decode cX3_dropLiking 20 = .ok (.getfield 15, 3) := by decide +kernel
theorem dX3_dropLiking_23 : decode cX3_dropLiking 23 = .ok (.iload_n 1, 1) := by decide +kernel
theorem dX3_dropLiking_24 : decode cX3_dropLiking 24 = .ok (.invokestatic 51, 3) := by decide +kernel
theorem dX3_dropLiking_27 : decode cX3_dropLiking 27 = .ok (.iconst 1, 1) := by decide +kernel
theorem dX3_dropLiking_28 : decode cX3_dropLiking 28 = .ok (.isub, 1) := by decide +kernel
theorem dX3_dropLiking_29 : decode cX3_dropLiking 29 = .ok (.istore 5, 2) := by decide +kernel
theorem dX3_dropLiking_31 : decode cX3_dropLiking 31 = .ok (.iload_n 3, 1) := by decide +kernel
theorem dX3_dropLiking_32 : decode cX3_dropLiking 32 = .ok (.istore 6, 2) := by decide +kernel
theorem dX3_dropLiking_34 : decode cX3_dropLiking 34 = .ok (.iload 6, 2) := by decide +kernel
theorem dX3_dropLiking_36 : decode cX3_dropLiking 36 = .ok (.iload 5, 2) := by decide +kernel
theorem dX3_dropLiking_38 : decode cX3_dropLiking 38 = .ok (.if_icmp .ge 35, 3) := by decide +kernel
theorem dX3_dropLiking_41 : decode cX3_dropLiking 41 = .ok (.aload_n 0, 1) := by decide +kernel
theorem dX3_dropLiking_42 : decode cX3_dropLiking 42 = .ok (.getfield 18, 3) := by decide +kernel
theorem dX3_dropLiking_45 : decode cX3_dropLiking 45 = .ok (.iload 4, 2) := by decide +kernel
theorem dX3_dropLiking_47 : decode cX3_dropLiking 47 = .ok (.iload 6, 2) := by decide +kernel
theorem dX3_dropLiking_49 : decode cX3_dropLiking 49 = .ok (.iadd, 1) := by decide +kernel
theorem dX3_dropLiking_50 : decode cX3_dropLiking 50 = .ok (.aload_n 0, 1) := by decide +kernel
theorem dX3_dropLiking_51 : decode cX3_dropLiking 51 = .ok (.getfield 18, 3) := by decide +kernel
theorem dX3_dropLiking_54 : decode cX3_dropLiking 54 = .ok (.iload 4, 2) := by decide +kernel
theorem dX3_dropLiking_56 : decode cX3_dropLiking 56 = .ok (.iload 6, 2) := by decide +kernel
theorem dX3_dropLiking_58 : decode cX3_dropLiking 58 = .ok (.iadd, 1) := by decide +kernel
theorem dX3_dropLiking_59 : decode cX3_dropLiking 59 = .ok (.iconst 1, 1) := by decide +kernel
theorem dX3_dropLiking_60 : decode cX3_dropLiking 60 = .ok (.iadd, 1) := by decide +kernel
theorem dX3_dropLiking_61 : decode cX3_dropLiking 61 = .ok (.invokestatic 51, 3) := by decide +kernel
theorem dX3_dropLiking_64 : decode cX3_dropLiking 64 = .ok (.invokestatic 37, 3) := by decide +kernel
theorem dX3_dropLiking_67 : decode cX3_dropLiking 67 = .ok (.iinc 6 1, 3) := by decide +kernel
theorem dX3_dropLiking_70 : decode cX3_dropLiking 70 = .ok (.goto (-36), 3) := by decide +kernel
theorem dX3_dropLiking_73 : decode cX3_dropLiking 73 = .ok (.aload_n 0, 1) := by decide +kernel
theorem dX3_dropLiking_74 : decode cX3_dropLiking 74 = .ok (.getfield 15, 3) := by decide +kernel
theorem dX3_dropLiking_77 : decode cX3_dropLiking 77 = .ok (.iload_n 1, 1) := by decide +kernel
theorem dX3_dropLiking_78 : decode cX3_dropLiking 78 = .ok (.iload 5, 2) := by decide +kernel
theorem dX3_dropLiking_80 : decode cX3_dropLiking 80 = .ok (.invokestatic 37, 3) := by decide +kernel
theorem dX3_dropLiking_83 : decode cX3_dropLiking 83 = .ok (.return_, 1) := by decide +kernel
theorem dX3_putLiking_0 : decode cX3_putLiking 0 = .ok (.aload_n 0, 1) := by decide +kernel
theorem dX3_putLiking_1 : decode cX3_putLiking 1 = .ok (.iload_n 1, 1) := by decide +kernel
theorem dX3_putLiking_2 : decode cX3_putLiking 2 = .ok (.iload_n 2, 1) := by decide +kernel
theorem dX3_putLiking_3 : decode cX3_putLiking 3 = .ok (.invokevirtual 72, 3) := by decide +kernel
theorem dX3_putLiking_6 : decode cX3_putLiking 6 = .ok (.iload_n 1, 1) := by decide +kernel
theorem dX3_putLiking_7 : decode cX3_putLiking 7 = .ok (.bipush 8, 2) := by decide +kernel
theorem dX3_putLiking_9 : decode cX3_putLiking 9 = .ok (.imul, 1) := by decide +kernel
theorem dX3_putLiking_10 : decode cX3_putLiking 10 = .ok (.istore 4, 2) := by decide +kernel
theorem dX3_putLiking_12 : decode cX3_putLiking 12 = .ok (.aload_n 0, 1) := by decide +kernel
theorem dX3_putLiking_13 : decode cX3_putLiking 13 = .ok (.getfield 15, 3) := by decide +kernel
theorem dX3_putLiking_16 : decode cX3_putLiking 16 = .ok (.iload_n 1, 1) := by decide +kernel
theorem dX3_putLiking_17 : decode cX3_putLiking 17 = .ok (.invokestatic 51, 3) := by decide +kernel
theorem dX3_putLiking_20 : decode cX3_putLiking 20 = .ok (.istore 5, 2) := by decide +kernel
theorem dX3_putLiking_22 : decode cX3_putLiking 22 = .ok (.iload_n 3, 1) := by decide +kernel
theorem dX3_putLiking_23 : decode cX3_putLiking 23 = .ok (.iload 5, 2) := by decide +kernel
theorem dX3_putLiking_25 : decode cX3_putLiking 25 = .ok (.invokestatic 41, 3) := by decide +kernel
theorem dX3_putLiking_28 : decode cX3_putLiking 28 = .ok (.istore 6, 2) := by decide +kernel
theorem dX3_putLiking_30 : decode cX3_putLiking 30 = .ok (.aload_n 0, 1) := by decide +kernel
theorem dX3_putLiking_31 : decode cX3_putLiking 31 = .ok (.iload_n 1, 1) := by decide +kernel
theorem dX3_putLiking_32 : decode cX3_putLiking 32 = .ok (.iload_n 2, 1) := by decide +kernel
theorem dX3_putLiking_33 : decode cX3_putLiking 33 = .ok (.invokevirtual 76, 3) := by decide +kernel
theorem dX3_putLiking_36 : decode cX3_putLiking 36 = .ok (.iload 5, 2) := by decide +kernel
theorem dX3_putLiking_38 : decode cX3_putLiking 38 = .ok (.istore 7, 2) := by decide +kernel
theorem dX3_putLiking_40 : decode cX3_putLiking 40 = .ok (.iload 7, 2) := by decide +kernel
theorem dX3_putLiking_42 : decode cX3_putLiking 42 = .ok (.iload 6, 2) := by decide +kernel
theorem dX3_putLiking_44 : decode cX3_putLiking 44 = .ok (.if_icmp .le 35, 3) := by decide +kernel
theorem dX3_putLiking_47 : decode cX3_putLiking 47 = .ok (.aload_n 0, 1) := by decide +kernel
theorem dX3_putLiking_48 : decode cX3_putLiking 48 = .ok (.getfield 18, 3) := by decide +kernel
theorem dX3_putLiking_51 : decode cX3_putLiking 51 = .ok (.iload 4, 2) := by decide +kernel
theorem dX3_putLiking_53 : decode cX3_putLiking 53 = .ok (.iload 7, 2) := by decide +kernel
theorem dX3_putLiking_55 : decode cX3_putLiking 55 = .ok (.iadd, 1) := by decide +kernel
theorem dX3_putLiking_56 : decode cX3_putLiking 56 = .ok (.aload_n 0, 1) := by decide +kernel
theorem dX3_putLiking_57 : decode cX3_putLiking 57 = .ok (.getfield 18, 3) := by decide +kernel
theorem dX3_putLiking_60 : decode cX3_putLiking 60 = .ok (.iload 4, 2) := by decide +kernel
theorem dX3_putLiking_62 : decode cX3_putLiking 62 = .ok (.iload 7, 2) := by decide +kernel
theorem dX3_putLiking_64 : decode cX3_putLiking 64 = .ok (.iadd, 1) := by decide +kernel
theorem dX3_putLiking_65 : decode cX3_putLiking 65 = .ok (.iconst 1, 1) := by decide +kernel
theorem dX3_putLiking_66 : decode cX3_putLiking 66 = .ok (.isub, 1) := by decide +kernel
theorem dX3_putLiking_67 : decode cX3_putLiking 67 = .ok (.invokestatic 51, 3) := by decide +kernel
theorem dX3_putLiking_70 : decode cX3_putLiking 70 = .ok (.invokestatic 37, 3) := by decide +kernel
theorem dX3_putLiking_73 : decode cX3_putLiking 73 = .ok (.iinc 7 (-1), 3) := by decide +kernel
theorem dX3_putLiking_76 : decode cX3_putLiking 76 = .ok (.goto (-36), 3) := by decide +kernel
theorem dX3_putLiking_79 : decode cX3_putLiking 79 = .ok (.aload_n 0, 1) := by decide +kernel
theorem dX3_putLiking_80 : decode cX3_putLiking 80 = .ok (.getfield 18, 3) := by decide +kernel
theorem dX3_putLiking_83 : decode cX3_putLiking 83 = .ok (.iload 4, 2) := by decide +kernel
theorem dX3_putLiking_85 : decode cX3_putLiking 85 = .ok (.iload 6, 2) := by decide +kernel
theorem dX3_putLiking_87 : decode cX3_putLiking 87 = .ok (.iadd, 1) := by decide +kernel
theorem dX3_putLiking_88 : decode cX3_putLiking 88 = .ok (.iload_n 2, 1) := by decide +kernel
theorem dX3_putLiking_89 : decode cX3_putLiking 89 = .ok (.invokestatic 37, 3) := by decide +kernel
theorem dX3_putLiking_92 : decode cX3_putLiking 92 = .ok (.return_, 1) := by decide +kernel
theorem dX3_placeOf_0 : decode cX3_placeOf 0 = .ok (.iconst 0, 1) := by decide +kernel
theorem dX3_placeOf_1 : decode cX3_placeOf 1 = .ok (.istore_n 2, 1) := by decide +kernel
theorem dX3_placeOf_2 : decode cX3_placeOf 2 = .ok (.iload_n 2, 1) := by decide +kernel
theorem dX3_placeOf_3 : decode cX3_placeOf 3 = .ok (.aload_n 0, 1) := by decide +kernel
theorem dX3_placeOf_4 : decode cX3_placeOf 4 = .ok (.getfield 28, 3) := by decide +kernel
theorem dX3_placeOf_7 : decode cX3_placeOf 7 = .ok (.if_icmp .ge 23, 3) := by decide +kernel
theorem dX3_placeOf_10 : decode cX3_placeOf 10 = .ok (.aload_n 0, 1) := by decide +kernel
theorem dX3_placeOf_11 : decode cX3_placeOf 11 = .ok (.getfield 21, 3) := by decide +kernel
theorem dX3_placeOf_14 : decode cX3_placeOf 14 = .ok (.iload_n 2, 1) := by decide +kernel
theorem dX3_placeOf_15 : decode cX3_placeOf 15 = .ok (.invokestatic 51, 3) := by decide +kernel
theorem dX3_placeOf_18 : decode cX3_placeOf 18 = .ok (.iload_n 1, 1) := by decide +kernel
theorem dX3_placeOf_19 : decode cX3_placeOf 19 = .ok (.if_icmp .ne 5, 3) := by decide +kernel
theorem dX3_placeOf_22 : decode cX3_placeOf 22 = .ok (.iload_n 2, 1) := by decide +kernel
theorem dX3_placeOf_23 : decode cX3_placeOf 23 = .ok (.ireturn, 1) := by decide +kernel
theorem dX3_placeOf_24 : decode cX3_placeOf 24 = .ok (.iinc 2 1, 3) := by decide +kernel
theorem dX3_placeOf_27 : decode cX3_placeOf 27 = .ok (.goto (-25), 3) := by decide +kernel
theorem dX3_placeOf_30 : decode cX3_placeOf 30 = .ok (.iconst (-1), 1) := by decide +kernel
theorem dX3_placeOf_31 : decode cX3_placeOf 31 = .ok (.ireturn, 1) := by decide +kernel
theorem dX3_toPlace_0 : decode cX3_toPlace 0 = .ok (.aload_n 0, 1) := by decide +kernel
theorem dX3_toPlace_1 : decode cX3_toPlace 1 = .ok (.iload_n 1, 1) := by decide +kernel
theorem dX3_toPlace_2 : decode cX3_toPlace 2 = .ok (.invokevirtual 79, 3) := by decide +kernel
theorem dX3_toPlace_5 : decode cX3_toPlace 5 = .ok (.istore_n 3, 1) := by decide +kernel
theorem dX3_toPlace_6 : decode cX3_toPlace 6 = .ok (.iload_n 3, 1) := by decide +kernel
theorem dX3_toPlace_7 : decode cX3_toPlace 7 = .ok (.istore 4, 2) := by decide +kernel
theorem dX3_toPlace_9 : decode cX3_toPlace 9 = .ok (.iload 4, 2) := by decide +kernel
theorem dX3_toPlace_11 : decode cX3_toPlace 11 = .ok (.iload_n 2, 1) := by decide +kernel
theorem dX3_toPlace_12 : decode cX3_toPlace 12 = .ok (.if_icmp .ge 29, 3) := by decide +kernel
theorem dX3_toPlace_15 : decode cX3_toPlace 15 = .ok (.aload_n 0, 1) := by decide +kernel
theorem dX3_toPlace_16 : decode cX3_toPlace 16 = .ok (.getfield 21, 3) := by decide +kernel
theorem dX3_toPlace_19 : decode cX3_toPlace 19 = .ok (.iload 4, 2) := by decide +kernel
theorem dX3_toPlace_21 : decode cX3_toPlace 21 = .ok (.aload_n 0, 1) := by decide +kernel
theorem dX3_toPlace_22 : decode cX3_toPlace 22 = .ok (.getfield 21, 3) := by decide +kernel
theorem dX3_toPlace_25 : decode cX3_toPlace 25 = .ok (.iload 4, 2) := by decide +kernel
theorem dX3_toPlace_27 : decode cX3_toPlace 27 = .ok (.iconst 1, 1) := by decide +kernel
theorem dX3_toPlace_28 : decode cX3_toPlace 28 = .ok (.iadd, 1) := by decide +kernel
theorem dX3_toPlace_29 : decode cX3_toPlace 29 = .ok (.invokestatic 51, 3) := by decide +kernel
theorem dX3_toPlace_32 : decode cX3_toPlace 32 = .ok (.invokestatic 37, 3) := by decide +kernel
theorem dX3_toPlace_35 : decode cX3_toPlace 35 = .ok (.iinc 4 1, 3) := by decide +kernel
theorem dX3_toPlace_38 : decode cX3_toPlace 38 = .ok (.goto (-29), 3) := by decide +kernel
theorem dX3_toPlace_41 : decode cX3_toPlace 41 = .ok (.iload_n 3, 1) := by decide +kernel
theorem dX3_toPlace_42 : decode cX3_toPlace 42 = .ok (.istore 4, 2) := by decide +kernel
theorem dX3_toPlace_44 : decode cX3_toPlace 44 = .ok (.iload 4, 2) := by decide +kernel
theorem dX3_toPlace_46 : decode cX3_toPlace 46 = .ok (.iload_n 2, 1) := by decide +kernel
theorem dX3_toPlace_47 : decode cX3_toPlace 47 = .ok (.if_icmp .le 29, 3) := by decide +kernel
theorem dX3_toPlace_50 : decode cX3_toPlace 50 = .ok (.aload_n 0, 1) := by decide +kernel
theorem dX3_toPlace_51 : decode cX3_toPlace 51 = .ok (.getfield 21, 3) := by decide +kernel
theorem dX3_toPlace_54 : decode cX3_toPlace 54 = .ok (.iload 4, 2) := by decide +kernel
theorem dX3_toPlace_56 : decode cX3_toPlace 56 = .ok (.aload_n 0, 1) := by decide +kernel
theorem dX3_toPlace_57 : decode cX3_toPlace 57 = .ok (.getfield 21, 3) := by decide +kernel
theorem dX3_toPlace_60 : decode cX3_toPlace 60 = .ok (.iload 4, 2) := by decide +kernel
theorem dX3_toPlace_62 : decode cX3_toPlace 62 = .ok (.iconst 1, 1) := by decide +kernel
theorem dX3_toPlace_63 : decode cX3_toPlace 63 = .ok (.isub, 1) := by decide +kernel
theorem dX3_toPlace_64 : decode cX3_toPlace 64 = .ok (.invokestatic 51, 3) := by decide +kernel
theorem dX3_toPlace_67 : decode cX3_toPlace 67 = .ok (.invokestatic 37, 3) := by decide +kernel
theorem dX3_toPlace_70 : decode cX3_toPlace 70 = .ok (.iinc 4 (-1), 3) := by decide +kernel
theorem dX3_toPlace_73 : decode cX3_toPlace 73 = .ok (.goto (-29), 3) := by decide +kernel
theorem dX3_toPlace_76 : decode cX3_toPlace 76 = .ok (.aload_n 0, 1) := by decide +kernel
theorem dX3_toPlace_77 : decode cX3_toPlace 77 = .ok (.getfield 21, 3) := by decide +kernel
theorem dX3_toPlace_80 : decode cX3_toPlace 80 = .ok (.iload_n 2, 1) := by decide +kernel
theorem dX3_toPlace_81 : decode cX3_toPlace 81 = .ok (.iload_n 1, 1) := by decide +kernel
theorem dX3_toPlace_82 : decode cX3_toPlace 82 = .ok (.invokestatic 37, 3) := by decide +kernel
theorem dX3_toPlace_85 : decode cX3_toPlace 85 = .ok (.return_, 1) := by decide +kernel
theorem dX3_orders_0 : decode cX3_orders 0 = .ok (.iconst 1, 1) := by decide +kernel
theorem dX3_orders_1 : decode cX3_orders 1 = .ok (.istore_n 1, 1) := by decide +kernel
theorem dX3_orders_2 : decode cX3_orders 2 = .ok (.iconst 2, 1) := by decide +kernel
theorem dX3_orders_3 : decode cX3_orders 3 = .ok (.istore_n 2, 1) := by decide +kernel
theorem dX3_orders_4 : decode cX3_orders 4 = .ok (.iload_n 2, 1) := by decide +kernel
theorem dX3_orders_5 : decode cX3_orders 5 = .ok (.aload_n 0, 1) := by decide +kernel
theorem dX3_orders_6 : decode cX3_orders 6 = .ok (.getfield 28, 3) := by decide +kernel
theorem dX3_orders_9 : decode cX3_orders 9 = .ok (.if_icmp .gt 13, 3) := by decide +kernel
theorem dX3_orders_12 : decode cX3_orders 12 = .ok (.iload_n 1, 1) := by decide +kernel
theorem dX3_orders_13 : decode cX3_orders 13 = .ok (.iload_n 2, 1) := by decide +kernel
theorem dX3_orders_14 : decode cX3_orders 14 = .ok (.imul, 1) := by decide +kernel
theorem dX3_orders_15 : decode cX3_orders 15 = .ok (.istore_n 1, 1) := by decide +kernel
theorem dX3_orders_16 : decode cX3_orders 16 = .ok (.iinc 2 1, 3) := by decide +kernel
theorem dX3_orders_19 : decode cX3_orders 19 = .ok (.goto (-15), 3) := by decide +kernel
theorem dX3_orders_22 : decode cX3_orders 22 = .ok (.iload_n 1, 1) := by decide +kernel
theorem dX3_orders_23 : decode cX3_orders 23 = .ok (.ireturn, 1) := by decide +kernel
theorem dX3_orderBy_0 : decode cX3_orderBy 0 = .ok (.iload_n 1, 1) := by decide +kernel
theorem dX3_orderBy_1 : decode cX3_orderBy 1 = .ok (.istore_n 2, 1) := by decide +kernel
theorem dX3_orderBy_2 : decode cX3_orderBy 2 = .ok (.aload_n 0, 1) := by decide +kernel
theorem dX3_orderBy_3 : decode cX3_orderBy 3 = .ok (.getfield 28, 3) := by decide +kernel
theorem dX3_orderBy_6 : decode cX3_orderBy 6 = .ok (.invokestatic 62, 3) := by decide +kernel
theorem dX3_orderBy_9 : decode cX3_orderBy 9 = .ok (.istore_n 3, 1) := by decide +kernel
theorem dX3_orderBy_10 : decode cX3_orderBy 10 = .ok (.iconst 0, 1) := by decide +kernel
theorem dX3_orderBy_11 : decode cX3_orderBy 11 = .ok (.istore 4, 2) := by decide +kernel
theorem dX3_orderBy_13 : decode cX3_orderBy 13 = .ok (.iload 4, 2) := by decide +kernel
theorem dX3_orderBy_15 : decode cX3_orderBy 15 = .ok (.aload_n 0, 1) := by decide +kernel
theorem dX3_orderBy_16 : decode cX3_orderBy 16 = .ok (.getfield 28, 3) := by decide +kernel
theorem dX3_orderBy_19 : decode cX3_orderBy 19 = .ok (.if_icmp .ge 52, 3) := by decide +kernel
theorem dX3_orderBy_22 : decode cX3_orderBy 22 = .ok (.aload_n 0, 1) := by decide +kernel
theorem dX3_orderBy_23 : decode cX3_orderBy 23 = .ok (.getfield 28, 3) := by decide +kernel
theorem dX3_orderBy_26 : decode cX3_orderBy 26 = .ok (.iload 4, 2) := by decide +kernel
theorem dX3_orderBy_28 : decode cX3_orderBy 28 = .ok (.isub, 1) := by decide +kernel
theorem dX3_orderBy_29 : decode cX3_orderBy 29 = .ok (.istore 5, 2) := by decide +kernel
theorem dX3_orderBy_31 : decode cX3_orderBy 31 = .ok (.aload_n 0, 1) := by decide +kernel
theorem dX3_orderBy_32 : decode cX3_orderBy 32 = .ok (.iload_n 3, 1) := by decide +kernel
theorem dX3_orderBy_33 : decode cX3_orderBy 33 = .ok (.iload_n 2, 1) := by decide +kernel
theorem dX3_orderBy_34 : decode cX3_orderBy 34 = .ok (.iload 5, 2) := by decide +kernel
theorem dX3_orderBy_36 : decode cX3_orderBy 36 = .ok (.irem, 1) := by decide +kernel
theorem dX3_orderBy_37 : decode cX3_orderBy 37 = .ok (.invokevirtual 82, 3) := by decide +kernel
theorem dX3_orderBy_40 : decode cX3_orderBy 40 = .ok (.istore 6, 2) := by decide +kernel
theorem dX3_orderBy_42 : decode cX3_orderBy 42 = .ok (.iload_n 2, 1) := by decide +kernel
theorem dX3_orderBy_43 : decode cX3_orderBy 43 = .ok (.iload 5, 2) := by decide +kernel
theorem dX3_orderBy_45 : decode cX3_orderBy 45 = .ok (.idiv, 1) := by decide +kernel
theorem dX3_orderBy_46 : decode cX3_orderBy 46 = .ok (.istore_n 2, 1) := by decide +kernel
theorem dX3_orderBy_47 : decode cX3_orderBy 47 = .ok (.aload_n 0, 1) := by decide +kernel
theorem dX3_orderBy_48 : decode cX3_orderBy 48 = .ok (.getfield 21, 3) := by decide +kernel
theorem dX3_orderBy_51 : decode cX3_orderBy 51 = .ok (.iload 4, 2) := by decide +kernel
theorem dX3_orderBy_53 : decode cX3_orderBy 53 = .ok (.iload 6, 2) := by decide +kernel
theorem dX3_orderBy_55 : decode cX3_orderBy 55 = .ok (.invokestatic 37, 3) := by decide +kernel
theorem dX3_orderBy_58 : decode cX3_orderBy 58 = .ok (.iload_n 3, 1) := by decide +kernel
theorem dX3_orderBy_59 : decode cX3_orderBy 59 = .ok (.iload 6, 2) := by decide +kernel
theorem dX3_orderBy_61 : decode cX3_orderBy 61 = .ok (.invokestatic 85, 3) := by decide +kernel
theorem dX3_orderBy_64 : decode cX3_orderBy 64 = .ok (.istore_n 3, 1) := by decide +kernel
theorem dX3_orderBy_65 : decode cX3_orderBy 65 = .ok (.iinc 4 1, 3) := by decide +kernel
theorem dX3_orderBy_68 : decode cX3_orderBy 68 = .ok (.goto (-55), 3) := by decide +kernel
theorem dX3_orderBy_71 : decode cX3_orderBy 71 = .ok (.return_, 1) := by decide +kernel
theorem dX3_member_0 : decode cX3_member 0 = .ok (.iload_n 2, 1) := by decide +kernel
theorem dX3_member_1 : decode cX3_member 1 = .ok (.istore_n 3, 1) := by decide +kernel
theorem dX3_member_2 : decode cX3_member 2 = .ok (.iconst 0, 1) := by decide +kernel
theorem dX3_member_3 : decode cX3_member 3 = .ok (.istore 4, 2) := by decide +kernel
theorem dX3_member_5 : decode cX3_member 5 = .ok (.iload 4, 2) := by decide +kernel
theorem dX3_member_7 : decode cX3_member 7 = .ok (.aload_n 0, 1) := by decide +kernel
theorem dX3_member_8 : decode cX3_member 8 = .ok (.getfield 28, 3) := by decide +kernel
theorem dX3_member_11 : decode cX3_member 11 = .ok (.if_icmp .ge 28, 3) := by decide +kernel
theorem dX3_member_14 : decode cX3_member 14 = .ok (.iload_n 1, 1) := by decide +kernel
theorem dX3_member_15 : decode cX3_member 15 = .ok (.iload 4, 2) := by decide +kernel
theorem dX3_member_17 : decode cX3_member 17 = .ok (.invokestatic 55, 3) := by decide +kernel
theorem dX3_member_20 : decode cX3_member 20 = .ok (.ifCond .eq 13, 3) := by decide +kernel
theorem dX3_member_23 : decode cX3_member 23 = .ok (.iload_n 3, 1) := by decide +kernel
theorem dX3_member_24 : decode cX3_member 24 = .ok (.ifCond .ne 6, 3) := by decide +kernel
theorem dX3_member_27 : decode cX3_member 27 = .ok (.iload 4, 2) := by decide +kernel
theorem dX3_member_29 : decode cX3_member 29 = .ok (.ireturn, 1) := by decide +kernel
theorem dX3_member_30 : decode cX3_member 30 = .ok (.iinc 3 (-1), 3) := by decide +kernel
theorem dX3_member_33 : decode cX3_member 33 = .ok (.iinc 4 1, 3) := by decide +kernel
theorem dX3_member_36 : decode cX3_member 36 = .ok (.goto (-31), 3) := by decide +kernel
theorem dX3_member_39 : decode cX3_member 39 = .ok (.iconst (-1), 1) := by decide +kernel
theorem dX3_member_40 : decode cX3_member 40 = .ok (.ireturn, 1) := by decide +kernel
theorem dX3_firstOf_0 : decode cX3_firstOf 0 = .ok (.iconst 0, 1) := by decide +kernel
theorem dX3_firstOf_1 : decode cX3_firstOf 1 = .ok (.istore_n 2, 1) := by decide +kernel
theorem dX3_firstOf_2 : decode cX3_firstOf 2 = .ok (.iload_n 2, 1) := by decide +kernel
theorem dX3_firstOf_3 : decode cX3_firstOf 3 = .ok (.aload_n 0, 1) := by decide +kernel
theorem dX3_firstOf_4 : decode cX3_firstOf 4 = .ok (.getfield 28, 3) := by decide +kernel
theorem dX3_firstOf_7 : decode cX3_firstOf 7 = .ok (.if_icmp .ge 28, 3) := by decide +kernel
theorem dX3_firstOf_10 : decode cX3_firstOf 10 = .ok (.aload_n 0, 1) := by decide +kernel
theorem dX3_firstOf_11 : decode cX3_firstOf 11 = .ok (.getfield 21, 3) := by decide +kernel
theorem dX3_firstOf_14 : decode cX3_firstOf 14 = .ok (.iload_n 2, 1) := by decide +kernel
theorem dX3_firstOf_15 : decode cX3_firstOf 15 = .ok (.invokestatic 51, 3) := by decide +kernel
theorem dX3_firstOf_18 : decode cX3_firstOf 18 = .ok (.istore_n 3, 1) := by decide +kernel
theorem dX3_firstOf_19 : decode cX3_firstOf 19 = .ok (.iload_n 1, 1) := by decide +kernel
theorem dX3_firstOf_20 : decode cX3_firstOf 20 = .ok (.iload_n 3, 1) := by decide +kernel
theorem dX3_firstOf_21 : decode cX3_firstOf 21 = .ok (.invokestatic 55, 3) := by decide +kernel
theorem dX3_firstOf_24 : decode cX3_firstOf 24 = .ok (.ifCond .eq 5, 3) := by decide +kernel
theorem dX3_firstOf_27 : decode cX3_firstOf 27 = .ok (.iload_n 3, 1) := by decide +kernel
theorem dX3_firstOf_28 : decode cX3_firstOf 28 = .ok (.ireturn, 1) := by decide +kernel
theorem dX3_firstOf_29 : decode cX3_firstOf 29 = .ok (.iinc 2 1, 3) := by decide +kernel
theorem dX3_firstOf_32 : decode cX3_firstOf 32 = .ok (.goto (-30), 3) := by decide +kernel
theorem dX3_firstOf_35 : decode cX3_firstOf 35 = .ok (.iconst (-1), 1) := by decide +kernel
theorem dX3_firstOf_36 : decode cX3_firstOf 36 = .ok (.ireturn, 1) := by decide +kernel
theorem dX3_best_0 : decode cX3_best 0 = .ok (.aload_n 0, 1) := by decide +kernel
theorem dX3_best_1 : decode cX3_best 1 = .ok (.getfield 9, 3) := by decide +kernel
theorem dX3_best_4 : decode cX3_best 4 = .ok (.iload_n 1, 1) := by decide +kernel
theorem dX3_best_5 : decode cX3_best 5 = .ok (.invokestatic 51, 3) := by decide +kernel
theorem dX3_best_8 : decode cX3_best 8 = .ok (.istore_n 3, 1) := by decide +kernel
theorem dX3_best_9 : decode cX3_best 9 = .ok (.aload_n 0, 1) := by decide +kernel
theorem dX3_best_10 : decode cX3_best 10 = .ok (.getfield 15, 3) := by decide +kernel
theorem dX3_best_13 : decode cX3_best 13 = .ok (.iload_n 1, 1) := by decide +kernel
theorem dX3_best_14 : decode cX3_best 14 = .ok (.invokestatic 51, 3) := by decide +kernel
theorem dX3_best_17 : decode cX3_best 17 = .ok (.istore 4, 2) := by decide +kernel
theorem dX3_best_19 : decode cX3_best 19 = .ok (.iconst 0, 1) := by decide +kernel
theorem dX3_best_20 : decode cX3_best 20 = .ok (.istore 5, 2) := by decide +kernel
theorem dX3_best_22 : decode cX3_best 22 = .ok (.iload 5, 2) := by decide +kernel
theorem dX3_best_24 : decode cX3_best 24 = .ok (.iload 4, 2) := by decide +kernel
theorem dX3_best_26 : decode cX3_best 26 = .ok (.if_icmp .ge 45, 3) := by decide +kernel
theorem dX3_best_29 : decode cX3_best 29 = .ok (.aload_n 0, 1) := by decide +kernel
theorem dX3_best_30 : decode cX3_best 30 = .ok (.getfield 18, 3) := by decide +kernel
theorem dX3_best_33 : decode cX3_best 33 = .ok (.iload_n 1, 1) := by decide +kernel
theorem dX3_best_34 : decode cX3_best 34 = .ok (.bipush 8, 2) := by decide +kernel
theorem dX3_best_36 : decode cX3_best 36 = .ok (.imul, 1) := by decide +kernel
theorem dX3_best_37 : decode cX3_best 37 = .ok (.iload 5, 2) := by decide +kernel
theorem dX3_best_39 : decode cX3_best 39 = .ok (.iadd, 1) := by decide +kernel
theorem dX3_best_40 : decode cX3_best 40 = .ok (.invokestatic 51, 3) := by decide +kernel
theorem dX3_best_43 : decode cX3_best 43 = .ok (.istore 6, 2) := by decide +kernel
theorem dX3_best_45 : decode cX3_best 45 = .ok (.iload_n 2, 1) := by decide +kernel
theorem dX3_best_46 : decode cX3_best 46 = .ok (.iload 6, 2) := by decide +kernel
theorem dX3_best_48 : decode cX3_best 48 = .ok (.invokestatic 55, 3) := by decide +kernel
theorem dX3_best_51 : decode cX3_best 51 = .ok (.ifCond .eq 6, 3) := by decide +kernel
theorem dX3_best_54 : decode cX3_best 54 = .ok (.iload 6, 2) := by decide +kernel
theorem dX3_best_56 : decode cX3_best 56 = .ok (.ireturn, 1) := by decide +kernel
theorem dX3_best_57 : decode cX3_best 57 = .ok (.iload 6, 2) := by decide +kernel
theorem dX3_best_59 : decode cX3_best 59 = .ok (.iload_n 3, 1) := by decide +kernel
theorem dX3_best_60 : decode cX3_best 60 = .ok (.if_icmp .ne 5, 3) := by decide +kernel
theorem dX3_best_63 : decode cX3_best 63 = .ok (.iconst (-1), 1) := by decide +kernel
theorem dX3_best_64 : decode cX3_best 64 = .ok (.ireturn, 1) := by decide +kernel
theorem dX3_best_65 : decode cX3_best 65 = .ok (.iinc 5 1, 3) := by decide +kernel
theorem dX3_best_68 : decode cX3_best 68 = .ok (.goto (-46), 3) := by decide +kernel
theorem dX3_best_71 : decode cX3_best 71 = .ok (.iload_n 2, 1) := by decide +kernel
theorem dX3_best_72 : decode cX3_best 72 = .ok (.iload_n 3, 1) := by decide +kernel
theorem dX3_best_73 : decode cX3_best 73 = .ok (.invokestatic 55, 3) := by decide +kernel
theorem dX3_best_76 : decode cX3_best 76 = .ok (.ifCond .eq 7, 3) := by decide +kernel
theorem dX3_best_79 : decode cX3_best 79 = .ok (.iload_n 3, 1) := by decide +kernel
theorem dX3_best_80 : decode cX3_best 80 = .ok (.goto 4, 3) := by decide +kernel
theorem dX3_best_83 : decode cX3_best 83 = .ok (.iconst (-1), 1) := by decide +kernel
theorem dX3_best_84 : decode cX3_best 84 = .ok (.ireturn, 1) := by decide +kernel
theorem dX3_rank_0 : decode cX3_rank 0 = .ok (.aload_n 0, 1) := by decide +kernel
theorem dX3_rank_1 : decode cX3_rank 1 = .ok (.getfield 9, 3) := by decide +kernel
theorem dX3_rank_4 : decode cX3_rank 4 = .ok (.iload_n 1, 1) := by decide +kernel
theorem dX3_rank_5 : decode cX3_rank 5 = .ok (.invokestatic 51, 3) := by decide +kernel
theorem dX3_rank_8 : decode cX3_rank 8 = .ok (.istore_n 3, 1) := by decide +kernel
theorem dX3_rank_9 : decode cX3_rank 9 = .ok (.aload_n 0, 1) := by decide +kernel
theorem dX3_rank_10 : decode cX3_rank 10 = .ok (.getfield 15, 3) := by decide +kernel
theorem dX3_rank_13 : decode cX3_rank 13 = .ok (.iload_n 1, 1) := by decide +kernel
theorem dX3_rank_14 : decode cX3_rank 14 = .ok (.invokestatic 51, 3) := by decide +kernel
theorem dX3_rank_17 : decode cX3_rank 17 = .ok (.istore 4, 2) := by decide +kernel
theorem dX3_rank_19 : decode cX3_rank 19 = .ok (.iconst 0, 1) := by decide +kernel
theorem dX3_rank_20 : decode cX3_rank 20 = .ok (.istore 5, 2) := by decide +kernel
theorem dX3_rank_22 : decode cX3_rank 22 = .ok (.iload 5, 2) := by decide +kernel
theorem dX3_rank_24 : decode cX3_rank 24 = .ok (.iload 4, 2) := by decide +kernel
theorem dX3_rank_26 : decode cX3_rank 26 = .ok (.if_icmp .ge 45, 3) := by decide +kernel
theorem dX3_rank_29 : decode cX3_rank 29 = .ok (.aload_n 0, 1) := by decide +kernel
theorem dX3_rank_30 : decode cX3_rank 30 = .ok (.getfield 18, 3) := by decide +kernel
theorem dX3_rank_33 : decode cX3_rank 33 = .ok (.iload_n 1, 1) := by decide +kernel
theorem dX3_rank_34 : decode cX3_rank 34 = .ok (.bipush 8, 2) := by decide +kernel
theorem dX3_rank_36 : decode cX3_rank 36 = .ok (.imul, 1) := by decide +kernel
theorem dX3_rank_37 : decode cX3_rank 37 = .ok (.iload 5, 2) := by decide +kernel
theorem dX3_rank_39 : decode cX3_rank 39 = .ok (.iadd, 1) := by decide +kernel
theorem dX3_rank_40 : decode cX3_rank 40 = .ok (.invokestatic 51, 3) := by decide +kernel
theorem dX3_rank_43 : decode cX3_rank 43 = .ok (.istore 6, 2) := by decide +kernel
theorem dX3_rank_45 : decode cX3_rank 45 = .ok (.iload 6, 2) := by decide +kernel
theorem dX3_rank_47 : decode cX3_rank 47 = .ok (.iload_n 2, 1) := by decide +kernel
theorem dX3_rank_48 : decode cX3_rank 48 = .ok (.if_icmp .ne 6, 3) := by decide +kernel
theorem dX3_rank_51 : decode cX3_rank 51 = .ok (.iload 5, 2) := by decide +kernel
theorem dX3_rank_53 : decode cX3_rank 53 = .ok (.ireturn, 1) := by decide +kernel
theorem dX3_rank_54 : decode cX3_rank 54 = .ok (.iload 6, 2) := by decide +kernel
theorem dX3_rank_56 : decode cX3_rank 56 = .ok (.iload_n 3, 1) := by decide +kernel
theorem dX3_rank_57 : decode cX3_rank 57 = .ok (.if_icmp .ne 8, 3) := by decide +kernel
theorem dX3_rank_60 : decode cX3_rank 60 = .ok (.iload 5, 2) := by decide +kernel
theorem dX3_rank_62 : decode cX3_rank 62 = .ok (.iconst 1, 1) := by decide +kernel
theorem dX3_rank_63 : decode cX3_rank 63 = .ok (.iadd, 1) := by decide +kernel
theorem dX3_rank_64 : decode cX3_rank 64 = .ok (.ireturn, 1) := by decide +kernel
theorem dX3_rank_65 : decode cX3_rank 65 = .ok (.iinc 5 1, 3) := by decide +kernel
theorem dX3_rank_68 : decode cX3_rank 68 = .ok (.goto (-46), 3) := by decide +kernel
theorem dX3_rank_71 : decode cX3_rank 71 = .ok (.iload_n 3, 1) := by decide +kernel
theorem dX3_rank_72 : decode cX3_rank 72 = .ok (.iconst (-1), 1) := by decide +kernel
theorem dX3_rank_73 : decode cX3_rank 73 = .ok (.if_icmp .eq 8, 3) := by decide +kernel
theorem dX3_rank_76 : decode cX3_rank 76 = .ok (.iload_n 3, 1) := by decide +kernel
theorem dX3_rank_77 : decode cX3_rank 77 = .ok (.iload_n 2, 1) := by decide +kernel
theorem dX3_rank_78 : decode cX3_rank 78 = .ok (.if_icmp .ne 8, 3) := by decide +kernel
theorem dX3_rank_81 : decode cX3_rank 81 = .ok (.iload 4, 2) := by decide +kernel
theorem dX3_rank_83 : decode cX3_rank 83 = .ok (.goto 7, 3) := by decide +kernel
theorem dX3_rank_86 : decode cX3_rank 86 = .ok (.iload 4, 2) := by decide +kernel
theorem dX3_rank_88 : decode cX3_rank 88 = .ok (.iconst 1, 1) := by decide +kernel
theorem dX3_rank_89 : decode cX3_rank 89 = .ok (.iadd, 1) := by decide +kernel
theorem dX3_rank_90 : decode cX3_rank 90 = .ok (.ireturn, 1) := by decide +kernel
theorem dX4_init_0 : decode cX4_init 0 = .ok (.aload_n 0, 1) := by decide +kernel
theorem dX4_init_1 : decode cX4_init 1 = .ok (.invokespecial 1, 3) := by decide +kernel
theorem dX4_init_4 : decode cX4_init 4 = .ok (.aload_n 0, 1) := by decide +kernel
theorem dX4_init_5 : decode cX4_init 5 = .ok (.new 7, 3) := by decide +kernel
theorem dX4_init_8 : decode cX4_init 8 = .ok (.dup, 1) := by decide +kernel
theorem dX4_init_9 : decode cX4_init 9 = .ok (.invokespecial 9, 3) := by decide +kernel
theorem dX4_init_12 : decode cX4_init 12 = .ok (.putfield 10, 3) := by decide +kernel
theorem dX4_init_15 : decode cX4_init 15 = .ok (.return_, 1) := by decide +kernel
theorem dX4_store_0 : decode cX4_store 0 = .ok (.aload_n 0, 1) := by decide +kernel
theorem dX4_store_1 : decode cX4_store 1 = .ok (.getfield 10, 3) := by decide +kernel
theorem dX4_store_4 : decode cX4_store 4 = .ok (.aload_n 1, 1) := by decide +kernel
theorem dX4_store_5 : decode cX4_store 5 = .ok (.invokevirtual 16, 3) := by decide +kernel
theorem dX4_store_8 : decode cX4_store 8 = .ok (.aload_n 0, 1) := by decide +kernel
theorem dX4_store_9 : decode cX4_store 9 = .ok (.iload_n 2, 1) := by decide +kernel
theorem dX4_store_10 : decode cX4_store 10 = .ok (.putfield 20, 3) := by decide +kernel
theorem dX4_store_13 : decode cX4_store 13 = .ok (.aload_n 0, 1) := by decide +kernel
theorem dX4_store_14 : decode cX4_store 14 = .ok (.iconst 1, 1) := by decide +kernel
theorem dX4_store_15 : decode cX4_store 15 = .ok (.putfield 24, 3) := by decide +kernel
theorem dX4_store_18 : decode cX4_store 18 = .ok (.return_, 1) := by decide +kernel
theorem dX4_drop_0 : decode cX4_drop 0 = .ok (.aload_n 0, 1) := by decide +kernel
theorem dX4_drop_1 : decode cX4_drop 1 = .ok (.iconst 0, 1) := by decide +kernel
theorem dX4_drop_2 : decode cX4_drop 2 = .ok (.putfield 24, 3) := by decide +kernel
theorem dX4_drop_5 : decode cX4_drop 5 = .ok (.return_, 1) := by decide +kernel
theorem dX5_init_0 : decode cX5_init 0 = .ok (.aload_n 0, 1) := by decide +kernel
theorem dX5_init_1 : decode cX5_init 1 = .ok (.invokespecial 3, 3) := by decide +kernel
theorem dX5_init_4 : decode cX5_init 4 = .ok (.aload_n 0, 1) := by decide +kernel
theorem dX5_init_5 : decode cX5_init 5 = .ok (.bipush 6, 2) := by decide +kernel
theorem dX5_init_7 : decode cX5_init 7 = .ok (.newarray .int, 2) := by decide +kernel
theorem dX5_init_9 : decode cX5_init 9 = .ok (.putfield 9, 3) := by decide +kernel
theorem dX5_init_12 : decode cX5_init 12 = .ok (.aload_n 0, 1) := by decide +kernel
theorem dX5_init_13 : decode cX5_init 13 = .ok (.bipush 6, 2) := by decide +kernel
theorem dX5_init_15 : decode cX5_init 15 = .ok (.newarray .int, 2) := by decide +kernel
theorem dX5_init_17 : decode cX5_init 17 = .ok (.putfield 15, 3) := by decide +kernel
theorem dX5_init_20 : decode cX5_init 20 = .ok (.aload_n 0, 1) := by decide +kernel
theorem dX5_init_21 : decode cX5_init 21 = .ok (.bipush 20, 2) := by decide +kernel
theorem dX5_init_23 : decode cX5_init 23 = .ok (.newarray .int, 2) := by decide +kernel
theorem dX5_init_25 : decode cX5_init 25 = .ok (.putfield 18, 3) := by decide +kernel
theorem dX5_init_28 : decode cX5_init 28 = .ok (.aload_n 0, 1) := by decide +kernel
theorem dX5_init_29 : decode cX5_init 29 = .ok (.bipush 20, 2) := by decide +kernel
theorem dX5_init_31 : decode cX5_init 31 = .ok (.newarray .int, 2) := by decide +kernel
theorem dX5_init_33 : decode cX5_init 33 = .ok (.putfield 21, 3) := by decide +kernel
theorem dX5_init_36 : decode cX5_init 36 = .ok (.return_, 1) := by decide +kernel
theorem dX5_clear_0 : decode cX5_clear 0 = .ok (.aload_n 0, 1) := by decide +kernel
theorem dX5_clear_1 : decode cX5_clear 1 = .ok (.iconst 0, 1) := by decide +kernel
theorem dX5_clear_2 : decode cX5_clear 2 = .ok (.putfield 24, 3) := by decide +kernel
theorem dX5_clear_5 : decode cX5_clear 5 = .ok (.aload_n 0, 1) := by decide +kernel
theorem dX5_clear_6 : decode cX5_clear 6 = .ok (.iconst 0, 1) := by decide +kernel
theorem dX5_clear_7 : decode cX5_clear 7 = .ok (.putfield 28, 3) := by decide +kernel
theorem dX5_clear_10 : decode cX5_clear 10 = .ok (.return_, 1) := by decide +kernel
theorem dX5_addSeen_0 : decode cX5_addSeen 0 = .ok (.aload_n 0, 1) := by decide +kernel
theorem dX5_addSeen_1 : decode cX5_addSeen 1 = .ok (.getfield 24, 3) := by decide +kernel
theorem dX5_addSeen_4 : decode cX5_addSeen 4 = .ok (.bipush 6, 2) := by decide +kernel
theorem dX5_addSeen_6 : decode cX5_addSeen 6 = .ok (.if_icmp .lt 6, 3) := by decide +kernel
theorem dX5_addSeen_9 : decode cX5_addSeen 9 = .ok (.ldc 31, 2) := by decide +kernel
theorem dX5_addSeen_11 : decode cX5_addSeen 11 = .ok (.ireturn, 1) := by decide +kernel
theorem dX5_addSeen_12 : decode cX5_addSeen 12 = .ok (.aload_n 0, 1) := by decide +kernel
theorem dX5_addSeen_13 : decode cX5_addSeen 13 = .ok (.getfield 9, 3) := by decide +kernel
theorem dX5_addSeen_16 : decode cX5_addSeen 16 = .ok (.aload_n 0, 1) := by decide +kernel
theorem dX5_addSeen_17 : decode cX5_addSeen 17 = .ok (.getfield 24, 3) := by decide +kernel
theorem dX5_addSeen_20 : decode cX5_addSeen 20 = .ok (.iload_n 1, 1) := by decide +kernel
theorem dX5_addSeen_21 : decode cX5_addSeen 21 = .ok (.invokestatic 32, 3) := by decide +kernel
theorem dX5_addSeen_24 : decode cX5_addSeen 24 = .ok (.aload_n 0, 1) := by decide +kernel
theorem dX5_addSeen_25 : decode cX5_addSeen 25 = .ok (.getfield 15, 3) := by decide +kernel
theorem dX5_addSeen_28 : decode cX5_addSeen 28 = .ok (.aload_n 0, 1) := by decide +kernel
theorem dX5_addSeen_29 : decode cX5_addSeen 29 = .ok (.getfield 24, 3) := by decide +kernel
theorem dX5_addSeen_32 : decode cX5_addSeen 32 = .ok (.iload_n 2, 1) := by decide +kernel
theorem dX5_addSeen_33 : decode cX5_addSeen 33 = .ok (.ifCond .eq 7, 3) := by decide +kernel
theorem dX5_addSeen_36 : decode cX5_addSeen 36 = .ok (.iconst 1, 1) := by decide +kernel
theorem dX5_addSeen_37 : decode cX5_addSeen 37 = .ok (.goto 4, 3) := by decide +kernel
theorem dX5_addSeen_40 : decode cX5_addSeen 40 = .ok (.iconst 0, 1) := by decide +kernel
theorem dX5_addSeen_41 : decode cX5_addSeen 41 = .ok (.invokestatic 32, 3) := by decide +kernel
theorem dX5_addSeen_44 : decode cX5_addSeen 44 = .ok (.aload_n 0, 1) := by decide +kernel
theorem dX5_addSeen_45 : decode cX5_addSeen 45 = .ok (.dup, 1) := by decide +kernel
theorem dX5_addSeen_46 : decode cX5_addSeen 46 = .ok (.getfield 24, 3) := by decide +kernel
theorem dX5_addSeen_49 : decode cX5_addSeen 49 = .ok (.iconst 1, 1) := by decide +kernel
theorem dX5_addSeen_50 : decode cX5_addSeen 50 = .ok (.iadd, 1) := by decide +kernel
theorem dX5_addSeen_51 : decode cX5_addSeen 51 = .ok (.putfield 24, 3) := by decide +kernel
theorem dX5_addSeen_54 : decode cX5_addSeen 54 = .ok (.aload_n 0, 1) := by decide +kernel
theorem dX5_addSeen_55 : decode cX5_addSeen 55 = .ok (.getfield 24, 3) := by decide +kernel
theorem dX5_addSeen_58 : decode cX5_addSeen 58 = .ok (.ireturn, 1) := by decide +kernel
theorem dX5_addEntry_0 : decode cX5_addEntry 0 = .ok (.aload_n 0, 1) := by decide +kernel
theorem dX5_addEntry_1 : decode cX5_addEntry 1 = .ok (.getfield 28, 3) := by decide +kernel
theorem dX5_addEntry_4 : decode cX5_addEntry 4 = .ok (.bipush 20, 2) := by decide +kernel
theorem dX5_addEntry_6 : decode cX5_addEntry 6 = .ok (.if_icmp .lt 6, 3) := by decide +kernel
theorem dX5_addEntry_9 : decode cX5_addEntry 9 = .ok (.ldc 31, 2) := by decide +kernel
theorem dX5_addEntry_11 : decode cX5_addEntry 11 = .ok (.ireturn, 1) := by decide +kernel
theorem dX5_addEntry_12 : decode cX5_addEntry 12 = .ok (.aload_n 0, 1) := by decide +kernel
theorem dX5_addEntry_13 : decode cX5_addEntry 13 = .ok (.getfield 18, 3) := by decide +kernel
theorem dX5_addEntry_16 : decode cX5_addEntry 16 = .ok (.aload_n 0, 1) := by decide +kernel
theorem dX5_addEntry_17 : decode cX5_addEntry 17 = .ok (.getfield 28, 3) := by decide +kernel
theorem dX5_addEntry_20 : decode cX5_addEntry 20 = .ok (.iload_n 1, 1) := by decide +kernel
theorem dX5_addEntry_21 : decode cX5_addEntry 21 = .ok (.invokestatic 32, 3) := by decide +kernel
theorem dX5_addEntry_24 : decode cX5_addEntry 24 = .ok (.aload_n 0, 1) := by decide +kernel
theorem dX5_addEntry_25 : decode cX5_addEntry 25 = .ok (.getfield 21, 3) := by decide +kernel
theorem dX5_addEntry_28 : decode cX5_addEntry 28 = .ok (.aload_n 0, 1) := by decide +kernel
theorem dX5_addEntry_29 : decode cX5_addEntry 29 = .ok (.getfield 28, 3) := by decide +kernel
theorem dX5_addEntry_32 : decode cX5_addEntry 32 = .ok (.iload_n 2, 1) := by decide +kernel
theorem dX5_addEntry_33 : decode cX5_addEntry 33 = .ok (.invokestatic 32, 3) := by decide +kernel
theorem dX5_addEntry_36 : decode cX5_addEntry 36 = .ok (.aload_n 0, 1) := by decide +kernel
theorem dX5_addEntry_37 : decode cX5_addEntry 37 = .ok (.dup, 1) := by decide +kernel
theorem dX5_addEntry_38 : decode cX5_addEntry 38 = .ok (.getfield 28, 3) := by decide +kernel
theorem dX5_addEntry_41 : decode cX5_addEntry 41 = .ok (.iconst 1, 1) := by decide +kernel
theorem dX5_addEntry_42 : decode cX5_addEntry 42 = .ok (.iadd, 1) := by decide +kernel
theorem dX5_addEntry_43 : decode cX5_addEntry 43 = .ok (.putfield 28, 3) := by decide +kernel
theorem dX5_addEntry_46 : decode cX5_addEntry 46 = .ok (.aload_n 0, 1) := by decide +kernel
theorem dX5_addEntry_47 : decode cX5_addEntry 47 = .ok (.getfield 28, 3) := by decide +kernel
theorem dX5_addEntry_50 : decode cX5_addEntry 50 = .ok (.ireturn, 1) := by decide +kernel
theorem dX5_fitting_0 : decode cX5_fitting 0 = .ok (.iconst 0, 1) := by decide +kernel
theorem dX5_fitting_1 : decode cX5_fitting 1 = .ok (.istore_n 3, 1) := by decide +kernel
theorem dX5_fitting_2 : decode cX5_fitting 2 = .ok (.iconst 0, 1) := by decide +kernel
theorem dX5_fitting_3 : decode cX5_fitting 3 = .ok (.istore 4, 2) := by decide +kernel
theorem dX5_fitting_5 : decode cX5_fitting 5 = .ok (.iload 4, 2) := by decide +kernel
theorem dX5_fitting_7 : decode cX5_fitting 7 = .ok (.iload_n 2, 1) := by decide +kernel
theorem dX5_fitting_8 : decode cX5_fitting 8 = .ok (.if_icmp .ge 29, 3) := by decide +kernel
theorem dX5_fitting_11 : decode cX5_fitting 11 = .ok (.aload_n 0, 1) := by decide +kernel
theorem dX5_fitting_12 : decode cX5_fitting 12 = .ok (.aload_n 1, 1) := by decide +kernel
theorem dX5_fitting_13 : decode cX5_fitting 13 = .ok (.iload 4, 2) := by decide +kernel
theorem dX5_fitting_15 : decode cX5_fitting 15 = .ok (.invokevirtual 36, 3) := by decide +kernel
theorem dX5_fitting_18 : decode cX5_fitting 18 = .ok (.invokevirtual 42, 3) := by decide +kernel
theorem dX5_fitting_21 : decode cX5_fitting 21 = .ok (.ifCond .eq 10, 3) := by decide +kernel
theorem dX5_fitting_24 : decode cX5_fitting 24 = .ok (.iload_n 3, 1) := by decide +kernel
theorem dX5_fitting_25 : decode cX5_fitting 25 = .ok (.iload 4, 2) := by decide +kernel
theorem dX5_fitting_27 : decode cX5_fitting 27 = .ok (.invokestatic 46, 3) := by decide +kernel
theorem dX5_fitting_30 : decode cX5_fitting 30 = .ok (.istore_n 3, 1) := by decide +kernel
theorem dX5_fitting_31 : decode cX5_fitting 31 = .ok (.iinc 4 1, 3) := by decide +kernel
theorem dX5_fitting_34 : decode cX5_fitting 34 = .ok (.goto (-29), 3) := by decide +kernel
theorem dX5_fitting_37 : decode cX5_fitting 37 = .ok (.iload_n 3, 1) := by decide +kernel
theorem dX5_fitting_38 : decode cX5_fitting 38 = .ok (.ireturn, 1) := by decide +kernel
theorem dX5_fits_0 : decode cX5_fits 0 = .ok (.iconst 0, 1) := by decide +kernel
theorem dX5_fits_1 : decode cX5_fits 1 = .ok (.istore_n 2, 1) := by decide +kernel
theorem dX5_fits_2 : decode cX5_fits 2 = .ok (.iload_n 2, 1) := by decide +kernel
theorem dX5_fits_3 : decode cX5_fits 3 = .ok (.aload_n 0, 1) := by decide +kernel
theorem dX5_fits_4 : decode cX5_fits 4 = .ok (.getfield 24, 3) := by decide +kernel
theorem dX5_fits_7 : decode cX5_fits 7 = .ok (.if_icmp .ge 50, 3) := by decide +kernel
theorem dX5_fits_10 : decode cX5_fits 10 = .ok (.aload_n 0, 1) := by decide +kernel
theorem dX5_fits_11 : decode cX5_fits 11 = .ok (.getfield 9, 3) := by decide +kernel
theorem dX5_fits_14 : decode cX5_fits 14 = .ok (.iload_n 2, 1) := by decide +kernel
theorem dX5_fits_15 : decode cX5_fits 15 = .ok (.invokestatic 50, 3) := by decide +kernel
theorem dX5_fits_18 : decode cX5_fits 18 = .ok (.iload_n 1, 1) := by decide +kernel
theorem dX5_fits_19 : decode cX5_fits 19 = .ok (.if_icmp .ne 7, 3) := by decide +kernel
theorem dX5_fits_22 : decode cX5_fits 22 = .ok (.iconst 1, 1) := by decide +kernel
theorem dX5_fits_23 : decode cX5_fits 23 = .ok (.goto 4, 3) := by decide +kernel
theorem dX5_fits_26 : decode cX5_fits 26 = .ok (.iconst 0, 1) := by decide +kernel
theorem dX5_fits_27 : decode cX5_fits 27 = .ok (.istore_n 3, 1) := by decide +kernel
theorem dX5_fits_28 : decode cX5_fits 28 = .ok (.iload_n 3, 1) := by decide +kernel
theorem dX5_fits_29 : decode cX5_fits 29 = .ok (.aload_n 0, 1) := by decide +kernel
theorem dX5_fits_30 : decode cX5_fits 30 = .ok (.getfield 15, 3) := by decide +kernel
theorem dX5_fits_33 : decode cX5_fits 33 = .ok (.iload_n 2, 1) := by decide +kernel
theorem dX5_fits_34 : decode cX5_fits 34 = .ok (.invokestatic 50, 3) := by decide +kernel
theorem dX5_fits_37 : decode cX5_fits 37 = .ok (.iconst 1, 1) := by decide +kernel
theorem dX5_fits_38 : decode cX5_fits 38 = .ok (.if_icmp .ne 7, 3) := by decide +kernel
theorem dX5_fits_41 : decode cX5_fits 41 = .ok (.iconst 1, 1) := by decide +kernel
theorem dX5_fits_42 : decode cX5_fits 42 = .ok (.goto 4, 3) := by decide +kernel
theorem dX5_fits_45 : decode cX5_fits 45 = .ok (.iconst 0, 1) := by decide +kernel
theorem dX5_fits_46 : decode cX5_fits 46 = .ok (.if_icmp .eq 5, 3) := by decide +kernel
theorem dX5_fits_49 : decode cX5_fits 49 = .ok (.iconst 0, 1) := by decide +kernel
theorem dX5_fits_50 : decode cX5_fits 50 = .ok (.ireturn, 1) := by decide +kernel
theorem dX5_fits_51 : decode cX5_fits 51 = .ok (.iinc 2 1, 3) := by decide +kernel
theorem dX5_fits_54 : decode cX5_fits 54 = .ok (.goto (-52), 3) := by decide +kernel
theorem dX5_fits_57 : decode cX5_fits 57 = .ok (.iconst 1, 1) := by decide +kernel
theorem dX5_fits_58 : decode cX5_fits 58 = .ok (.ireturn, 1) := by decide +kernel
theorem dX5_firstWrong_0 : decode cX5_firstWrong 0 = .ok (.iconst 0, 1) := by decide +kernel
theorem dX5_firstWrong_1 : decode cX5_firstWrong 1 = .ok (.istore_n 2, 1) := by decide +kernel
theorem dX5_firstWrong_2 : decode cX5_firstWrong 2 = .ok (.iload_n 2, 1) := by decide +kernel
theorem dX5_firstWrong_3 : decode cX5_firstWrong 3 = .ok (.aload_n 0, 1) := by decide +kernel
theorem dX5_firstWrong_4 : decode cX5_firstWrong 4 = .ok (.getfield 28, 3) := by decide +kernel
theorem dX5_firstWrong_7 : decode cX5_firstWrong 7 = .ok (.if_icmp .ge 34, 3) := by decide +kernel
theorem dX5_firstWrong_10 : decode cX5_firstWrong 10 = .ok (.aload_n 1, 1) := by decide +kernel
theorem dX5_firstWrong_11 : decode cX5_firstWrong 11 = .ok (.aload_n 0, 1) := by decide +kernel
theorem dX5_firstWrong_12 : decode cX5_firstWrong 12 = .ok (.getfield 18, 3) := by decide +kernel
theorem dX5_firstWrong_15 : decode cX5_firstWrong 15 = .ok (.iload_n 2, 1) := by decide +kernel
theorem dX5_firstWrong_16 : decode cX5_firstWrong 16 = .ok (.invokestatic 50, 3) := by decide +kernel
theorem dX5_firstWrong_19 : decode cX5_firstWrong 19 = .ok (.invokevirtual 36, 3) := by decide +kernel
theorem dX5_firstWrong_22 : decode cX5_firstWrong 22 = .ok (.aload_n 0, 1) := by decide +kernel
theorem dX5_firstWrong_23 : decode cX5_firstWrong 23 = .ok (.getfield 21, 3) := by decide +kernel
theorem dX5_firstWrong_26 : decode cX5_firstWrong 26 = .ok (.iload_n 2, 1) := by decide +kernel
theorem dX5_firstWrong_27 : decode cX5_firstWrong 27 = .ok (.invokestatic 50, 3) := by decide +kernel
theorem dX5_firstWrong_30 : decode cX5_firstWrong 30 = .ok (.if_icmp .eq 5, 3) := by decide +kernel
theorem dX5_firstWrong_33 : decode cX5_firstWrong 33 = .ok (.iload_n 2, 1) := by decide +kernel
theorem dX5_firstWrong_34 : decode cX5_firstWrong 34 = .ok (.ireturn, 1) := by decide +kernel
theorem dX5_firstWrong_35 : decode cX5_firstWrong 35 = .ok (.iinc 2 1, 3) := by decide +kernel
theorem dX5_firstWrong_38 : decode cX5_firstWrong 38 = .ok (.goto (-36), 3) := by decide +kernel
theorem dX5_firstWrong_41 : decode cX5_firstWrong 41 = .ok (.iconst (-1), 1) := by decide +kernel
theorem dX5_firstWrong_42 : decode cX5_firstWrong 42 = .ok (.ireturn, 1) := by decide +kernel
theorem dX6_init_0 : decode cX6_init 0 = .ok (.aload_n 0, 1) := by decide +kernel
theorem dX6_init_1 : decode cX6_init 1 = .ok (.invokespecial 3, 3) := by decide +kernel
theorem dX6_init_4 : decode cX6_init 4 = .ok (.aload_n 0, 1) := by decide +kernel
theorem dX6_init_5 : decode cX6_init 5 = .ok (.bipush 20, 2) := by decide +kernel
theorem dX6_init_7 : decode cX6_init 7 = .ok (.anewarray 9, 3) := by decide +kernel
theorem dX6_init_10 : decode cX6_init 10 = .ok (.putfield 11, 3) := by decide +kernel
theorem dX6_init_13 : decode cX6_init 13 = .ok (.iconst 0, 1) := by decide +kernel
theorem dX6_init_14 : decode cX6_init 14 = .ok (.istore_n 1, 1) := by decide +kernel
theorem dX6_init_15 : decode cX6_init 15 = .ok (.iload_n 1, 1) := by decide +kernel
theorem dX6_init_16 : decode cX6_init 16 = .ok (.aload_n 0, 1) := by decide +kernel
theorem dX6_init_17 : decode cX6_init 17 = .ok (.getfield 11, 3) := by decide +kernel
theorem dX6_init_20 : decode cX6_init 20 = .ok (.arraylength, 1) := by decide +kernel
theorem dX6_init_21 : decode cX6_init 21 = .ok (.if_icmp .ge 22, 3) := by decide +kernel
theorem dX6_init_24 : decode cX6_init 24 = .ok (.aload_n 0, 1) := by decide +kernel
theorem dX6_init_25 : decode cX6_init 25 = .ok (.getfield 11, 3) := by decide +kernel
theorem dX6_init_28 : decode cX6_init 28 = .ok (.iload_n 1, 1) := by decide +kernel
theorem dX6_init_29 : decode cX6_init 29 = .ok (.new 9, 3) := by decide +kernel
theorem dX6_init_32 : decode cX6_init 32 = .ok (.dup, 1) := by decide +kernel
theorem dX6_init_33 : decode cX6_init 33 = .ok (.invokespecial 17, 3) := by decide +kernel
theorem dX6_init_36 : decode cX6_init 36 = .ok (.aastore, 1) := by decide +kernel
theorem dX6_init_37 : decode cX6_init 37 = .ok (.iinc 1 1, 3) := by decide +kernel
theorem dX6_init_40 : decode cX6_init 40 = .ok (.goto (-25), 3) := by decide +kernel
theorem dX6_init_43 : decode cX6_init 43 = .ok (.return_, 1) := by decide +kernel
theorem dX6_forget_0 : decode cX6_forget 0 = .ok (.aload_n 0, 1) := by decide +kernel
theorem dX6_forget_1 : decode cX6_forget 1 = .ok (.iconst 0, 1) := by decide +kernel
theorem dX6_forget_2 : decode cX6_forget 2 = .ok (.putfield 18, 3) := by decide +kernel
theorem dX6_forget_5 : decode cX6_forget 5 = .ok (.return_, 1) := by decide +kernel
theorem dX6_push_0 : decode cX6_push 0 = .ok (.aload_n 0, 1) := by decide +kernel
theorem dX6_push_1 : decode cX6_push 1 = .ok (.getfield 18, 3) := by decide +kernel
theorem dX6_push_4 : decode cX6_push 4 = .ok (.aload_n 0, 1) := by decide +kernel
theorem dX6_push_5 : decode cX6_push 5 = .ok (.getfield 11, 3) := by decide +kernel
theorem dX6_push_8 : decode cX6_push 8 = .ok (.arraylength, 1) := by decide +kernel
theorem dX6_push_9 : decode cX6_push 9 = .ok (.if_icmp .lt 7, 3) := by decide +kernel
theorem dX6_push_12 : decode cX6_push 12 = .ok (.aload_n 0, 1) := by decide +kernel
theorem dX6_push_13 : decode cX6_push 13 = .ok (.invokevirtual 22, 3) := by decide +kernel
theorem dX6_push_16 : decode cX6_push 16 = .ok (.aload_n 0, 1) := by decide +kernel
theorem dX6_push_17 : decode cX6_push 17 = .ok (.getfield 18, 3) := by decide +kernel
theorem dX6_push_20 : decode cX6_push 20 = .ok (.ifCond .lt 27, 3) := by decide +kernel
theorem dX6_push_23 : decode cX6_push 23 = .ok (.aload_n 0, 1) := by decide +kernel
theorem dX6_push_24 : decode cX6_push 24 = .ok (.getfield 18, 3) := by decide +kernel
theorem dX6_push_27 : decode cX6_push 27 = .ok (.aload_n 0, 1) := by decide +kernel
theorem dX6_push_28 : decode cX6_push 28 = .ok (.getfield 11, 3) := by decide +kernel
theorem dX6_push_31 : decode cX6_push 31 = .ok (.arraylength, 1) := by decide +kernel
theorem dX6_push_32 : decode cX6_push 32 = .ok (.if_icmp .ge 15, 3) := by decide +kernel
theorem dX6_push_35 : decode cX6_push 35 = .ok (.aload_n 0, 1) := by decide +kernel
theorem dX6_push_36 : decode cX6_push 36 = .ok (.getfield 11, 3) := by decide +kernel
theorem dX6_push_39 : decode cX6_push 39 = .ok (.aload_n 0, 1) := by decide +kernel
theorem dX6_push_40 : decode cX6_push 40 = .ok (.getfield 18, 3) := by decide +kernel
theorem dX6_push_43 : decode cX6_push 43 = .ok (.aaload, 1) := by decide +kernel
theorem dX6_push_44 : decode cX6_push 44 = .ok (.goto 4, 3) := by decide +kernel
theorem dX6_push_47 : decode cX6_push 47 = .ok (.aconst_null, 1) := by decide +kernel
theorem dX6_push_48 : decode cX6_push 48 = .ok (.astore_n 2, 1) := by decide +kernel
theorem dX6_push_49 : decode cX6_push 49 = .ok (.aload_n 2, 1) := by decide +kernel
