theorem dX6_push_50 : decode cX6_push 50 = .ok (.ifnull 18, 3) := by decide +kernel
theorem dX6_push_53 : decode cX6_push 53 = .ok (.aload_n 2, 1) := by decide +kernel
theorem dX6_push_54 : decode cX6_push 54 = .ok (.aload_n 1, 1) := by decide +kernel
theorem dX6_push_55 : decode cX6_push 55 = .ok (.invokevirtual 25, 3) := by decide +kernel
theorem dX6_push_58 : decode cX6_push 58 = .ok (.aload_n 0, 1) := by decide +kernel
theorem dX6_push_59 : decode cX6_push 59 = .ok (.dup, 1) := by decide +kernel
theorem dX6_push_60 : decode cX6_push 60 = .ok (.getfield 18, 3) := by decide +kernel
theorem dX6_push_63 : decode cX6_push 63 = .ok (.iconst 1, 1) := by decide +kernel
theorem dX6_push_64 : decode cX6_push 64 = .ok (.iadd, 1) := by decide +kernel
theorem dX6_push_65 : decode cX6_push 65 = .ok (.putfield 18, 3) := by decide +kernel
theorem dX6_push_68 : decode cX6_push 68 = .ok (.return_, 1) := by decide +kernel
theorem dX6_pop_0 : decode cX6_pop 0 = .ok (.aload_n 0, 1) := by decide +kernel
theorem dX6_pop_1 : decode cX6_pop 1 = .ok (.getfield 18, 3) := by decide +kernel
theorem dX6_pop_4 : decode cX6_pop 4 = .ok (.iload_n 1, 1) := by decide +kernel
theorem dX6_pop_5 : decode cX6_pop 5 = .ok (.isub, 1) := by decide +kernel
theorem dX6_pop_6 : decode cX6_pop 6 = .ok (.istore_n 3, 1) := by decide +kernel
theorem dX6_pop_7 : decode cX6_pop 7 = .ok (.iload_n 3, 1) := by decide +kernel
theorem dX6_pop_8 : decode cX6_pop 8 = .ok (.ifCond .lt 21, 3) := by decide +kernel
theorem dX6_pop_11 : decode cX6_pop 11 = .ok (.iload_n 3, 1) := by decide +kernel
theorem dX6_pop_12 : decode cX6_pop 12 = .ok (.aload_n 0, 1) := by decide +kernel
theorem dX6_pop_13 : decode cX6_pop 13 = .ok (.getfield 11, 3) := by decide +kernel
theorem dX6_pop_16 : decode cX6_pop 16 = .ok (.arraylength, 1) := by decide +kernel
theorem dX6_pop_17 : decode cX6_pop 17 = .ok (.if_icmp .ge 12, 3) := by decide +kernel
theorem dX6_pop_20 : decode cX6_pop 20 = .ok (.aload_n 0, 1) := by decide +kernel
theorem dX6_pop_21 : decode cX6_pop 21 = .ok (.getfield 11, 3) := by decide +kernel
theorem dX6_pop_24 : decode cX6_pop 24 = .ok (.iload_n 3, 1) := by decide +kernel
theorem dX6_pop_25 : decode cX6_pop 25 = .ok (.aaload, 1) := by decide +kernel
theorem dX6_pop_26 : decode cX6_pop 26 = .ok (.goto 4, 3) := by decide +kernel
theorem dX6_pop_29 : decode cX6_pop 29 = .ok (.aconst_null, 1) := by decide +kernel
theorem dX6_pop_30 : decode cX6_pop 30 = .ok (.astore 4, 2) := by decide +kernel
theorem dX6_pop_32 : decode cX6_pop 32 = .ok (.aload 4, 2) := by decide +kernel
theorem dX6_pop_34 : decode cX6_pop 34 = .ok (.ifnull 14, 3) := by decide +kernel
theorem dX6_pop_37 : decode cX6_pop 37 = .ok (.aload_n 2, 1) := by decide +kernel
theorem dX6_pop_38 : decode cX6_pop 38 = .ok (.aload 4, 2) := by decide +kernel
theorem dX6_pop_40 : decode cX6_pop 40 = .ok (.invokevirtual 25, 3) := by decide +kernel
theorem dX6_pop_43 : decode cX6_pop 43 = .ok (.aload_n 0, 1) := by decide +kernel
theorem dX6_pop_44 : decode cX6_pop 44 = .ok (.iload_n 3, 1) := by decide +kernel
theorem dX6_pop_45 : decode cX6_pop 45 = .ok (.putfield 18, 3) := by decide +kernel
theorem dX6_pop_48 : decode cX6_pop 48 = .ok (.return_, 1) := by decide +kernel
theorem dX6_dropOldest_0 : decode cX6_dropOldest 0 = .ok (.aload_n 0, 1) := by decide +kernel
theorem dX6_dropOldest_1 : decode cX6_dropOldest 1 = .ok (.getfield 11, 3) := by decide +kernel
theorem dX6_dropOldest_4 : decode cX6_dropOldest 4 = .ok (.iconst 0, 1) := by decide +kernel
theorem dX6_dropOldest_5 : decode cX6_dropOldest 5 = .ok (.aaload, 1) := by decide +kernel
theorem dX6_dropOldest_6 : decode cX6_dropOldest 6 = .ok (.astore_n 1, 1) := by decide +kernel
theorem dX6_dropOldest_7 : decode cX6_dropOldest 7 = .ok (.aload_n 0, 1) := by decide +kernel
theorem dX6_dropOldest_8 : decode cX6_dropOldest 8 = .ok (.getfield 11, 3) := by decide +kernel
theorem dX6_dropOldest_11 : decode cX6_dropOldest 11 = .ok (.arraylength, 1) := by decide +kernel
theorem dX6_dropOldest_12 : decode cX6_dropOldest 12 = .ok (.iconst 1, 1) := by decide +kernel
theorem dX6_dropOldest_13 : decode cX6_dropOldest 13 = .ok (.isub, 1) := by decide +kernel
theorem dX6_dropOldest_14 : decode cX6_dropOldest 14 = .ok (.istore_n 2, 1) := by decide +kernel
theorem dX6_dropOldest_15 : decode cX6_dropOldest 15 = .ok (.iconst 0, 1) := by decide +kernel
theorem dX6_dropOldest_16 : decode cX6_dropOldest 16 = .ok (.istore_n 3, 1) := by decide +kernel
theorem dX6_dropOldest_17 : decode cX6_dropOldest 17 = .ok (.iload_n 3, 1) := by decide +kernel
theorem dX6_dropOldest_18 : decode cX6_dropOldest 18 = .ok (.iload_n 2, 1) := by decide +kernel
theorem dX6_dropOldest_19 : decode cX6_dropOldest 19 = .ok (.if_icmp .ge 23, 3) := by decide +kernel
theorem dX6_dropOldest_22 : decode cX6_dropOldest 22 = .ok (.aload_n 0, 1) := by decide +kernel
theorem dX6_dropOldest_23 : decode cX6_dropOldest 23 = .ok (.getfield 11, 3) := by decide +kernel
theorem dX6_dropOldest_26 : decode cX6_dropOldest 26 = .ok (.iload_n 3, 1) := by decide +kernel
theorem dX6_dropOldest_27 : decode cX6_dropOldest 27 = .ok (.aload_n 0, 1) := by decide +kernel
theorem dX6_dropOldest_28 : decode cX6_dropOldest 28 = .ok (.getfield 11, 3) := by decide +kernel
theorem dX6_dropOldest_31 : decode cX6_dropOldest 31 = .ok (.iload_n 3, 1) := by decide +kernel
theorem dX6_dropOldest_32 : decode cX6_dropOldest 32 = .ok (.iconst 1, 1) := by decide +kernel
theorem dX6_dropOldest_33 : decode cX6_dropOldest 33 = .ok (.iadd, 1) := by decide +kernel
theorem dX6_dropOldest_34 : decode cX6_dropOldest 34 = .ok (.aaload, 1) := by decide +kernel
theorem dX6_dropOldest_35 : decode cX6_dropOldest 35 = .ok (.aastore, 1) := by decide +kernel
theorem dX6_dropOldest_36 : decode cX6_dropOldest 36 = .ok (.iinc 3 1, 3) := by decide +kernel
theorem dX6_dropOldest_39 : decode cX6_dropOldest 39 = .ok (.goto (-22), 3) := by decide +kernel
theorem dX6_dropOldest_42 : decode cX6_dropOldest 42 = .ok (.aload_n 0, 1) := by decide +kernel
theorem dX6_dropOldest_43 : decode cX6_dropOldest 43 = .ok (.getfield 11, 3) := by decide +kernel
theorem dX6_dropOldest_46 : decode cX6_dropOldest 46 = .ok (.iload_n 2, 1) := by decide +kernel
theorem dX6_dropOldest_47 : decode cX6_dropOldest 47 = .ok (.aload_n 1, 1) := by decide +kernel
theorem dX6_dropOldest_48 : decode cX6_dropOldest 48 = .ok (.aastore, 1) := by decide +kernel
theorem dX6_dropOldest_49 : decode cX6_dropOldest 49 = .ok (.aload_n 0, 1) := by decide +kernel
theorem dX6_dropOldest_50 : decode cX6_dropOldest 50 = .ok (.iload_n 2, 1) := by decide +kernel
theorem dX6_dropOldest_51 : decode cX6_dropOldest 51 = .ok (.putfield 18, 3) := by decide +kernel
theorem dX6_dropOldest_54 : decode cX6_dropOldest 54 = .ok (.return_, 1) := by decide +kernel
theorem dX7_init_0 : decode cX7_init 0 = .ok (.aload_n 0, 1) := by decide +kernel
theorem dX7_init_1 : decode cX7_init 1 = .ok (.invokespecial 3, 3) := by decide +kernel
theorem dX7_init_4 : decode cX7_init 4 = .ok (.aload_n 0, 1) := by decide +kernel
theorem dX7_init_5 : decode cX7_init 5 = .ok (.iconst (-1), 1) := by decide +kernel
theorem dX7_init_6 : decode cX7_init 6 = .ok (.putfield 9, 3) := by decide +kernel
theorem dX7_init_9 : decode cX7_init 9 = .ok (.aload_n 0, 1) := by decide +kernel
theorem dX7_init_10 : decode cX7_init 10 = .ok (.sipush 240, 3) := by decide +kernel
theorem dX7_init_13 : decode cX7_init 13 = .ok (.newarray .int, 2) := by decide +kernel
theorem dX7_init_15 : decode cX7_init 15 = .ok (.putfield 15, 3) := by decide +kernel
theorem dX7_init_18 : decode cX7_init 18 = .ok (.return_, 1) := by decide +kernel
theorem dX7_add_0 : decode cX7_add 0 = .ok (.aload_n 0, 1) := by decide +kernel
theorem dX7_add_1 : decode cX7_add 1 = .ok (.getfield 19, 3) := by decide +kernel
theorem dX7_add_4 : decode cX7_add 4 = .ok (.sipush 240, 3) := by decide +kernel
theorem dX7_add_7 : decode cX7_add 7 = .ok (.if_icmp .lt 6, 3) := by decide +kernel
theorem dX7_add_10 : decode cX7_add 10 = .ok (.ldc 22, 2) := by decide +kernel
theorem dX7_add_12 : decode cX7_add 12 = .ok (.ireturn, 1) := by decide +kernel
theorem dX7_add_13 : decode cX7_add 13 = .ok (.aload_n 0, 1) := by decide +kernel
theorem dX7_add_14 : decode cX7_add 14 = .ok (.getfield 15, 3) := by decide +kernel
theorem dX7_add_17 : decode cX7_add 17 = .ok (.aload_n 0, 1) := by decide +kernel
theorem dX7_add_18 : decode cX7_add 18 = .ok (.getfield 19, 3) := by decide +kernel
theorem dX7_add_21 : decode cX7_add 21 = .ok (.iload_n 1, 1) := by decide +kernel
theorem dX7_add_22 : decode cX7_add 22 = .ok (.invokestatic 23, 3) := by decide +kernel
theorem dX7_add_25 : decode cX7_add 25 = .ok (.aload_n 0, 1) := by decide +kernel
theorem dX7_add_26 : decode cX7_add 26 = .ok (.dup, 1) := by decide +kernel
theorem dX7_add_27 : decode cX7_add 27 = .ok (.getfield 19, 3) := by decide +kernel
theorem dX7_add_30 : decode cX7_add 30 = .ok (.iconst 1, 1) := by decide +kernel
theorem dX7_add_31 : decode cX7_add 31 = .ok (.iadd, 1) := by decide +kernel
theorem dX7_add_32 : decode cX7_add 32 = .ok (.putfield 19, 3) := by decide +kernel
theorem dX7_add_35 : decode cX7_add 35 = .ok (.aload_n 0, 1) := by decide +kernel
theorem dX7_add_36 : decode cX7_add 36 = .ok (.getfield 19, 3) := by decide +kernel
theorem dX7_add_39 : decode cX7_add 39 = .ok (.ireturn, 1) := by decide +kernel
theorem dX7_readInto_0 : decode cX7_readInto 0 = .ok (.aload_n 1, 1) := by decide +kernel
theorem dX7_readInto_1 : decode cX7_readInto 1 = .ok (.invokevirtual 27, 3) := by decide +kernel
theorem dX7_readInto_4 : decode cX7_readInto 4 = .ok (.aload_n 0, 1) := by decide +kernel
theorem dX7_readInto_5 : decode cX7_readInto 5 = .ok (.iconst 0, 1) := by decide +kernel
theorem dX7_readInto_6 : decode cX7_readInto 6 = .ok (.putfield 32, 3) := by decide +kernel
theorem dX7_readInto_9 : decode cX7_readInto 9 = .ok (.aload_n 0, 1) := by decide +kernel
theorem dX7_readInto_10 : decode cX7_readInto 10 = .ok (.iconst 0, 1) := by decide +kernel
theorem dX7_readInto_11 : decode cX7_readInto 11 = .ok (.putfield 35, 3) := by decide +kernel
theorem dX7_readInto_14 : decode cX7_readInto 14 = .ok (.aload_n 0, 1) := by decide +kernel
theorem dX7_readInto_15 : decode cX7_readInto 15 = .ok (.iconst (-1), 1) := by decide +kernel
theorem dX7_readInto_16 : decode cX7_readInto 16 = .ok (.putfield 9, 3) := by decide +kernel
theorem dX7_readInto_19 : decode cX7_readInto 19 = .ok (.aload_n 0, 1) := by decide +kernel
theorem dX7_readInto_20 : decode cX7_readInto 20 = .ok (.invokevirtual 38, 3) := by decide +kernel
theorem dX7_readInto_23 : decode cX7_readInto 23 = .ok (.iconst (-1), 1) := by decide +kernel
theorem dX7_readInto_24 : decode cX7_readInto 24 = .ok (.if_icmp .eq 43, 3) := by decide +kernel
theorem dX7_readInto_27 : decode cX7_readInto 27 = .ok (.aload_n 0, 1) := by decide +kernel
theorem dX7_readInto_28 : decode cX7_readInto 28 = .ok (.aload_n 1, 1) := by decide +kernel
theorem dX7_readInto_29 : decode cX7_readInto 29 = .ok (.invokevirtual 42, 3) := by decide +kernel
theorem dX7_readInto_32 : decode cX7_readInto 32 = .ok (.iconst 0, 1) := by decide +kernel
theorem dX7_readInto_33 : decode cX7_readInto 33 = .ok (.istore_n 2, 1) := by decide +kernel
theorem dX7_readInto_34 : decode cX7_readInto 34 = .ok (.iload_n 2, 1) := by decide +kernel
theorem dX7_readInto_35 : decode cX7_readInto 35 = .ok (.sipush 240, 3) := by decide +kernel
theorem dX7_readInto_38 : decode cX7_readInto 38 = .ok (.if_icmp .ge 29, 3) := by decide +kernel
theorem dX7_readInto_41 : decode cX7_readInto 41 = .ok (.aload_n 0, 1) := by decide +kernel
theorem dX7_readInto_42 : decode cX7_readInto 42 = .ok (.getfield 35, 3) := by decide +kernel
theorem dX7_readInto_45 : decode cX7_readInto 45 = .ok (.ifCond .ne 22, 3) := by decide +kernel
theorem dX7_readInto_48 : decode cX7_readInto 48 = .ok (.aload_n 0, 1) := by decide +kernel
theorem dX7_readInto_49 : decode cX7_readInto 49 = .ok (.invokevirtual 38, 3) := by decide +kernel
theorem dX7_readInto_52 : decode cX7_readInto 52 = .ok (.iconst (-1), 1) := by decide +kernel
theorem dX7_readInto_53 : decode cX7_readInto 53 = .ok (.if_icmp .eq 14, 3) := by decide +kernel
theorem dX7_readInto_56 : decode cX7_readInto 56 = .ok (.aload_n 0, 1) := by decide +kernel
theorem dX7_readInto_57 : decode cX7_readInto 57 = .ok (.aload_n 1, 1) := by decide +kernel
theorem dX7_readInto_58 : decode cX7_readInto 58 = .ok (.invokevirtual 46, 3) := by decide +kernel
theorem dX7_readInto_61 : decode cX7_readInto 61 = .ok (.iinc 2 1, 3) := by decide +kernel
theorem dX7_readInto_64 : decode cX7_readInto 64 = .ok (.goto (-30), 3) := by decide +kernel
theorem dX7_readInto_67 : decode cX7_readInto 67 = .ok (.aload_n 0, 1) := by decide +kernel
theorem dX7_readInto_68 : decode cX7_readInto 68 = .ok (.iconst 0, 1) := by decide +kernel
theorem dX7_readInto_69 : decode cX7_readInto 69 = .ok (.putfield 19, 3) := by decide +kernel
theorem dX7_readInto_72 : decode cX7_readInto 72 = .ok (.aload_n 0, 1) := by decide +kernel
theorem dX7_readInto_73 : decode cX7_readInto 73 = .ok (.getfield 35, 3) := by decide +kernel
theorem dX7_readInto_76 : decode cX7_readInto 76 = .ok (.ireturn, 1) := by decide +kernel
theorem dX7_fail_0 : decode cX7_fail 0 = .ok (.aload_n 0, 1) := by decide +kernel
theorem dX7_fail_1 : decode cX7_fail 1 = .ok (.getfield 35, 3) := by decide +kernel
theorem dX7_fail_4 : decode cX7_fail 4 = .ok (.ifCond .ne 13, 3) := by decide +kernel
theorem dX7_fail_7 : decode cX7_fail 7 = .ok (.aload_n 0, 1) := by decide +kernel
theorem dX7_fail_8 : decode cX7_fail 8 = .ok (.iload_n 1, 1) := by decide +kernel
theorem dX7_fail_9 : decode cX7_fail 9 = .ok (.putfield 35, 3) := by decide +kernel
theorem dX7_fail_12 : decode cX7_fail 12 = .ok (.aload_n 0, 1) := by decide +kernel
theorem dX7_fail_13 : decode cX7_fail 13 = .ok (.iload_n 2, 1) := by decide +kernel
theorem dX7_fail_14 : decode cX7_fail 14 = .ok (.putfield 9, 3) := by decide +kernel
theorem dX7_fail_17 : decode cX7_fail 17 = .ok (.return_, 1) := by decide +kernel
theorem dX7_peek_0 : decode cX7_peek 0 = .ok (.aload_n 0, 1) := by decide +kernel
theorem dX7_peek_1 : decode cX7_peek 1 = .ok (.getfield 32, 3) := by decide +kernel
theorem dX7_peek_4 : decode cX7_peek 4 = .ok (.ifCond .lt 63, 3) := by decide +kernel
theorem dX7_peek_7 : decode cX7_peek 7 = .ok (.aload_n 0, 1) := by decide +kernel
theorem dX7_peek_8 : decode cX7_peek 8 = .ok (.getfield 32, 3) := by decide +kernel
theorem dX7_peek_11 : decode cX7_peek 11 = .ok (.aload_n 0, 1) := by decide +kernel
theorem dX7_peek_12 : decode cX7_peek 12 = .ok (.getfield 19, 3) := by decide +kernel
theorem dX7_peek_15 : decode cX7_peek 15 = .ok (.if_icmp .ge 52, 3) := by decide +kernel
theorem dX7_peek_18 : decode cX7_peek 18 = .ok (.aload_n 0, 1) := by decide +kernel
theorem dX7_peek_19 : decode cX7_peek 19 = .ok (.getfield 32, 3) := by decide +kernel
theorem dX7_peek_22 : decode cX7_peek 22 = .ok (.aload_n 0, 1) := by decide +kernel
theorem dX7_peek_23 : decode cX7_peek 23 = .ok (.getfield 15, 3) := by decide +kernel
theorem dX7_peek_26 : decode cX7_peek 26 = .ok (.arraylength, 1) := by decide +kernel
theorem dX7_peek_27 : decode cX7_peek 27 = .ok (.if_icmp .ge 40, 3) := by decide +kernel
theorem dX7_peek_30 : decode cX7_peek 30 = .ok (.aload_n 0, 1) := by decide +kernel
theorem dX7_peek_31 : decode cX7_peek 31 = .ok (.getfield 15, 3) := by decide +kernel
theorem dX7_peek_34 : decode cX7_peek 34 = .ok (.aload_n 0, 1) := by decide +kernel
theorem dX7_peek_35 : decode cX7_peek 35 = .ok (.getfield 32, 3) := by decide +kernel
theorem dX7_peek_38 : decode cX7_peek 38 = .ok (.iaload, 1) := by decide +kernel
theorem dX7_peek_39 : decode cX7_peek 39 = .ok (.bipush 32, 2) := by decide +kernel
theorem dX7_peek_41 : decode cX7_peek 41 = .ok (.if_icmp .eq 13, 3) := by decide +kernel
theorem dX7_peek_44 : decode cX7_peek 44 = .ok (.aload_n 0, 1) := by decide +kernel
theorem dX7_peek_45 : decode cX7_peek 45 = .ok (.getfield 15, 3) := by decide +kernel
theorem dX7_peek_48 : decode cX7_peek 48 = .ok (.aload_n 0, 1) := by decide +kernel
theorem dX7_peek_49 : decode cX7_peek 49 = .ok (.getfield 32, 3) := by decide +kernel
theorem dX7_peek_52 : decode cX7_peek 52 = .ok (.iaload, 1) := by decide +kernel
theorem dX7_peek_53 : decode cX7_peek 53 = .ok (.ireturn, 1) := by decide +kernel
theorem dX7_peek_54 : decode cX7_peek 54 = .ok (.aload_n 0, 1) := by decide +kernel
theorem dX7_peek_55 : decode cX7_peek 55 = .ok (.dup, 1) := by decide +kernel
theorem dX7_peek_56 : decode cX7_peek 56 = .ok (.getfield 32, 3) := by decide +kernel
theorem dX7_peek_59 : decode cX7_peek 59 = .ok (.iconst 1, 1) := by decide +kernel
theorem dX7_peek_60 : decode cX7_peek 60 = .ok (.iadd, 1) := by decide +kernel
theorem dX7_peek_61 : decode cX7_peek 61 = .ok (.putfield 32, 3) := by decide +kernel
theorem dX7_peek_64 : decode cX7_peek 64 = .ok (.goto (-64), 3) := by decide +kernel
theorem dX7_peek_67 : decode cX7_peek 67 = .ok (.iconst (-1), 1) := by decide +kernel
theorem dX7_peek_68 : decode cX7_peek 68 = .ok (.ireturn, 1) := by decide +kernel
theorem dX7_expect_0 : decode cX7_expect 0 = .ok (.aload_n 0, 1) := by decide +kernel
theorem dX7_expect_1 : decode cX7_expect 1 = .ok (.invokevirtual 38, 3) := by decide +kernel
theorem dX7_expect_4 : decode cX7_expect 4 = .ok (.iload_n 1, 1) := by decide +kernel
theorem dX7_expect_5 : decode cX7_expect 5 = .ok (.if_icmp .ne 16, 3) := by decide +kernel
theorem dX7_expect_8 : decode cX7_expect 8 = .ok (.aload_n 0, 1) := by decide +kernel
theorem dX7_expect_9 : decode cX7_expect 9 = .ok (.dup, 1) := by decide +kernel
theorem dX7_expect_10 : decode cX7_expect 10 = .ok (.getfield 32, 3) := by decide +kernel
theorem dX7_expect_13 : decode cX7_expect 13 = .ok (.iconst 1, 1) := by decide +kernel
theorem dX7_expect_14 : decode cX7_expect 14 = .ok (.iadd, 1) := by decide +kernel
theorem dX7_expect_15 : decode cX7_expect 15 = .ok (.putfield 32, 3) := by decide +kernel
theorem dX7_expect_18 : decode cX7_expect 18 = .ok (.goto 12, 3) := by decide +kernel
theorem dX7_expect_21 : decode cX7_expect 21 = .ok (.aload_n 0, 1) := by decide +kernel
theorem dX7_expect_22 : decode cX7_expect 22 = .ok (.iconst 1, 1) := by decide +kernel
theorem dX7_expect_23 : decode cX7_expect 23 = .ok (.aload_n 0, 1) := by decide +kernel
theorem dX7_expect_24 : decode cX7_expect 24 = .ok (.getfield 32, 3) := by decide +kernel
theorem dX7_expect_27 : decode cX7_expect 27 = .ok (.invokevirtual 49, 3) := by decide +kernel
theorem dX7_expect_30 : decode cX7_expect 30 = .ok (.return_, 1) := by decide +kernel
theorem dX7_readRooms_0 : decode cX7_readRooms 0 = .ok (.aload_n 0, 1) := by decide +kernel
theorem dX7_readRooms_1 : decode cX7_readRooms 1 = .ok (.bipush 114, 2) := by decide +kernel
theorem dX7_readRooms_3 : decode cX7_readRooms 3 = .ok (.invokevirtual 53, 3) := by decide +kernel
theorem dX7_readRooms_6 : decode cX7_readRooms 6 = .ok (.aload_n 0, 1) := by decide +kernel
theorem dX7_readRooms_7 : decode cX7_readRooms 7 = .ok (.getfield 35, 3) := by decide +kernel
theorem dX7_readRooms_10 : decode cX7_readRooms 10 = .ok (.ifCond .eq 4, 3) := by decide +kernel
theorem dX7_readRooms_13 : decode cX7_readRooms 13 = .ok (.return_, 1) := by decide +kernel
theorem dX7_readRooms_14 : decode cX7_readRooms 14 = .ok (.aload_n 0, 1) := by decide +kernel
theorem dX7_readRooms_15 : decode cX7_readRooms 15 = .ok (.invokevirtual 57, 3) := by decide +kernel
theorem dX7_readRooms_18 : decode cX7_readRooms 18 = .ok (.istore_n 2, 1) := by decide +kernel
theorem dX7_readRooms_19 : decode cX7_readRooms 19 = .ok (.iload_n 2, 1) := by decide +kernel
theorem dX7_readRooms_20 : decode cX7_readRooms 20 = .ok (.iconst 1, 1) := by decide +kernel
theorem dX7_readRooms_21 : decode cX7_readRooms 21 = .ok (.if_icmp .lt 9, 3) := by decide +kernel
theorem dX7_readRooms_24 : decode cX7_readRooms 24 = .ok (.iload_n 2, 1) := by decide +kernel
theorem dX7_readRooms_25 : decode cX7_readRooms 25 = .ok (.bipush 8, 2) := by decide +kernel
theorem dX7_readRooms_27 : decode cX7_readRooms 27 = .ok (.if_icmp .le 12, 3) := by decide +kernel
theorem dX7_readRooms_30 : decode cX7_readRooms 30 = .ok (.aload_n 0, 1) := by decide +kernel
theorem dX7_readRooms_31 : decode cX7_readRooms 31 = .ok (.iconst 2, 1) := by decide +kernel
theorem dX7_readRooms_32 : decode cX7_readRooms 32 = .ok (.aload_n 0, 1) := by decide +kernel
theorem dX7_readRooms_33 : decode cX7_readRooms 33 = .ok (.getfield 60, 3) := by decide +kernel
theorem dX7_readRooms_36 : decode cX7_readRooms 36 = .ok (.invokevirtual 49, 3) := by decide +kernel
theorem dX7_readRooms_39 : decode cX7_readRooms 39 = .ok (.aload_n 0, 1) := by decide +kernel
theorem dX7_readRooms_40 : decode cX7_readRooms 40 = .ok (.getfield 35, 3) := by decide +kernel
theorem dX7_readRooms_43 : decode cX7_readRooms 43 = .ok (.ifCond .ne 14, 3) := by decide +kernel
theorem dX7_readRooms_46 : decode cX7_readRooms 46 = .ok (.aload_n 1, 1) := by decide +kernel
theorem dX7_readRooms_47 : decode cX7_readRooms 47 = .ok (.iload_n 2, 1) := by decide +kernel
theorem dX7_readRooms_48 : decode cX7_readRooms 48 = .ok (.putfield 63, 3) := by decide +kernel
theorem dX7_readRooms_51 : decode cX7_readRooms 51 = .ok (.aload_n 0, 1) := by decide +kernel
theorem dX7_readRooms_52 : decode cX7_readRooms 52 = .ok (.bipush 59, 2) := by decide +kernel
theorem dX7_readRooms_54 : decode cX7_readRooms 54 = .ok (.invokevirtual 53, 3) := by decide +kernel
theorem dX7_readRooms_57 : decode cX7_readRooms 57 = .ok (.return_, 1) := by decide +kernel
theorem dX7_readClause_0 : decode cX7_readClause 0 = .ok (.aload_n 0, 1) := by decide +kernel
theorem dX7_readClause_1 : decode cX7_readClause 1 = .ok (.invokevirtual 38, 3) := by decide +kernel
theorem dX7_readClause_4 : decode cX7_readClause 4 = .ok (.istore_n 2, 1) := by decide +kernel
theorem dX7_readClause_5 : decode cX7_readClause 5 = .ok (.aload_n 0, 1) := by decide +kernel
theorem dX7_readClause_6 : decode cX7_readClause 6 = .ok (.iload_n 2, 1) := by decide +kernel
theorem dX7_readClause_7 : decode cX7_readClause 7 = .ok (.aload_n 1, 1) := by decide +kernel
theorem dX7_readClause_8 : decode cX7_readClause 8 = .ok (.getfield 66, 3) := by decide +kernel
theorem dX7_readClause_11 : decode cX7_readClause 11 = .ok (.invokevirtual 69, 3) := by decide +kernel
theorem dX7_readClause_14 : decode cX7_readClause 14 = .ok (.aload_n 0, 1) := by decide +kernel
theorem dX7_readClause_15 : decode cX7_readClause 15 = .ok (.getfield 35, 3) := by decide +kernel
theorem dX7_readClause_18 : decode cX7_readClause 18 = .ok (.ifCond .eq 4, 3) := by decide +kernel
theorem dX7_readClause_21 : decode cX7_readClause 21 = .ok (.return_, 1) := by decide +kernel
theorem dX7_readClause_22 : decode cX7_readClause 22 = .ok (.aload_n 0, 1) := by decide +kernel
theorem dX7_readClause_23 : decode cX7_readClause 23 = .ok (.dup, 1) := by decide +kernel
theorem dX7_readClause_24 : decode cX7_readClause 24 = .ok (.getfield 32, 3) := by decide +kernel
theorem dX7_readClause_27 : decode cX7_readClause 27 = .ok (.iconst 1, 1) := by decide +kernel
theorem dX7_readClause_28 : decode cX7_readClause 28 = .ok (.iadd, 1) := by decide +kernel
theorem dX7_readClause_29 : decode cX7_readClause 29 = .ok (.putfield 32, 3) := by decide +kernel
theorem dX7_readClause_32 : decode cX7_readClause 32 = .ok (.aload_n 1, 1) := by decide +kernel
theorem dX7_readClause_33 : decode cX7_readClause 33 = .ok (.invokevirtual 72, 3) := by decide +kernel
theorem dX7_readClause_36 : decode cX7_readClause 36 = .ok (.istore_n 3, 1) := by decide +kernel
theorem dX7_readClause_37 : decode cX7_readClause 37 = .ok (.iload_n 2, 1) := by decide +kernel
theorem dX7_readClause_38 : decode cX7_readClause 38 = .ok (.bipush 116, 2) := by decide +kernel
theorem dX7_readClause_40 : decode cX7_readClause 40 = .ok (.if_icmp .ne 12, 3) := by decide +kernel
theorem dX7_readClause_43 : decode cX7_readClause 43 = .ok (.aload_n 0, 1) := by decide +kernel
theorem dX7_readClause_44 : decode cX7_readClause 44 = .ok (.aload_n 1, 1) := by decide +kernel
theorem dX7_readClause_45 : decode cX7_readClause 45 = .ok (.iload_n 3, 1) := by decide +kernel
theorem dX7_readClause_46 : decode cX7_readClause 46 = .ok (.invokevirtual 75, 3) := by decide +kernel
theorem dX7_readClause_49 : decode cX7_readClause 49 = .ok (.goto 9, 3) := by decide +kernel
theorem dX7_readClause_52 : decode cX7_readClause 52 = .ok (.aload_n 0, 1) := by decide +kernel
theorem dX7_readClause_53 : decode cX7_readClause 53 = .ok (.aload_n 1, 1) := by decide +kernel
theorem dX7_readClause_54 : decode cX7_readClause 54 = .ok (.iload_n 3, 1) := by decide +kernel
theorem dX7_readClause_55 : decode cX7_readClause 55 = .ok (.invokevirtual 79, 3) := by decide +kernel
theorem dX7_readClause_58 : decode cX7_readClause 58 = .ok (.iconst 0, 1) := by decide +kernel
theorem dX7_readClause_59 : decode cX7_readClause 59 = .ok (.istore 4, 2) := by decide +kernel
theorem dX7_readClause_61 : decode cX7_readClause 61 = .ok (.iload 4, 2) := by decide +kernel
theorem dX7_readClause_63 : decode cX7_readClause 63 = .ok (.bipush 8, 2) := by decide +kernel
theorem dX7_readClause_65 : decode cX7_readClause 65 = .ok (.if_icmp .gt 41, 3) := by decide +kernel
theorem dX7_readClause_68 : decode cX7_readClause 68 = .ok (.aload_n 0, 1) := by decide +kernel
theorem dX7_readClause_69 : decode cX7_readClause 69 = .ok (.getfield 35, 3) := by decide +kernel
theorem dX7_readClause_72 : decode cX7_readClause 72 = .ok (.ifCond .ne 34, 3) := by decide +kernel
theorem dX7_readClause_75 : decode cX7_readClause 75 = .ok (.aload_n 0, 1) := by decide +kernel
theorem dX7_readClause_76 : decode cX7_readClause 76 = .ok (.invokevirtual 38, 3) := by decide +kernel
theorem dX7_readClause_79 : decode cX7_readClause 79 = .ok (.bipush 44, 2) := by decide +kernel
theorem dX7_readClause_81 : decode cX7_readClause 81 = .ok (.if_icmp .ne 25, 3) := by decide +kernel
theorem dX7_readClause_84 : decode cX7_readClause 84 = .ok (.aload_n 0, 1) := by decide +kernel
theorem dX7_readClause_85 : decode cX7_readClause 85 = .ok (.dup, 1) := by decide +kernel
theorem dX7_readClause_86 : decode cX7_readClause 86 = .ok (.getfield 32, 3) := by decide +kernel
theorem dX7_readClause_89 : decode cX7_readClause 89 = .ok (.iconst 1, 1) := by decide +kernel
theorem dX7_readClause_90 : decode cX7_readClause 90 = .ok (.iadd, 1) := by decide +kernel
theorem dX7_readClause_91 : decode cX7_readClause 91 = .ok (.putfield 32, 3) := by decide +kernel
theorem dX7_readClause_94 : decode cX7_readClause 94 = .ok (.aload_n 0, 1) := by decide +kernel
theorem dX7_readClause_95 : decode cX7_readClause 95 = .ok (.aload_n 1, 1) := by decide +kernel
theorem dX7_readClause_96 : decode cX7_readClause 96 = .ok (.iload_n 3, 1) := by decide +kernel
theorem dX7_readClause_97 : decode cX7_readClause 97 = .ok (.invokevirtual 79, 3) := by decide +kernel
theorem dX7_readClause_100 : decode cX7_readClause 100 = .ok (.iinc 4 1, 3) := by decide +kernel
theorem dX7_readClause_103 : decode cX7_readClause 103 = .ok (.goto (-42), 3) := by decide +kernel
theorem dX7_readClause_106 : decode cX7_readClause 106 = .ok (.aload_n 0, 1) := by decide +kernel
theorem dX7_readClause_107 : decode cX7_readClause 107 = .ok (.getfield 35, 3) := by decide +kernel
theorem dX7_readClause_110 : decode cX7_readClause 110 = .ok (.ifCond .ne 9, 3) := by decide +kernel
theorem dX7_readClause_113 : decode cX7_readClause 113 = .ok (.aload_n 0, 1) := by decide +kernel
theorem dX7_readClause_114 : decode cX7_readClause 114 = .ok (.bipush 59, 2) := by decide +kernel
theorem dX7_readClause_116 : decode cX7_readClause 116 = .ok (.invokevirtual 53, 3) := by decide +kernel
theorem dX7_readClause_119 : decode cX7_readClause 119 = .ok (.return_, 1) := by decide +kernel
theorem dX7_checkWord_0 : decode cX7_checkWord 0 = .ok (.iload_n 1, 1) := by decide +kernel
theorem dX7_checkWord_1 : decode cX7_checkWord 1 = .ok (.bipush 114, 2) := by decide +kernel
theorem dX7_checkWord_3 : decode cX7_checkWord 3 = .ok (.if_icmp .eq 27, 3) := by decide +kernel
theorem dX7_checkWord_6 : decode cX7_checkWord 6 = .ok (.iload_n 1, 1) := by decide +kernel
theorem dX7_checkWord_7 : decode cX7_checkWord 7 = .ok (.bipush 116, 2) := by decide +kernel
theorem dX7_checkWord_9 : decode cX7_checkWord 9 = .ok (.if_icmp .eq 21, 3) := by decide +kernel
theorem dX7_checkWord_12 : decode cX7_checkWord 12 = .ok (.iload_n 1, 1) := by decide +kernel
theorem dX7_checkWord_13 : decode cX7_checkWord 13 = .ok (.bipush 110, 2) := by decide +kernel
theorem dX7_checkWord_15 : decode cX7_checkWord 15 = .ok (.if_icmp .eq 15, 3) := by decide +kernel
theorem dX7_checkWord_18 : decode cX7_checkWord 18 = .ok (.aload_n 0, 1) := by decide +kernel
theorem dX7_checkWord_19 : decode cX7_checkWord 19 = .ok (.iconst 1, 1) := by decide +kernel
theorem dX7_checkWord_20 : decode cX7_checkWord 20 = .ok (.aload_n 0, 1) := by decide +kernel
theorem dX7_checkWord_21 : decode cX7_checkWord 21 = .ok (.getfield 32, 3) := by decide +kernel
theorem dX7_checkWord_24 : decode cX7_checkWord 24 = .ok (.invokevirtual 49, 3) := by decide +kernel
theorem dX7_checkWord_27 : decode cX7_checkWord 27 = .ok (.goto 24, 3) := by decide +kernel
theorem dX7_checkWord_30 : decode cX7_checkWord 30 = .ok (.iload_n 1, 1) := by decide +kernel
theorem dX7_checkWord_31 : decode cX7_checkWord 31 = .ok (.bipush 114, 2) := by decide +kernel
theorem dX7_checkWord_33 : decode cX7_checkWord 33 = .ok (.if_icmp .eq 9, 3) := by decide +kernel
theorem dX7_checkWord_36 : decode cX7_checkWord 36 = .ok (.iload_n 2, 1) := by decide +kernel
theorem dX7_checkWord_37 : decode cX7_checkWord 37 = .ok (.bipush 6, 2) := by decide +kernel
theorem dX7_checkWord_39 : decode cX7_checkWord 39 = .ok (.if_icmp .lt 12, 3) := by decide +kernel
theorem dX7_checkWord_42 : decode cX7_checkWord 42 = .ok (.aload_n 0, 1) := by decide +kernel
theorem dX7_checkWord_43 : decode cX7_checkWord 43 = .ok (.iconst 3, 1) := by decide +kernel
theorem dX7_checkWord_44 : decode cX7_checkWord 44 = .ok (.aload_n 0, 1) := by decide +kernel
theorem dX7_checkWord_45 : decode cX7_checkWord 45 = .ok (.getfield 32, 3) := by decide +kernel
theorem dX7_checkWord_48 : decode cX7_checkWord 48 = .ok (.invokevirtual 49, 3) := by decide +kernel
theorem dX7_checkWord_51 : decode cX7_checkWord 51 = .ok (.return_, 1) := by decide +kernel
theorem dX7_readSeat_0 : decode cX7_readSeat 0 = .ok (.aload_n 0, 1) := by decide +kernel
theorem dX7_readSeat_1 : decode cX7_readSeat 1 = .ok (.aload_n 1, 1) := by decide +kernel
theorem dX7_readSeat_2 : decode cX7_readSeat 2 = .ok (.invokevirtual 82, 3) := by decide +kernel
theorem dX7_readSeat_5 : decode cX7_readSeat 5 = .ok (.istore_n 3, 1) := by decide +kernel
theorem dX7_readSeat_6 : decode cX7_readSeat 6 = .ok (.aload_n 0, 1) := by decide +kernel
theorem dX7_readSeat_7 : decode cX7_readSeat 7 = .ok (.getfield 35, 3) := by decide +kernel
theorem dX7_readSeat_10 : decode cX7_readSeat 10 = .ok (.ifCond .ne 21, 3) := by decide +kernel
theorem dX7_readSeat_13 : decode cX7_readSeat 13 = .ok (.aload_n 1, 1) := by decide +kernel
theorem dX7_readSeat_14 : decode cX7_readSeat 14 = .ok (.iload_n 3, 1) := by decide +kernel
theorem dX7_readSeat_15 : decode cX7_readSeat 15 = .ok (.invokevirtual 86, 3) := by decide +kernel
theorem dX7_readSeat_18 : decode cX7_readSeat 18 = .ok (.iconst (-1), 1) := by decide +kernel
theorem dX7_readSeat_19 : decode cX7_readSeat 19 = .ok (.if_icmp .eq 12, 3) := by decide +kernel
theorem dX7_readSeat_22 : decode cX7_readSeat 22 = .ok (.aload_n 0, 1) := by decide +kernel
theorem dX7_readSeat_23 : decode cX7_readSeat 23 = .ok (.iconst 4, 1) := by decide +kernel
theorem dX7_readSeat_24 : decode cX7_readSeat 24 = .ok (.aload_n 0, 1) := by decide +kernel
theorem dX7_readSeat_25 : decode cX7_readSeat 25 = .ok (.getfield 60, 3) := by decide +kernel
theorem dX7_readSeat_28 : decode cX7_readSeat 28 = .ok (.invokevirtual 49, 3) := by decide +kernel
theorem dX7_readSeat_31 : decode cX7_readSeat 31 = .ok (.aload_n 0, 1) := by decide +kernel
theorem dX7_readSeat_32 : decode cX7_readSeat 32 = .ok (.getfield 35, 3) := by decide +kernel
theorem dX7_readSeat_35 : decode cX7_readSeat 35 = .ok (.ifCond .ne 9, 3) := by decide +kernel
theorem dX7_readSeat_38 : decode cX7_readSeat 38 = .ok (.aload_n 1, 1) := by decide +kernel
theorem dX7_readSeat_39 : decode cX7_readSeat 39 = .ok (.iload_n 2, 1) := by decide +kernel
theorem dX7_readSeat_40 : decode cX7_readSeat 40 = .ok (.iload_n 3, 1) := by decide +kernel
theorem dX7_readSeat_41 : decode cX7_readSeat 41 = .ok (.invokevirtual 90, 3) := by decide +kernel
theorem dX7_readSeat_44 : decode cX7_readSeat 44 = .ok (.return_, 1) := by decide +kernel
theorem dX7_readLiking_0 : decode cX7_readLiking 0 = .ok (.aload_n 0, 1) := by decide +kernel
theorem dX7_readLiking_1 : decode cX7_readLiking 1 = .ok (.aload_n 1, 1) := by decide +kernel
theorem dX7_readLiking_2 : decode cX7_readLiking 2 = .ok (.invokevirtual 82, 3) := by decide +kernel
theorem dX7_readLiking_5 : decode cX7_readLiking 5 = .ok (.istore_n 3, 1) := by decide +kernel
theorem dX7_readLiking_6 : decode cX7_readLiking 6 = .ok (.aload_n 0, 1) := by decide +kernel
theorem dX7_readLiking_7 : decode cX7_readLiking 7 = .ok (.getfield 35, 3) := by decide +kernel
theorem dX7_readLiking_10 : decode cX7_readLiking 10 = .ok (.ifCond .ne 22, 3) := by decide +kernel
theorem dX7_readLiking_13 : decode cX7_readLiking 13 = .ok (.aload_n 1, 1) := by decide +kernel
theorem dX7_readLiking_14 : decode cX7_readLiking 14 = .ok (.iload_n 2, 1) := by decide +kernel
theorem dX7_readLiking_15 : decode cX7_readLiking 15 = .ok (.iload_n 3, 1) := by decide +kernel
theorem dX7_readLiking_16 : decode cX7_readLiking 16 = .ok (.invokevirtual 93, 3) := by decide +kernel
theorem dX7_readLiking_19 : decode cX7_readLiking 19 = .ok (.iconst (-1), 1) := by decide +kernel
theorem dX7_readLiking_20 : decode cX7_readLiking 20 = .ok (.if_icmp .eq 12, 3) := by decide +kernel
theorem dX7_readLiking_23 : decode cX7_readLiking 23 = .ok (.aload_n 0, 1) := by decide +kernel
theorem dX7_readLiking_24 : decode cX7_readLiking 24 = .ok (.iconst 4, 1) := by decide +kernel
theorem dX7_readLiking_25 : decode cX7_readLiking 25 = .ok (.aload_n 0, 1) := by decide +kernel
theorem dX7_readLiking_26 : decode cX7_readLiking 26 = .ok (.getfield 60, 3) := by decide +kernel
theorem dX7_readLiking_29 : decode cX7_readLiking 29 = .ok (.invokevirtual 49, 3) := by decide +kernel
theorem dX7_readLiking_32 : decode cX7_readLiking 32 = .ok (.aload_n 0, 1) := by decide +kernel
theorem dX7_readLiking_33 : decode cX7_readLiking 33 = .ok (.getfield 35, 3) := by decide +kernel
theorem dX7_readLiking_36 : decode cX7_readLiking 36 = .ok (.ifCond .ne 9, 3) := by decide +kernel
theorem dX7_readLiking_39 : decode cX7_readLiking 39 = .ok (.aload_n 1, 1) := by decide +kernel
theorem dX7_readLiking_40 : decode cX7_readLiking 40 = .ok (.iload_n 2, 1) := by decide +kernel
theorem dX7_readLiking_41 : decode cX7_readLiking 41 = .ok (.iload_n 3, 1) := by decide +kernel
theorem dX7_readLiking_42 : decode cX7_readLiking 42 = .ok (.invokevirtual 97, 3) := by decide +kernel
theorem dX7_readLiking_45 : decode cX7_readLiking 45 = .ok (.return_, 1) := by decide +kernel
theorem dX7_readRoom_0 : decode cX7_readRoom 0 = .ok (.aload_n 0, 1) := by decide +kernel
theorem dX7_readRoom_1 : decode cX7_readRoom 1 = .ok (.invokevirtual 57, 3) := by decide +kernel
theorem dX7_readRoom_4 : decode cX7_readRoom 4 = .ok (.istore_n 2, 1) := by decide +kernel
theorem dX7_readRoom_5 : decode cX7_readRoom 5 = .ok (.aload_n 1, 1) := by decide +kernel
theorem dX7_readRoom_6 : decode cX7_readRoom 6 = .ok (.iload_n 2, 1) := by decide +kernel
theorem dX7_readRoom_7 : decode cX7_readRoom 7 = .ok (.invokevirtual 100, 3) := by decide +kernel
theorem dX7_readRoom_10 : decode cX7_readRoom 10 = .ok (.ifCond .ne 12, 3) := by decide +kernel
theorem dX7_readRoom_13 : decode cX7_readRoom 13 = .ok (.aload_n 0, 1) := by decide +kernel
theorem dX7_readRoom_14 : decode cX7_readRoom 14 = .ok (.iconst 2, 1) := by decide +kernel
theorem dX7_readRoom_15 : decode cX7_readRoom 15 = .ok (.aload_n 0, 1) := by decide +kernel
theorem dX7_readRoom_16 : decode cX7_readRoom 16 = .ok (.getfield 60, 3) := by decide +kernel
theorem dX7_readRoom_19 : decode cX7_readRoom 19 = .ok (.invokevirtual 49, 3) := by decide +kernel
theorem dX7_readRoom_22 : decode cX7_readRoom 22 = .ok (.iload_n 2, 1) := by decide +kernel
theorem dX7_readRoom_23 : decode cX7_readRoom 23 = .ok (.ireturn, 1) := by decide +kernel
theorem dX7_readNumber_0 : decode cX7_readNumber 0 = .ok (.aload_n 0, 1) := by decide +kernel
theorem dX7_readNumber_1 : decode cX7_readNumber 1 = .ok (.invokevirtual 38, 3) := by decide +kernel
theorem dX7_readNumber_4 : decode cX7_readNumber 4 = .ok (.pop, 1) := by decide +kernel
theorem dX7_readNumber_5 : decode cX7_readNumber 5 = .ok (.aload_n 0, 1) := by decide +kernel
theorem dX7_readNumber_6 : decode cX7_readNumber 6 = .ok (.aload_n 0, 1) := by decide +kernel
theorem dX7_readNumber_7 : decode cX7_readNumber 7 = .ok (.getfield 32, 3) := by decide +kernel
theorem dX7_readNumber_10 : decode cX7_readNumber 10 = .ok (.putfield 60, 3) := by decide +kernel
theorem dX7_readNumber_13 : decode cX7_readNumber 13 = .ok (.iconst 0, 1) := by decide +kernel
theorem dX7_readNumber_14 : decode cX7_readNumber 14 = .ok (.istore_n 1, 1) := by decide +kernel
theorem dX7_readNumber_15 : decode cX7_readNumber 15 = .ok (.iconst 0, 1) := by decide +kernel
theorem dX7_readNumber_16 : decode cX7_readNumber 16 = .ok (.istore_n 2, 1) := by decide +kernel
theorem dX7_readNumber_17 : decode cX7_readNumber 17 = .ok (.aload_n 0, 1) := by decide +kernel
theorem dX7_readNumber_18 : decode cX7_readNumber 18 = .ok (.getfield 32, 3) := by decide +kernel
theorem dX7_readNumber_21 : decode cX7_readNumber 21 = .ok (.aload_n 0, 1) := by decide +kernel
theorem dX7_readNumber_22 : decode cX7_readNumber 22 = .ok (.getfield 19, 3) := by decide +kernel
theorem dX7_readNumber_25 : decode cX7_readNumber 25 = .ok (.if_icmp .ge 61, 3) := by decide +kernel
theorem dX7_readNumber_28 : decode cX7_readNumber 28 = .ok (.aload_n 0, 1) := by decide +kernel
theorem dX7_readNumber_29 : decode cX7_readNumber 29 = .ok (.getfield 15, 3) := by decide +kernel
theorem dX7_readNumber_32 : decode cX7_readNumber 32 = .ok (.aload_n 0, 1) := by decide +kernel
theorem dX7_readNumber_33 : decode cX7_readNumber 33 = .ok (.getfield 32, 3) := by decide +kernel
theorem dX7_readNumber_36 : decode cX7_readNumber 36 = .ok (.invokestatic 104, 3) := by decide +kernel
theorem dX7_readNumber_39 : decode cX7_readNumber 39 = .ok (.invokestatic 108, 3) := by decide +kernel
theorem dX7_readNumber_42 : decode cX7_readNumber 42 = .ok (.ifCond .eq 44, 3) := by decide +kernel
theorem dX7_readNumber_45 : decode cX7_readNumber 45 = .ok (.iinc 2 1, 3) := by decide +kernel
theorem dX7_readNumber_48 : decode cX7_readNumber 48 = .ok (.iload_n 2, 1) := by decide +kernel
theorem dX7_readNumber_49 : decode cX7_readNumber 49 = .ok (.iconst 3, 1) := by decide +kernel
theorem dX7_readNumber_50 : decode cX7_readNumber 50 = .ok (.if_icmp .gt 23, 3) := by decide +kernel
theorem dX7_readNumber_53 : decode cX7_readNumber 53 = .ok (.iload_n 1, 1) := by decide +kernel
theorem dX7_readNumber_54 : decode cX7_readNumber 54 = .ok (.bipush 10, 2) := by decide +kernel
theorem dX7_readNumber_56 : decode cX7_readNumber 56 = .ok (.imul, 1) := by decide +kernel
theorem dX7_readNumber_57 : decode cX7_readNumber 57 = .ok (.aload_n 0, 1) := by decide +kernel
theorem dX7_readNumber_58 : decode cX7_readNumber 58 = .ok (.getfield 15, 3) := by decide +kernel
theorem dX7_readNumber_61 : decode cX7_readNumber 61 = .ok (.aload_n 0, 1) := by decide +kernel
theorem dX7_readNumber_62 : decode cX7_readNumber 62 = .ok (.getfield 32, 3) := by decide +kernel
theorem dX7_readNumber_65 : decode cX7_readNumber 65 = .ok (.invokestatic 104, 3) := by decide +kernel
theorem dX7_readNumber_68 : decode cX7_readNumber 68 = .ok (.iadd, 1) := by decide +kernel
theorem dX7_readNumber_69 : decode cX7_readNumber 69 = .ok (.bipush 48, 2) := by decide +kernel
theorem dX7_readNumber_71 : decode cX7_readNumber 71 = .ok (.isub, 1) := by decide +kernel
theorem dX7_readNumber_72 : decode cX7_readNumber 72 = .ok (.istore_n 1, 1) := by decide +kernel
theorem dX7_readNumber_73 : decode cX7_readNumber 73 = .ok (.aload_n 0, 1) := by decide +kernel
theorem dX7_readNumber_74 : decode cX7_readNumber 74 = .ok (.dup, 1) := by decide +kernel
theorem dX7_readNumber_75 : decode cX7_readNumber 75 = .ok (.getfield 32, 3) := by decide +kernel
theorem dX7_readNumber_78 : decode cX7_readNumber 78 = .ok (.iconst 1, 1) := by decide +kernel
theorem dX7_readNumber_79 : decode cX7_readNumber 79 = .ok (.iadd, 1) := by decide +kernel
theorem dX7_readNumber_80 : decode cX7_readNumber 80 = .ok (.putfield 32, 3) := by decide +kernel
theorem dX7_readNumber_83 : decode cX7_readNumber 83 = .ok (.goto (-66), 3) := by decide +kernel
theorem dX7_readNumber_86 : decode cX7_readNumber 86 = .ok (.iload_n 2, 1) := by decide +kernel
theorem dX7_readNumber_87 : decode cX7_readNumber 87 = .ok (.ifCond .ne 15, 3) := by decide +kernel
theorem dX7_readNumber_90 : decode cX7_readNumber 90 = .ok (.aload_n 0, 1) := by decide +kernel
theorem dX7_readNumber_91 : decode cX7_readNumber 91 = .ok (.iconst 1, 1) := by decide +kernel
theorem dX7_readNumber_92 : decode cX7_readNumber 92 = .ok (.aload_n 0, 1) := by decide +kernel
theorem dX7_readNumber_93 : decode cX7_readNumber 93 = .ok (.getfield 60, 3) := by decide +kernel
theorem dX7_readNumber_96 : decode cX7_readNumber 96 = .ok (.invokevirtual 49, 3) := by decide +kernel
theorem dX7_readNumber_99 : decode cX7_readNumber 99 = .ok (.goto 17, 3) := by decide +kernel
theorem dX7_readNumber_102 : decode cX7_readNumber 102 = .ok (.iload_n 2, 1) := by decide +kernel
theorem dX7_readNumber_103 : decode cX7_readNumber 103 = .ok (.iconst 3, 1) := by decide +kernel
theorem dX7_readNumber_104 : decode cX7_readNumber 104 = .ok (.if_icmp .le 12, 3) := by decide +kernel
theorem dX7_readNumber_107 : decode cX7_readNumber 107 = .ok (.aload_n 0, 1) := by decide +kernel
theorem dX7_readNumber_108 : decode cX7_readNumber 108 = .ok (.iconst 2, 1) := by decide +kernel
theorem dX7_readNumber_109 : decode cX7_readNumber 109 = .ok (.aload_n 0, 1) := by decide +kernel
theorem dX7_readNumber_110 : decode cX7_readNumber 110 = .ok (.getfield 60, 3) := by decide +kernel
theorem dX7_readNumber_113 : decode cX7_readNumber 113 = .ok (.invokevirtual 49, 3) := by decide +kernel
theorem dX7_readNumber_116 : decode cX7_readNumber 116 = .ok (.iload_n 1, 1) := by decide +kernel
theorem dX7_readNumber_117 : decode cX7_readNumber 117 = .ok (.ireturn, 1) := by decide +kernel
theorem dX7_isFigure_0 : decode cX7_isFigure 0 = .ok (.iload_n 0, 1) := by decide +kernel
theorem dX7_isFigure_1 : decode cX7_isFigure 1 = .ok (.bipush 48, 2) := by decide +kernel
theorem dX7_isFigure_3 : decode cX7_isFigure 3 = .ok (.if_icmp .lt 13, 3) := by decide +kernel
theorem dX7_isFigure_6 : decode cX7_isFigure 6 = .ok (.iload_n 0, 1) := by decide +kernel
theorem dX7_isFigure_7 : decode cX7_isFigure 7 = .ok (.bipush 57, 2) := by decide +kernel
theorem dX7_isFigure_9 : decode cX7_isFigure 9 = .ok (.if_icmp .gt 7, 3) := by decide +kernel
theorem dX7_isFigure_12 : decode cX7_isFigure 12 = .ok (.iconst 1, 1) := by decide +kernel
theorem dX7_isFigure_13 : decode cX7_isFigure 13 = .ok (.goto 4, 3) := by decide +kernel
theorem dX7_isFigure_16 : decode cX7_isFigure 16 = .ok (.iconst 0, 1) := by decide +kernel
theorem dX7_isFigure_17 : decode cX7_isFigure 17 = .ok (.ireturn, 1) := by decide +kernel
theorem dX8_init_0 : decode cX8_init 0 = .ok (.aload_n 0, 1) := by decide +kernel
theorem dX8_init_1 : decode cX8_init 1 = .ok (.invokespecial 1, 3) := by decide +kernel
theorem dX8_init_4 : decode cX8_init 4 = .ok (.aload_n 0, 1) := by decide +kernel
theorem dX8_init_5 : decode cX8_init 5 = .ok (.new 7, 3) := by decide +kernel
theorem dX8_init_8 : decode cX8_init 8 = .ok (.dup, 1) := by decide +kernel
theorem dX8_init_9 : decode cX8_init 9 = .ok (.invokespecial 9, 3) := by decide +kernel
theorem dX8_init_12 : decode cX8_init 12 = .ok (.putfield 10, 3) := by decide +kernel
theorem dX8_init_15 : decode cX8_init 15 = .ok (.aload_n 0, 1) := by decide +kernel
theorem dX8_init_16 : decode cX8_init 16 = .ok (.new 16, 3) := by decide +kernel
theorem dX8_init_19 : decode cX8_init 19 = .ok (.dup, 1) := by decide +kernel
theorem dX8_init_20 : decode cX8_init 20 = .ok (.invokespecial 18, 3) := by decide +kernel
theorem dX8_init_23 : decode cX8_init 23 = .ok (.putfield 19, 3) := by decide +kernel
theorem dX8_init_26 : decode cX8_init 26 = .ok (.aload_n 0, 1) := by decide +kernel
theorem dX8_init_27 : decode cX8_init 27 = .ok (.new 16, 3) := by decide +kernel
theorem dX8_init_30 : decode cX8_init 30 = .ok (.dup, 1) := by decide +kernel
theorem dX8_init_31 : decode cX8_init 31 = .ok (.invokespecial 18, 3) := by decide +kernel
theorem dX8_init_34 : decode cX8_init 34 = .ok (.putfield 23, 3) := by decide +kernel
theorem dX8_init_37 : decode cX8_init 37 = .ok (.aload_n 0, 1) := by decide +kernel
theorem dX8_init_38 : decode cX8_init 38 = .ok (.new 26, 3) := by decide +kernel
theorem dX8_init_41 : decode cX8_init 41 = .ok (.dup, 1) := by decide +kernel
theorem dX8_init_42 : decode cX8_init 42 = .ok (.invokespecial 28, 3) := by decide +kernel
theorem dX8_init_45 : decode cX8_init 45 = .ok (.putfield 29, 3) := by decide +kernel
theorem dX8_init_48 : decode cX8_init 48 = .ok (.aload_n 0, 1) := by decide +kernel
theorem dX8_init_49 : decode cX8_init 49 = .ok (.new 33, 3) := by decide +kernel
theorem dX8_init_52 : decode cX8_init 52 = .ok (.dup, 1) := by decide +kernel
theorem dX8_init_53 : decode cX8_init 53 = .ok (.invokespecial 35, 3) := by decide +kernel
theorem dX8_init_56 : decode cX8_init 56 = .ok (.putfield 36, 3) := by decide +kernel
theorem dX8_init_59 : decode cX8_init 59 = .ok (.aload_n 0, 1) := by decide +kernel
theorem dX8_init_60 : decode cX8_init 60 = .ok (.new 40, 3) := by decide +kernel
theorem dX8_init_63 : decode cX8_init 63 = .ok (.dup, 1) := by decide +kernel
theorem dX8_init_64 : decode cX8_init 64 = .ok (.invokespecial 42, 3) := by decide +kernel
theorem dX8_init_67 : decode cX8_init 67 = .ok (.putfield 43, 3) := by decide +kernel
theorem dX8_init_70 : decode cX8_init 70 = .ok (.aload_n 0, 1) := by decide +kernel
theorem dX8_init_71 : decode cX8_init 71 = .ok (.new 47, 3) := by decide +kernel
theorem dX8_init_74 : decode cX8_init 74 = .ok (.dup, 1) := by decide +kernel
theorem dX8_init_75 : decode cX8_init 75 = .ok (.invokespecial 49, 3) := by decide +kernel
theorem dX8_init_78 : decode cX8_init 78 = .ok (.putfield 50, 3) := by decide +kernel
theorem dX8_init_81 : decode cX8_init 81 = .ok (.aload_n 0, 1) := by decide +kernel
theorem dX8_init_82 : decode cX8_init 82 = .ok (.new 54, 3) := by decide +kernel
theorem dX8_init_85 : decode cX8_init 85 = .ok (.dup, 1) := by decide +kernel
theorem dX8_init_86 : decode cX8_init 86 = .ok (.invokespecial 56, 3) := by decide +kernel
theorem dX8_init_89 : decode cX8_init 89 = .ok (.putfield 57, 3) := by decide +kernel
theorem dX8_init_92 : decode cX8_init 92 = .ok (.aload_n 0, 1) := by decide +kernel
theorem dX8_init_93 : decode cX8_init 93 = .ok (.iconst 2, 1) := by decide +kernel
theorem dX8_init_94 : decode cX8_init 94 = .ok (.anewarray 61, 3) := by decide +kernel
theorem dX8_init_97 : decode cX8_init 97 = .ok (.putfield 63, 3) := by decide +kernel
theorem dX8_init_100 : decode cX8_init 100 = .ok (.iconst 0, 1) := by decide +kernel
theorem dX8_init_101 : decode cX8_init 101 = .ok (.istore_n 1, 1) := by decide +kernel
theorem dX8_init_102 : decode cX8_init 102 = .ok (.iload_n 1, 1) := by decide +kernel
theorem dX8_init_103 : decode cX8_init 103 = .ok (.aload_n 0, 1) := by decide +kernel
theorem dX8_init_104 : decode cX8_init 104 = .ok (.getfield 63, 3) := by decide +kernel
theorem dX8_init_107 : decode cX8_init 107 = .ok (.arraylength, 1) := by decide +kernel
theorem dX8_init_108 : decode cX8_init 108 = .ok (.if_icmp .ge 22, 3) := by decide +kernel
theorem dX8_init_111 : decode cX8_init 111 = .ok (.aload_n 0, 1) := by decide +kernel
theorem dX8_init_112 : decode cX8_init 112 = .ok (.getfield 63, 3) := by decide +kernel
theorem dX8_init_115 : decode cX8_init 115 = .ok (.iload_n 1, 1) := by decide +kernel
theorem dX8_init_116 : decode cX8_init 116 = .ok (.new 61, 3) := by decide +kernel
theorem dX8_init_119 : decode cX8_init 119 = .ok (.dup, 1) := by decide +kernel
theorem dX8_init_120 : decode cX8_init 120 = .ok (.invokespecial 67, 3) := by decide +kernel
theorem dX8_init_123 : decode cX8_init 123 = .ok (.aastore, 1) := by decide +kernel
theorem dX8_init_124 : decode cX8_init 124 = .ok (.iinc 1 1, 3) := by decide +kernel
theorem dX8_init_127 : decode cX8_init 127 = .ok (.goto (-25), 3) := by decide +kernel
theorem dX8_init_130 : decode cX8_init 130 = .ok (.return_, 1) := by decide +kernel
theorem dX8_feed_0 : decode cX8_feed 0 = .ok (.iload_n 1, 1) := by decide +kernel
theorem dX8_feed_1 : decode cX8_feed 1 = .ok (.ifCond .lt 10, 3) := by decide +kernel
theorem dX8_feed_4 : decode cX8_feed 4 = .ok (.iload_n 1, 1) := by decide +kernel
theorem dX8_feed_5 : decode cX8_feed 5 = .ok (.sipush 255, 3) := by decide +kernel
theorem dX8_feed_8 : decode cX8_feed 8 = .ok (.if_icmp .le 6, 3) := by decide +kernel
theorem dX8_feed_11 : decode cX8_feed 11 = .ok (.ldc 68, 2) := by decide +kernel
theorem dX8_feed_13 : decode cX8_feed 13 = .ok (.ireturn, 1) := by decide +kernel
theorem dX8_feed_14 : decode cX8_feed 14 = .ok (.aload_n 0, 1) := by decide +kernel
theorem dX8_feed_15 : decode cX8_feed 15 = .ok (.getfield 10, 3) := by decide +kernel
theorem dX8_feed_18 : decode cX8_feed 18 = .ok (.iload_n 1, 1) := by decide +kernel
theorem dX8_feed_19 : decode cX8_feed 19 = .ok (.invokevirtual 69, 3) := by decide +kernel
theorem dX8_feed_22 : decode cX8_feed 22 = .ok (.ireturn, 1) := by decide +kernel
theorem dX8_hostel_0 : decode cX8_hostel 0 = .ok (.aload_n 0, 1) := by decide +kernel
theorem dX8_hostel_1 : decode cX8_hostel 1 = .ok (.getfield 10, 3) := by decide +kernel
theorem dX8_hostel_4 : decode cX8_hostel 4 = .ok (.aload_n 0, 1) := by decide +kernel
theorem dX8_hostel_5 : decode cX8_hostel 5 = .ok (.getfield 23, 3) := by decide +kernel
theorem dX8_hostel_8 : decode cX8_hostel 8 = .ok (.invokevirtual 73, 3) := by decide +kernel
theorem dX8_hostel_11 : decode cX8_hostel 11 = .ok (.istore_n 1, 1) := by decide +kernel
theorem dX8_hostel_12 : decode cX8_hostel 12 = .ok (.iload_n 1, 1) := by decide +kernel
theorem dX8_hostel_13 : decode cX8_hostel 13 = .ok (.ifCond .eq 8, 3) := by decide +kernel
theorem dX8_hostel_16 : decode cX8_hostel 16 = .ok (.bipush (-10), 2) := by decide +kernel
theorem dX8_hostel_18 : decode cX8_hostel 18 = .ok (.iload_n 1, 1) := by decide +kernel
theorem dX8_hostel_19 : decode cX8_hostel 19 = .ok (.isub, 1) := by decide +kernel
theorem dX8_hostel_20 : decode cX8_hostel 20 = .ok (.ireturn, 1) := by decide +kernel
theorem dX8_hostel_21 : decode cX8_hostel 21 = .ok (.aload_n 0, 1) := by decide +kernel
theorem dX8_hostel_22 : decode cX8_hostel 22 = .ok (.getfield 19, 3) := by decide +kernel
theorem dX8_hostel_25 : decode cX8_hostel 25 = .ok (.aload_n 0, 1) := by decide +kernel
theorem dX8_hostel_26 : decode cX8_hostel 26 = .ok (.getfield 23, 3) := by decide +kernel
theorem dX8_hostel_29 : decode cX8_hostel 29 = .ok (.invokevirtual 77, 3) := by decide +kernel
theorem dX8_hostel_32 : decode cX8_hostel 32 = .ok (.aload_n 0, 1) := by decide +kernel
theorem dX8_hostel_33 : decode cX8_hostel 33 = .ok (.getfield 43, 3) := by decide +kernel
theorem dX8_hostel_36 : decode cX8_hostel 36 = .ok (.invokevirtual 81, 3) := by decide +kernel
theorem dX8_hostel_39 : decode cX8_hostel 39 = .ok (.aload_n 0, 1) := by decide +kernel
theorem dX8_hostel_40 : decode cX8_hostel 40 = .ok (.getfield 50, 3) := by decide +kernel
theorem dX8_hostel_43 : decode cX8_hostel 43 = .ok (.invokevirtual 84, 3) := by decide +kernel
theorem dX8_hostel_46 : decode cX8_hostel 46 = .ok (.iconst 0, 1) := by decide +kernel
theorem dX8_hostel_47 : decode cX8_hostel 47 = .ok (.istore_n 2, 1) := by decide +kernel
theorem dX8_hostel_48 : decode cX8_hostel 48 = .ok (.iload_n 2, 1) := by decide +kernel
theorem dX8_hostel_49 : decode cX8_hostel 49 = .ok (.aload_n 0, 1) := by decide +kernel
theorem dX8_hostel_50 : decode cX8_hostel 50 = .ok (.getfield 63, 3) := by decide +kernel
theorem dX8_hostel_53 : decode cX8_hostel 53 = .ok (.arraylength, 1) := by decide +kernel
theorem dX8_hostel_54 : decode cX8_hostel 54 = .ok (.if_icmp .ge 24, 3) := by decide +kernel
theorem dX8_hostel_57 : decode cX8_hostel 57 = .ok (.aload_n 0, 1) := by decide +kernel
theorem dX8_hostel_58 : decode cX8_hostel 58 = .ok (.getfield 63, 3) := by decide +kernel
theorem dX8_hostel_61 : decode cX8_hostel 61 = .ok (.iload_n 2, 1) := by decide +kernel
theorem dX8_hostel_62 : decode cX8_hostel 62 = .ok (.aaload, 1) := by decide +kernel
theorem dX8_hostel_63 : decode cX8_hostel 63 = .ok (.astore_n 3, 1) := by decide +kernel
theorem dX8_hostel_64 : decode cX8_hostel 64 = .ok (.aload_n 3, 1) := by decide +kernel
theorem dX8_hostel_65 : decode cX8_hostel 65 = .ok (.ifnull 7, 3) := by decide +kernel
theorem dX8_hostel_68 : decode cX8_hostel 68 = .ok (.aload_n 3, 1) := by decide +kernel
theorem dX8_hostel_69 : decode cX8_hostel 69 = .ok (.invokevirtual 87, 3) := by decide +kernel
theorem dX8_hostel_72 : decode cX8_hostel 72 = .ok (.iinc 2 1, 3) := by decide +kernel
theorem dX8_hostel_75 : decode cX8_hostel 75 = .ok (.goto (-27), 3) := by decide +kernel
theorem dX8_hostel_78 : decode cX8_hostel 78 = .ok (.aload_n 0, 1) := by decide +kernel
theorem dX8_hostel_79 : decode cX8_hostel 79 = .ok (.getfield 19, 3) := by decide +kernel
theorem dX8_hostel_82 : decode cX8_hostel 82 = .ok (.getfield 90, 3) := by decide +kernel
theorem dX8_hostel_85 : decode cX8_hostel 85 = .ok (.ireturn, 1) := by decide +kernel
theorem dX8_fault_0 : decode cX8_fault 0 = .ok (.aload_n 0, 1) := by decide +kernel
theorem dX8_fault_1 : decode cX8_fault 1 = .ok (.getfield 10, 3) := by decide +kernel
theorem dX8_fault_4 : decode cX8_fault 4 = .ok (.getfield 94, 3) := by decide +kernel
theorem dX8_fault_7 : decode cX8_fault 7 = .ok (.ireturn, 1) := by decide +kernel
theorem dX8_told_0 : decode cX8_told 0 = .ok (.iload_n 1, 1) := by decide +kernel
theorem dX8_told_1 : decode cX8_told 1 = .ok (.tableswitch 163 0 11 #[63, 71, 79, 87, 95, 107, 115, 123, 131, 139, 147, 155], 63) := by decide +kernel
theorem dX8_told_64 : decode cX8_told 64 = .ok (.aload_n 0, 1) := by decide +kernel
theorem dX8_told_65 : decode cX8_told 65 = .ok (.getfield 19, 3) := by decide +kernel
theorem dX8_told_68 : decode cX8_told 68 = .ok (.getfield 97, 3) := by decide +kernel
theorem dX8_told_71 : decode cX8_told 71 = .ok (.ireturn, 1) := by decide +kernel
theorem dX8_told_72 : decode cX8_told 72 = .ok (.aload_n 0, 1) := by decide +kernel
theorem dX8_told_73 : decode cX8_told 73 = .ok (.getfield 19, 3) := by decide +kernel
theorem dX8_told_76 : decode cX8_told 76 = .ok (.getfield 90, 3) := by decide +kernel
theorem dX8_told_79 : decode cX8_told 79 = .ok (.ireturn, 1) := by decide +kernel
theorem dX8_told_80 : decode cX8_told 80 = .ok (.aload_n 0, 1) := by decide +kernel
theorem dX8_told_81 : decode cX8_told 81 = .ok (.getfield 10, 3) := by decide +kernel
theorem dX8_told_84 : decode cX8_told 84 = .ok (.getfield 100, 3) := by decide +kernel
theorem dX8_told_87 : decode cX8_told 87 = .ok (.ireturn, 1) := by decide +kernel
theorem dX8_told_88 : decode cX8_told 88 = .ok (.aload_n 0, 1) := by decide +kernel
theorem dX8_told_89 : decode cX8_told 89 = .ok (.invokevirtual 103, 3) := by decide +kernel
theorem dX8_told_92 : decode cX8_told 92 = .ok (.getfield 107, 3) := by decide +kernel
theorem dX8_told_95 : decode cX8_told 95 = .ok (.ireturn, 1) := by decide +kernel
theorem dX8_told_96 : decode cX8_told 96 = .ok (.aload_n 0, 1) := by decide +kernel
theorem dX8_told_97 : decode cX8_told 97 = .ok (.invokevirtual 103, 3) := by decide +kernel
theorem dX8_told_100 : decode cX8_told 100 = .ok (.aload_n 0, 1) := by decide +kernel
theorem dX8_told_101 : decode cX8_told 101 = .ok (.getfield 19, 3) := by decide +kernel
theorem dX8_told_104 : decode cX8_told 104 = .ok (.invokevirtual 110, 3) := by decide +kernel
theorem dX8_told_107 : decode cX8_told 107 = .ok (.ireturn, 1) := by decide +kernel
theorem dX8_told_108 : decode cX8_told 108 = .ok (.aload_n 0, 1) := by decide +kernel
theorem dX8_told_109 : decode cX8_told 109 = .ok (.invokevirtual 103, 3) := by decide +kernel
theorem dX8_told_112 : decode cX8_told 112 = .ok (.getfield 113, 3) := by decide +kernel
theorem dX8_told_115 : decode cX8_told 115 = .ok (.ireturn, 1) := by decide +kernel
theorem dX8_told_116 : decode cX8_told 116 = .ok (.aload_n 0, 1) := by decide +kernel
theorem dX8_told_117 : decode cX8_told 117 = .ok (.getfield 19, 3) := by decide +kernel
theorem dX8_told_120 : decode cX8_told 120 = .ok (.invokevirtual 116, 3) := by decide +kernel
theorem dX8_told_123 : decode cX8_told 123 = .ok (.ireturn, 1) := by decide +kernel
theorem dX8_told_124 : decode cX8_told 124 = .ok (.aload_n 0, 1) := by decide +kernel
theorem dX8_told_125 : decode cX8_told 125 = .ok (.invokevirtual 120, 3) := by decide +kernel
theorem dX8_told_128 : decode cX8_told 128 = .ok (.getfield 124, 3) := by decide +kernel
theorem dX8_told_131 : decode cX8_told 131 = .ok (.ireturn, 1) := by decide +kernel
theorem dX8_told_132 : decode cX8_told 132 = .ok (.aload_n 0, 1) := by decide +kernel
theorem dX8_told_133 : decode cX8_told 133 = .ok (.invokevirtual 120, 3) := by decide +kernel
theorem dX8_told_136 : decode cX8_told 136 = .ok (.getfield 127, 3) := by decide +kernel
theorem dX8_told_139 : decode cX8_told 139 = .ok (.ireturn, 1) := by decide +kernel
theorem dX8_told_140 : decode cX8_told 140 = .ok (.aload_n 0, 1) := by decide +kernel
theorem dX8_told_141 : decode cX8_told 141 = .ok (.getfield 50, 3) := by decide +kernel
theorem dX8_told_144 : decode cX8_told 144 = .ok (.getfield 130, 3) := by decide +kernel
theorem dX8_told_147 : decode cX8_told 147 = .ok (.ireturn, 1) := by decide +kernel
theorem dX8_told_148 : decode cX8_told 148 = .ok (.aload_n 0, 1) := by decide +kernel
theorem dX8_told_149 : decode cX8_told 149 = .ok (.getfield 50, 3) := by decide +kernel
theorem dX8_told_152 : decode cX8_told 152 = .ok (.getfield 133, 3) := by decide +kernel
theorem dX8_told_155 : decode cX8_told 155 = .ok (.ireturn, 1) := by decide +kernel
theorem dX8_told_156 : decode cX8_told 156 = .ok (.aload_n 0, 1) := by decide +kernel
theorem dX8_told_157 : decode cX8_told 157 = .ok (.getfield 43, 3) := by decide +kernel
theorem dX8_told_160 : decode cX8_told 160 = .ok (.getfield 136, 3) := by decide +kernel
theorem dX8_told_163 : decode cX8_told 163 = .ok (.ireturn, 1) := by decide +kernel
theorem dX8_told_164 : decode cX8_told 164 = .ok (.ldc 68, 2) := by decide +kernel
theorem dX8_told_166 : decode cX8_told 166 = .ok (.ireturn, 1) := by decide +kernel
theorem dX8_person_0 : decode cX8_person 0 = .ok (.aload_n 0, 1) := by decide +kernel
theorem dX8_person_1 : decode cX8_person 1 = .ok (.getfield 19, 3) := by decide +kernel
theorem dX8_person_4 : decode cX8_person 4 = .ok (.iload_n 1, 1) := by decide +kernel
theorem dX8_person_5 : decode cX8_person 5 = .ok (.invokevirtual 139, 3) := by decide +kernel
theorem dX8_person_8 : decode cX8_person 8 = .ok (.ifCond .ne 6, 3) := by decide +kernel
theorem dX8_person_11 : decode cX8_person 11 = .ok (.ldc 143, 2) := by decide +kernel
theorem dX8_person_13 : decode cX8_person 13 = .ok (.ireturn, 1) := by decide +kernel
theorem dX8_person_14 : decode cX8_person 14 = .ok (.iload_n 2, 1) := by decide +kernel
theorem dX8_person_15 : decode cX8_person 15 = .ok (.tableswitch 122 0 7 #[45, 54, 63, 72, 81, 90, 99, 105], 45) := by decide +kernel
theorem dX8_person_60 : decode cX8_person 60 = .ok (.aload_n 0, 1) := by decide +kernel
theorem dX8_person_61 : decode cX8_person 61 = .ok (.getfield 19, 3) := by decide +kernel
theorem dX8_person_64 : decode cX8_person 64 = .ok (.iload_n 1, 1) := by decide +kernel
theorem dX8_person_65 : decode cX8_person 65 = .ok (.invokevirtual 144, 3) := by decide +kernel
theorem dX8_person_68 : decode cX8_person 68 = .ok (.ireturn, 1) := by decide +kernel
theorem dX8_person_69 : decode cX8_person 69 = .ok (.aload_n 0, 1) := by decide +kernel
theorem dX8_person_70 : decode cX8_person 70 = .ok (.getfield 19, 3) := by decide +kernel
theorem dX8_person_73 : decode cX8_person 73 = .ok (.iload_n 1, 1) := by decide +kernel
theorem dX8_person_74 : decode cX8_person 74 = .ok (.invokevirtual 147, 3) := by decide +kernel
theorem dX8_person_77 : decode cX8_person 77 = .ok (.ireturn, 1) := by decide +kernel
theorem dX8_person_78 : decode cX8_person 78 = .ok (.aload_n 0, 1) := by decide +kernel
theorem dX8_person_79 : decode cX8_person 79 = .ok (.getfield 19, 3) := by decide +kernel
theorem dX8_person_82 : decode cX8_person 82 = .ok (.iload_n 1, 1) := by decide +kernel
theorem dX8_person_83 : decode cX8_person 83 = .ok (.invokevirtual 150, 3) := by decide +kernel
theorem dX8_person_86 : decode cX8_person 86 = .ok (.ireturn, 1) := by decide +kernel
theorem dX8_person_87 : decode cX8_person 87 = .ok (.aload_n 0, 1) := by decide +kernel
theorem dX8_person_88 : decode cX8_person 88 = .ok (.invokevirtual 103, 3) := by decide +kernel
theorem dX8_person_91 : decode cX8_person 91 = .ok (.iload_n 1, 1) := by decide +kernel
theorem dX8_person_92 : decode cX8_person 92 = .ok (.invokevirtual 153, 3) := by decide +kernel
theorem dX8_person_95 : decode cX8_person 95 = .ok (.ireturn, 1) := by decide +kernel
theorem dX8_person_96 : decode cX8_person 96 = .ok (.aload_n 0, 1) := by decide +kernel
theorem dX8_person_97 : decode cX8_person 97 = .ok (.invokevirtual 103, 3) := by decide +kernel
theorem dX8_person_100 : decode cX8_person 100 = .ok (.iload_n 1, 1) := by decide +kernel
theorem dX8_person_101 : decode cX8_person 101 = .ok (.invokevirtual 156, 3) := by decide +kernel
theorem dX8_person_104 : decode cX8_person 104 = .ok (.ireturn, 1) := by decide +kernel
theorem dX8_person_105 : decode cX8_person 105 = .ok (.aload_n 0, 1) := by decide +kernel
theorem dX8_person_106 : decode cX8_person 106 = .ok (.invokevirtual 103, 3) := by decide +kernel
theorem dX8_person_109 : decode cX8_person 109 = .ok (.iload_n 1, 1) := by decide +kernel
theorem dX8_person_110 : decode cX8_person 110 = .ok (.invokevirtual 159, 3) := by decide +kernel
theorem dX8_person_113 : decode cX8_person 113 = .ok (.ireturn, 1) := by decide +kernel
theorem dX8_person_114 : decode cX8_person 114 = .ok (.aload_n 0, 1) := by decide +kernel
theorem dX8_person_115 : decode cX8_person 115 = .ok (.iload_n 1, 1) := by decide +kernel
theorem dX8_person_116 : decode cX8_person 116 = .ok (.invokevirtual 162, 3) := by decide +kernel
theorem dX8_person_119 : decode cX8_person 119 = .ok (.ireturn, 1) := by decide +kernel
theorem dX8_person_120 : decode cX8_person 120 = .ok (.aload_n 0, 1) := by decide +kernel
theorem dX8_person_121 : decode cX8_person 121 = .ok (.getfield 19, 3) := by decide +kernel
theorem dX8_person_124 : decode cX8_person 124 = .ok (.iload_n 1, 1) := by decide +kernel
theorem dX8_person_125 : decode cX8_person 125 = .ok (.aload_n 0, 1) := by decide +kernel
theorem dX8_person_126 : decode cX8_person 126 = .ok (.invokevirtual 103, 3) := by decide +kernel
theorem dX8_person_129 : decode cX8_person 129 = .ok (.iload_n 1, 1) := by decide +kernel
theorem dX8_person_130 : decode cX8_person 130 = .ok (.invokevirtual 153, 3) := by decide +kernel
