theorem dX9_sitters_4 : decode cX9_sitters 4 = .ok (.iload_n 2, 1) := by decide +kernel
theorem dX9_sitters_5 : decode cX9_sitters 5 = .ok (.aload_n 0, 1) := by decide +kernel
theorem dX9_sitters_6 : decode cX9_sitters 6 = .ok (.getfield 51, 3) := by decide +kernel
theorem dX9_sitters_9 : decode cX9_sitters 9 = .ok (.if_icmp .ge 32, 3) := by decide +kernel
theorem dX9_sitters_12 : decode cX9_sitters 12 = .ok (.iload_n 1, 1) := by decide +kernel
theorem dX9_sitters_13 : decode cX9_sitters 13 = .ok (.aload_n 0, 1) := by decide +kernel
theorem dX9_sitters_14 : decode cX9_sitters 14 = .ok (.getfield 7, 3) := by decide +kernel
theorem dX9_sitters_17 : decode cX9_sitters 17 = .ok (.bipush 54, 2) := by decide +kernel
theorem dX9_sitters_19 : decode cX9_sitters 19 = .ok (.iload_n 2, 1) := by decide +kernel
theorem dX9_sitters_20 : decode cX9_sitters 20 = .ok (.iadd, 1) := by decide +kernel
theorem dX9_sitters_21 : decode cX9_sitters 21 = .ok (.iaload, 1) := by decide +kernel
theorem dX9_sitters_22 : decode cX9_sitters 22 = .ok (.iconst (-1), 1) := by decide +kernel
theorem dX9_sitters_23 : decode cX9_sitters 23 = .ok (.if_icmp .ne 7, 3) := by decide +kernel
theorem dX9_sitters_26 : decode cX9_sitters 26 = .ok (.iconst 0, 1) := by decide +kernel
theorem dX9_sitters_27 : decode cX9_sitters 27 = .ok (.goto 6, 3) := by decide +kernel
theorem dX9_sitters_30 : decode cX9_sitters 30 = .ok (.iconst 1, 1) := by decide +kernel
theorem dX9_sitters_31 : decode cX9_sitters 31 = .ok (.iload_n 2, 1) := by decide +kernel
theorem dX9_sitters_32 : decode cX9_sitters 32 = .ok (.ishl, 1) := by decide +kernel
theorem dX9_sitters_33 : decode cX9_sitters 33 = .ok (.ior, 1) := by decide +kernel
theorem dX9_sitters_34 : decode cX9_sitters 34 = .ok (.istore_n 1, 1) := by decide +kernel
theorem dX9_sitters_35 : decode cX9_sitters 35 = .ok (.iinc 2 1, 3) := by decide +kernel
theorem dX9_sitters_38 : decode cX9_sitters 38 = .ok (.goto (-34), 3) := by decide +kernel
theorem dX9_sitters_41 : decode cX9_sitters 41 = .ok (.iload_n 1, 1) := by decide +kernel
theorem dX9_sitters_42 : decode cX9_sitters 42 = .ok (.ireturn, 1) := by decide +kernel
theorem dX9_groups_0 : decode cX9_groups 0 = .ok (.iconst (-1), 1) := by decide +kernel
theorem dX9_groups_1 : decode cX9_groups 1 = .ok (.istore_n 2, 1) := by decide +kernel
theorem dX9_groups_2 : decode cX9_groups 2 = .ok (.iconst 0, 1) := by decide +kernel
theorem dX9_groups_3 : decode cX9_groups 3 = .ok (.istore_n 3, 1) := by decide +kernel
theorem dX9_groups_4 : decode cX9_groups 4 = .ok (.iconst 1, 1) := by decide +kernel
theorem dX9_groups_5 : decode cX9_groups 5 = .ok (.istore 4, 2) := by decide +kernel
theorem dX9_groups_7 : decode cX9_groups 7 = .ok (.iload 4, 2) := by decide +kernel
theorem dX9_groups_9 : decode cX9_groups 9 = .ok (.iconst 1, 1) := by decide +kernel
theorem dX9_groups_10 : decode cX9_groups 10 = .ok (.aload_n 0, 1) := by decide +kernel
theorem dX9_groups_11 : decode cX9_groups 11 = .ok (.getfield 51, 3) := by decide +kernel
theorem dX9_groups_14 : decode cX9_groups 14 = .ok (.ishl, 1) := by decide +kernel
theorem dX9_groups_15 : decode cX9_groups 15 = .ok (.if_icmp .ge 58, 3) := by decide +kernel
theorem dX9_groups_18 : decode cX9_groups 18 = .ok (.iload 4, 2) := by decide +kernel
theorem dX9_groups_20 : decode cX9_groups 20 = .ok (.aload_n 0, 1) := by decide +kernel
theorem dX9_groups_21 : decode cX9_groups 21 = .ok (.invokevirtual 181, 3) := by decide +kernel
theorem dX9_groups_24 : decode cX9_groups 24 = .ok (.iconst (-1), 1) := by decide +kernel
theorem dX9_groups_25 : decode cX9_groups 25 = .ok (.ixor, 1) := by decide +kernel
theorem dX9_groups_26 : decode cX9_groups 26 = .ok (.iand, 1) := by decide +kernel
theorem dX9_groups_27 : decode cX9_groups 27 = .ok (.ifCond .ne 40, 3) := by decide +kernel
theorem dX9_groups_30 : decode cX9_groups 30 = .ok (.aload_n 0, 1) := by decide +kernel
theorem dX9_groups_31 : decode cX9_groups 31 = .ok (.iload 4, 2) := by decide +kernel
theorem dX9_groups_33 : decode cX9_groups 33 = .ok (.invokevirtual 184, 3) := by decide +kernel
theorem dX9_groups_36 : decode cX9_groups 36 = .ok (.iconst 1, 1) := by decide +kernel
theorem dX9_groups_37 : decode cX9_groups 37 = .ok (.if_icmp .le 30, 3) := by decide +kernel
theorem dX9_groups_40 : decode cX9_groups 40 = .ok (.iinc 3 1, 3) := by decide +kernel
theorem dX9_groups_43 : decode cX9_groups 43 = .ok (.iload_n 2, 1) := by decide +kernel
theorem dX9_groups_44 : decode cX9_groups 44 = .ok (.iconst (-1), 1) := by decide +kernel
theorem dX9_groups_45 : decode cX9_groups 45 = .ok (.if_icmp .eq 15, 3) := by decide +kernel
theorem dX9_groups_48 : decode cX9_groups 48 = .ok (.iload 4, 2) := by decide +kernel
theorem dX9_groups_50 : decode cX9_groups 50 = .ok (.invokestatic 172, 3) := by decide +kernel
theorem dX9_groups_53 : decode cX9_groups 53 = .ok (.iload_n 2, 1) := by decide +kernel
theorem dX9_groups_54 : decode cX9_groups 54 = .ok (.invokestatic 172, 3) := by decide +kernel
theorem dX9_groups_57 : decode cX9_groups 57 = .ok (.if_icmp .ge 8, 3) := by decide +kernel
theorem dX9_groups_60 : decode cX9_groups 60 = .ok (.iload 4, 2) := by decide +kernel
theorem dX9_groups_62 : decode cX9_groups 62 = .ok (.goto 4, 3) := by decide +kernel
theorem dX9_groups_65 : decode cX9_groups 65 = .ok (.iload_n 2, 1) := by decide +kernel
theorem dX9_groups_66 : decode cX9_groups 66 = .ok (.istore_n 2, 1) := by decide +kernel
theorem dX9_groups_67 : decode cX9_groups 67 = .ok (.iinc 4 1, 3) := by decide +kernel
theorem dX9_groups_70 : decode cX9_groups 70 = .ok (.goto (-63), 3) := by decide +kernel
theorem dX9_groups_73 : decode cX9_groups 73 = .ok (.iload_n 1, 1) := by decide +kernel
theorem dX9_groups_74 : decode cX9_groups 74 = .ok (.ifCond .eq 7, 3) := by decide +kernel
theorem dX9_groups_77 : decode cX9_groups 77 = .ok (.iload_n 3, 1) := by decide +kernel
theorem dX9_groups_78 : decode cX9_groups 78 = .ok (.goto 4, 3) := by decide +kernel
theorem dX9_groups_81 : decode cX9_groups 81 = .ok (.iload_n 2, 1) := by decide +kernel
theorem dX9_groups_82 : decode cX9_groups 82 = .ok (.ireturn, 1) := by decide +kernel
theorem dX9_told_0 : decode cX9_told 0 = .ok (.aload_n 0, 1) := by decide +kernel
theorem dX9_told_1 : decode cX9_told 1 = .ok (.iconst 0, 1) := by decide +kernel
theorem dX9_told_2 : decode cX9_told 2 = .ok (.invokevirtual 187, 3) := by decide +kernel
theorem dX9_told_5 : decode cX9_told 5 = .ok (.iload_n 1, 1) := by decide +kernel
theorem dX9_told_6 : decode cX9_told 6 = .ok (.tableswitch 126 0 11 #[62, 67, 72, 77, 82, 87, 93, 99, 105, 111, 116, 121], 62) := by decide +kernel
theorem dX9_told_68 : decode cX9_told 68 = .ok (.aload_n 0, 1) := by decide +kernel
theorem dX9_told_69 : decode cX9_told 69 = .ok (.getfield 58, 3) := by decide +kernel
theorem dX9_told_72 : decode cX9_told 72 = .ok (.ireturn, 1) := by decide +kernel
theorem dX9_told_73 : decode cX9_told 73 = .ok (.aload_n 0, 1) := by decide +kernel
theorem dX9_told_74 : decode cX9_told 74 = .ok (.getfield 51, 3) := by decide +kernel
theorem dX9_told_77 : decode cX9_told 77 = .ok (.ireturn, 1) := by decide +kernel
theorem dX9_told_78 : decode cX9_told 78 = .ok (.aload_n 0, 1) := by decide +kernel
theorem dX9_told_79 : decode cX9_told 79 = .ok (.getfield 62, 3) := by decide +kernel
theorem dX9_told_82 : decode cX9_told 82 = .ok (.ireturn, 1) := by decide +kernel
theorem dX9_told_83 : decode cX9_told 83 = .ok (.aload_n 0, 1) := by decide +kernel
theorem dX9_told_84 : decode cX9_told 84 = .ok (.getfield 154, 3) := by decide +kernel
theorem dX9_told_87 : decode cX9_told 87 = .ok (.ireturn, 1) := by decide +kernel
theorem dX9_told_88 : decode cX9_told 88 = .ok (.aload_n 0, 1) := by decide +kernel
theorem dX9_told_89 : decode cX9_told 89 = .ok (.invokevirtual 190, 3) := by decide +kernel
theorem dX9_told_92 : decode cX9_told 92 = .ok (.ireturn, 1) := by decide +kernel
theorem dX9_told_93 : decode cX9_told 93 = .ok (.aload_n 0, 1) := by decide +kernel
theorem dX9_told_94 : decode cX9_told 94 = .ok (.iconst 1, 1) := by decide +kernel
theorem dX9_told_95 : decode cX9_told 95 = .ok (.invokevirtual 193, 3) := by decide +kernel
theorem dX9_told_98 : decode cX9_told 98 = .ok (.ireturn, 1) := by decide +kernel
theorem dX9_told_99 : decode cX9_told 99 = .ok (.aload_n 0, 1) := by decide +kernel
theorem dX9_told_100 : decode cX9_told 100 = .ok (.iconst 0, 1) := by decide +kernel
theorem dX9_told_101 : decode cX9_told 101 = .ok (.invokevirtual 193, 3) := by decide +kernel
theorem dX9_told_104 : decode cX9_told 104 = .ok (.ireturn, 1) := by decide +kernel
theorem dX9_told_105 : decode cX9_told 105 = .ok (.aload_n 0, 1) := by decide +kernel
theorem dX9_told_106 : decode cX9_told 106 = .ok (.iconst 0, 1) := by decide +kernel
theorem dX9_told_107 : decode cX9_told 107 = .ok (.invokevirtual 196, 3) := by decide +kernel
theorem dX9_told_110 : decode cX9_told 110 = .ok (.ireturn, 1) := by decide +kernel
theorem dX9_told_111 : decode cX9_told 111 = .ok (.aload_n 0, 1) := by decide +kernel
theorem dX9_told_112 : decode cX9_told 112 = .ok (.iconst 1, 1) := by decide +kernel
theorem dX9_told_113 : decode cX9_told 113 = .ok (.invokevirtual 196, 3) := by decide +kernel
theorem dX9_told_116 : decode cX9_told 116 = .ok (.ireturn, 1) := by decide +kernel
theorem dX9_told_117 : decode cX9_told 117 = .ok (.aload_n 0, 1) := by decide +kernel
theorem dX9_told_118 : decode cX9_told 118 = .ok (.getfield 125, 3) := by decide +kernel
theorem dX9_told_121 : decode cX9_told 121 = .ok (.ireturn, 1) := by decide +kernel
theorem dX9_told_122 : decode cX9_told 122 = .ok (.aload_n 0, 1) := by decide +kernel
theorem dX9_told_123 : decode cX9_told 123 = .ok (.getfield 128, 3) := by decide +kernel
theorem dX9_told_126 : decode cX9_told 126 = .ok (.ireturn, 1) := by decide +kernel
theorem dX9_told_127 : decode cX9_told 127 = .ok (.aload_n 0, 1) := by decide +kernel
theorem dX9_told_128 : decode cX9_told 128 = .ok (.getfield 119, 3) := by decide +kernel
theorem dX9_told_131 : decode cX9_told 131 = .ok (.ireturn, 1) := by decide +kernel
theorem dX9_told_132 : decode cX9_told 132 = .ok (.ldc 61, 2) := by decide +kernel
theorem dX9_told_134 : decode cX9_told 134 = .ok (.ireturn, 1) := by decide +kernel
theorem dX9_byLot_0 : decode cX9_byLot 0 = .ok (.iconst 1, 1) := by decide +kernel
theorem dX9_byLot_1 : decode cX9_byLot 1 = .ok (.aload_n 0, 1) := by decide +kernel
theorem dX9_byLot_2 : decode cX9_byLot 2 = .ok (.getfield 58, 3) := by decide +kernel
theorem dX9_byLot_5 : decode cX9_byLot 5 = .ok (.ishl, 1) := by decide +kernel
theorem dX9_byLot_6 : decode cX9_byLot 6 = .ok (.iconst 1, 1) := by decide +kernel
theorem dX9_byLot_7 : decode cX9_byLot 7 = .ok (.isub, 1) := by decide +kernel
theorem dX9_byLot_8 : decode cX9_byLot 8 = .ok (.istore_n 2, 1) := by decide +kernel
theorem dX9_byLot_9 : decode cX9_byLot 9 = .ok (.iconst 0, 1) := by decide +kernel
theorem dX9_byLot_10 : decode cX9_byLot 10 = .ok (.istore_n 3, 1) := by decide +kernel
theorem dX9_byLot_11 : decode cX9_byLot 11 = .ok (.iconst 0, 1) := by decide +kernel
theorem dX9_byLot_12 : decode cX9_byLot 12 = .ok (.istore 4, 2) := by decide +kernel
theorem dX9_byLot_14 : decode cX9_byLot 14 = .ok (.iload 4, 2) := by decide +kernel
theorem dX9_byLot_16 : decode cX9_byLot 16 = .ok (.aload_n 0, 1) := by decide +kernel
theorem dX9_byLot_17 : decode cX9_byLot 17 = .ok (.getfield 51, 3) := by decide +kernel
theorem dX9_byLot_20 : decode cX9_byLot 20 = .ok (.if_icmp .ge 74, 3) := by decide +kernel
theorem dX9_byLot_23 : decode cX9_byLot 23 = .ok (.aload_n 0, 1) := by decide +kernel
theorem dX9_byLot_24 : decode cX9_byLot 24 = .ok (.getfield 7, 3) := by decide +kernel
theorem dX9_byLot_27 : decode cX9_byLot 27 = .ok (.bipush 60, 2) := by decide +kernel
theorem dX9_byLot_29 : decode cX9_byLot 29 = .ok (.iload 4, 2) := by decide +kernel
theorem dX9_byLot_31 : decode cX9_byLot 31 = .ok (.iadd, 1) := by decide +kernel
theorem dX9_byLot_32 : decode cX9_byLot 32 = .ok (.iaload, 1) := by decide +kernel
theorem dX9_byLot_33 : decode cX9_byLot 33 = .ok (.istore 5, 2) := by decide +kernel
theorem dX9_byLot_35 : decode cX9_byLot 35 = .ok (.iload_n 3, 1) := by decide +kernel
theorem dX9_byLot_36 : decode cX9_byLot 36 = .ok (.iconst 1, 1) := by decide +kernel
theorem dX9_byLot_37 : decode cX9_byLot 37 = .ok (.iload 5, 2) := by decide +kernel
theorem dX9_byLot_39 : decode cX9_byLot 39 = .ok (.ishl, 1) := by decide +kernel
theorem dX9_byLot_40 : decode cX9_byLot 40 = .ok (.ior, 1) := by decide +kernel
theorem dX9_byLot_41 : decode cX9_byLot 41 = .ok (.istore_n 3, 1) := by decide +kernel
theorem dX9_byLot_42 : decode cX9_byLot 42 = .ok (.aload_n 0, 1) := by decide +kernel
theorem dX9_byLot_43 : decode cX9_byLot 43 = .ok (.iconst 0, 1) := by decide +kernel
theorem dX9_byLot_44 : decode cX9_byLot 44 = .ok (.iload 5, 2) := by decide +kernel
theorem dX9_byLot_46 : decode cX9_byLot 46 = .ok (.iload_n 2, 1) := by decide +kernel
theorem dX9_byLot_47 : decode cX9_byLot 47 = .ok (.aload_n 0, 1) := by decide +kernel
theorem dX9_byLot_48 : decode cX9_byLot 48 = .ok (.iload_n 3, 1) := by decide +kernel
theorem dX9_byLot_49 : decode cX9_byLot 49 = .ok (.invokevirtual 200, 3) := by decide +kernel
theorem dX9_byLot_52 : decode cX9_byLot 52 = .ok (.iconst (-1), 1) := by decide +kernel
theorem dX9_byLot_53 : decode cX9_byLot 53 = .ok (.ixor, 1) := by decide +kernel
theorem dX9_byLot_54 : decode cX9_byLot 54 = .ok (.iand, 1) := by decide +kernel
theorem dX9_byLot_55 : decode cX9_byLot 55 = .ok (.invokevirtual 148, 3) := by decide +kernel
theorem dX9_byLot_58 : decode cX9_byLot 58 = .ok (.istore 6, 2) := by decide +kernel
theorem dX9_byLot_60 : decode cX9_byLot 60 = .ok (.iload_n 2, 1) := by decide +kernel
theorem dX9_byLot_61 : decode cX9_byLot 61 = .ok (.iload 6, 2) := by decide +kernel
theorem dX9_byLot_63 : decode cX9_byLot 63 = .ok (.iconst (-1), 1) := by decide +kernel
theorem dX9_byLot_64 : decode cX9_byLot 64 = .ok (.if_icmp .ne 7, 3) := by decide +kernel
theorem dX9_byLot_67 : decode cX9_byLot 67 = .ok (.iload_n 2, 1) := by decide +kernel
theorem dX9_byLot_68 : decode cX9_byLot 68 = .ok (.goto 9, 3) := by decide +kernel
theorem dX9_byLot_71 : decode cX9_byLot 71 = .ok (.iconst 1, 1) := by decide +kernel
theorem dX9_byLot_72 : decode cX9_byLot 72 = .ok (.iload 6, 2) := by decide +kernel
theorem dX9_byLot_74 : decode cX9_byLot 74 = .ok (.ishl, 1) := by decide +kernel
theorem dX9_byLot_75 : decode cX9_byLot 75 = .ok (.iconst (-1), 1) := by decide +kernel
theorem dX9_byLot_76 : decode cX9_byLot 76 = .ok (.ixor, 1) := by decide +kernel
theorem dX9_byLot_77 : decode cX9_byLot 77 = .ok (.iand, 1) := by decide +kernel
theorem dX9_byLot_78 : decode cX9_byLot 78 = .ok (.istore_n 2, 1) := by decide +kernel
theorem dX9_byLot_79 : decode cX9_byLot 79 = .ok (.iload 5, 2) := by decide +kernel
theorem dX9_byLot_81 : decode cX9_byLot 81 = .ok (.iload_n 1, 1) := by decide +kernel
theorem dX9_byLot_82 : decode cX9_byLot 82 = .ok (.if_icmp .ne 6, 3) := by decide +kernel
theorem dX9_byLot_85 : decode cX9_byLot 85 = .ok (.iload 6, 2) := by decide +kernel
theorem dX9_byLot_87 : decode cX9_byLot 87 = .ok (.ireturn, 1) := by decide +kernel
theorem dX9_byLot_88 : decode cX9_byLot 88 = .ok (.iinc 4 1, 3) := by decide +kernel
theorem dX9_byLot_91 : decode cX9_byLot 91 = .ok (.goto (-77), 3) := by decide +kernel
theorem dX9_byLot_94 : decode cX9_byLot 94 = .ok (.iconst (-1), 1) := by decide +kernel
theorem dX9_byLot_95 : decode cX9_byLot 95 = .ok (.ireturn, 1) := by decide +kernel
theorem dX9_kept_0 : decode cX9_kept 0 = .ok (.iconst 0, 1) := by decide +kernel
theorem dX9_kept_1 : decode cX9_kept 1 = .ok (.istore_n 2, 1) := by decide +kernel
theorem dX9_kept_2 : decode cX9_kept 2 = .ok (.iconst 0, 1) := by decide +kernel
theorem dX9_kept_3 : decode cX9_kept 3 = .ok (.istore_n 3, 1) := by decide +kernel
theorem dX9_kept_4 : decode cX9_kept 4 = .ok (.iload_n 3, 1) := by decide +kernel
theorem dX9_kept_5 : decode cX9_kept 5 = .ok (.aload_n 0, 1) := by decide +kernel
theorem dX9_kept_6 : decode cX9_kept 6 = .ok (.getfield 51, 3) := by decide +kernel
theorem dX9_kept_9 : decode cX9_kept 9 = .ok (.if_icmp .ge 48, 3) := by decide +kernel
theorem dX9_kept_12 : decode cX9_kept 12 = .ok (.iload_n 2, 1) := by decide +kernel
theorem dX9_kept_13 : decode cX9_kept 13 = .ok (.iload_n 1, 1) := by decide +kernel
theorem dX9_kept_14 : decode cX9_kept 14 = .ok (.iload_n 3, 1) := by decide +kernel
theorem dX9_kept_15 : decode cX9_kept 15 = .ok (.invokestatic 134, 3) := by decide +kernel
theorem dX9_kept_18 : decode cX9_kept 18 = .ok (.ifCond .ne 30, 3) := by decide +kernel
theorem dX9_kept_21 : decode cX9_kept 21 = .ok (.aload_n 0, 1) := by decide +kernel
theorem dX9_kept_22 : decode cX9_kept 22 = .ok (.getfield 7, 3) := by decide +kernel
theorem dX9_kept_25 : decode cX9_kept 25 = .ok (.bipush 54, 2) := by decide +kernel
theorem dX9_kept_27 : decode cX9_kept 27 = .ok (.iload_n 3, 1) := by decide +kernel
theorem dX9_kept_28 : decode cX9_kept 28 = .ok (.iadd, 1) := by decide +kernel
theorem dX9_kept_29 : decode cX9_kept 29 = .ok (.iaload, 1) := by decide +kernel
theorem dX9_kept_30 : decode cX9_kept 30 = .ok (.iconst (-1), 1) := by decide +kernel
theorem dX9_kept_31 : decode cX9_kept 31 = .ok (.if_icmp .eq 17, 3) := by decide +kernel
theorem dX9_kept_34 : decode cX9_kept 34 = .ok (.iconst 1, 1) := by decide +kernel
theorem dX9_kept_35 : decode cX9_kept 35 = .ok (.aload_n 0, 1) := by decide +kernel
theorem dX9_kept_36 : decode cX9_kept 36 = .ok (.getfield 7, 3) := by decide +kernel
theorem dX9_kept_39 : decode cX9_kept 39 = .ok (.bipush 54, 2) := by decide +kernel
theorem dX9_kept_41 : decode cX9_kept 41 = .ok (.iload_n 3, 1) := by decide +kernel
theorem dX9_kept_42 : decode cX9_kept 42 = .ok (.iadd, 1) := by decide +kernel
theorem dX9_kept_43 : decode cX9_kept 43 = .ok (.iaload, 1) := by decide +kernel
theorem dX9_kept_44 : decode cX9_kept 44 = .ok (.ishl, 1) := by decide +kernel
theorem dX9_kept_45 : decode cX9_kept 45 = .ok (.goto 4, 3) := by decide +kernel
theorem dX9_kept_48 : decode cX9_kept 48 = .ok (.iconst 0, 1) := by decide +kernel
theorem dX9_kept_49 : decode cX9_kept 49 = .ok (.ior, 1) := by decide +kernel
theorem dX9_kept_50 : decode cX9_kept 50 = .ok (.istore_n 2, 1) := by decide +kernel
theorem dX9_kept_51 : decode cX9_kept 51 = .ok (.iinc 3 1, 3) := by decide +kernel
theorem dX9_kept_54 : decode cX9_kept 54 = .ok (.goto (-50), 3) := by decide +kernel
theorem dX9_kept_57 : decode cX9_kept 57 = .ok (.iload_n 2, 1) := by decide +kernel
theorem dX9_kept_58 : decode cX9_kept 58 = .ok (.ireturn, 1) := by decide +kernel
theorem dX9_placeInLots_0 : decode cX9_placeInLots 0 = .ok (.iconst 0, 1) := by decide +kernel
theorem dX9_placeInLots_1 : decode cX9_placeInLots 1 = .ok (.istore_n 2, 1) := by decide +kernel
theorem dX9_placeInLots_2 : decode cX9_placeInLots 2 = .ok (.aload_n 0, 1) := by decide +kernel
theorem dX9_placeInLots_3 : decode cX9_placeInLots 3 = .ok (.getfield 7, 3) := by decide +kernel
theorem dX9_placeInLots_6 : decode cX9_placeInLots 6 = .ok (.bipush 60, 2) := by decide +kernel
theorem dX9_placeInLots_8 : decode cX9_placeInLots 8 = .ok (.iload_n 2, 1) := by decide +kernel
theorem dX9_placeInLots_9 : decode cX9_placeInLots 9 = .ok (.iadd, 1) := by decide +kernel
theorem dX9_placeInLots_10 : decode cX9_placeInLots 10 = .ok (.iaload, 1) := by decide +kernel
theorem dX9_placeInLots_11 : decode cX9_placeInLots 11 = .ok (.iload_n 1, 1) := by decide +kernel
theorem dX9_placeInLots_12 : decode cX9_placeInLots 12 = .ok (.if_icmp .eq 9, 3) := by decide +kernel
theorem dX9_placeInLots_15 : decode cX9_placeInLots 15 = .ok (.iinc 2 1, 3) := by decide +kernel
theorem dX9_placeInLots_18 : decode cX9_placeInLots 18 = .ok (.goto (-16), 3) := by decide +kernel
theorem dX9_placeInLots_21 : decode cX9_placeInLots 21 = .ok (.iload_n 2, 1) := by decide +kernel
theorem dX9_placeInLots_22 : decode cX9_placeInLots 22 = .ok (.ireturn, 1) := by decide +kernel
theorem dX9_better_0 : decode cX9_better 0 = .ok (.aload_n 0, 1) := by decide +kernel
theorem dX9_better_1 : decode cX9_better 1 = .ok (.getfield 20, 3) := by decide +kernel
theorem dX9_better_4 : decode cX9_better 4 = .ok (.iload_n 1, 1) := by decide +kernel
theorem dX9_better_5 : decode cX9_better 5 = .ok (.iaload, 1) := by decide +kernel
theorem dX9_better_6 : decode cX9_better 6 = .ok (.iconst (-1), 1) := by decide +kernel
theorem dX9_better_7 : decode cX9_better 7 = .ok (.if_icmp .ne 12, 3) := by decide +kernel
theorem dX9_better_10 : decode cX9_better 10 = .ok (.aload_n 0, 1) := by decide +kernel
theorem dX9_better_11 : decode cX9_better 11 = .ok (.iconst 0, 1) := by decide +kernel
theorem dX9_better_12 : decode cX9_better 12 = .ok (.iload_n 1, 1) := by decide +kernel
theorem dX9_better_13 : decode cX9_better 13 = .ok (.invokevirtual 131, 3) := by decide +kernel
theorem dX9_better_16 : decode cX9_better 16 = .ok (.goto 15, 3) := by decide +kernel
theorem dX9_better_19 : decode cX9_better 19 = .ok (.aload_n 0, 1) := by decide +kernel
theorem dX9_better_20 : decode cX9_better 20 = .ok (.iconst 0, 1) := by decide +kernel
theorem dX9_better_21 : decode cX9_better 21 = .ok (.iload_n 1, 1) := by decide +kernel
theorem dX9_better_22 : decode cX9_better 22 = .ok (.aload_n 0, 1) := by decide +kernel
theorem dX9_better_23 : decode cX9_better 23 = .ok (.getfield 20, 3) := by decide +kernel
theorem dX9_better_26 : decode cX9_better 26 = .ok (.iload_n 1, 1) := by decide +kernel
theorem dX9_better_27 : decode cX9_better 27 = .ok (.iaload, 1) := by decide +kernel
theorem dX9_better_28 : decode cX9_better 28 = .ok (.invokevirtual 178, 3) := by decide +kernel
theorem dX9_better_31 : decode cX9_better 31 = .ok (.ireturn, 1) := by decide +kernel
theorem dX9_person_0 : decode cX9_person 0 = .ok (.aload_n 0, 1) := by decide +kernel
theorem dX9_person_1 : decode cX9_person 1 = .ok (.iload_n 1, 1) := by decide +kernel
theorem dX9_person_2 : decode cX9_person 2 = .ok (.invokevirtual 202, 3) := by decide +kernel
theorem dX9_person_5 : decode cX9_person 5 = .ok (.ifCond .ne 6, 3) := by decide +kernel
theorem dX9_person_8 : decode cX9_person 8 = .ok (.ldc 206, 2) := by decide +kernel
theorem dX9_person_10 : decode cX9_person 10 = .ok (.ireturn, 1) := by decide +kernel
theorem dX9_person_11 : decode cX9_person 11 = .ok (.aload_n 0, 1) := by decide +kernel
theorem dX9_person_12 : decode cX9_person 12 = .ok (.iconst 0, 1) := by decide +kernel
theorem dX9_person_13 : decode cX9_person 13 = .ok (.invokevirtual 187, 3) := by decide +kernel
theorem dX9_person_16 : decode cX9_person 16 = .ok (.iload_n 2, 1) := by decide +kernel
theorem dX9_person_17 : decode cX9_person 17 = .ok (.tableswitch 106 0 7 #[47, 57, 67, 73, 80, 87, 94, 100], 47) := by decide +kernel
theorem dX9_person_64 : decode cX9_person 64 = .ok (.aload_n 0, 1) := by decide +kernel
theorem dX9_person_65 : decode cX9_person 65 = .ok (.getfield 7, 3) := by decide +kernel
theorem dX9_person_68 : decode cX9_person 68 = .ok (.bipush 54, 2) := by decide +kernel
theorem dX9_person_70 : decode cX9_person 70 = .ok (.iload_n 1, 1) := by decide +kernel
theorem dX9_person_71 : decode cX9_person 71 = .ok (.iadd, 1) := by decide +kernel
theorem dX9_person_72 : decode cX9_person 72 = .ok (.iaload, 1) := by decide +kernel
theorem dX9_person_73 : decode cX9_person 73 = .ok (.ireturn, 1) := by decide +kernel
theorem dX9_person_74 : decode cX9_person 74 = .ok (.aload_n 0, 1) := by decide +kernel
theorem dX9_person_75 : decode cX9_person 75 = .ok (.getfield 7, 3) := by decide +kernel
theorem dX9_person_78 : decode cX9_person 78 = .ok (.bipush 48, 2) := by decide +kernel
theorem dX9_person_80 : decode cX9_person 80 = .ok (.iload_n 1, 1) := by decide +kernel
theorem dX9_person_81 : decode cX9_person 81 = .ok (.iadd, 1) := by decide +kernel
theorem dX9_person_82 : decode cX9_person 82 = .ok (.iaload, 1) := by decide +kernel
theorem dX9_person_83 : decode cX9_person 83 = .ok (.ireturn, 1) := by decide +kernel
theorem dX9_person_84 : decode cX9_person 84 = .ok (.aload_n 0, 1) := by decide +kernel
theorem dX9_person_85 : decode cX9_person 85 = .ok (.iload_n 1, 1) := by decide +kernel
theorem dX9_person_86 : decode cX9_person 86 = .ok (.invokevirtual 207, 3) := by decide +kernel
theorem dX9_person_89 : decode cX9_person 89 = .ok (.ireturn, 1) := by decide +kernel
theorem dX9_person_90 : decode cX9_person 90 = .ok (.aload_n 0, 1) := by decide +kernel
theorem dX9_person_91 : decode cX9_person 91 = .ok (.getfield 20, 3) := by decide +kernel
theorem dX9_person_94 : decode cX9_person 94 = .ok (.iload_n 1, 1) := by decide +kernel
theorem dX9_person_95 : decode cX9_person 95 = .ok (.iaload, 1) := by decide +kernel
theorem dX9_person_96 : decode cX9_person 96 = .ok (.ireturn, 1) := by decide +kernel
theorem dX9_person_97 : decode cX9_person 97 = .ok (.aload_n 0, 1) := by decide +kernel
theorem dX9_person_98 : decode cX9_person 98 = .ok (.getfield 23, 3) := by decide +kernel
theorem dX9_person_101 : decode cX9_person 101 = .ok (.iload_n 1, 1) := by decide +kernel
theorem dX9_person_102 : decode cX9_person 102 = .ok (.iaload, 1) := by decide +kernel
theorem dX9_person_103 : decode cX9_person 103 = .ok (.ireturn, 1) := by decide +kernel
theorem dX9_person_104 : decode cX9_person 104 = .ok (.aload_n 0, 1) := by decide +kernel
theorem dX9_person_105 : decode cX9_person 105 = .ok (.getfield 26, 3) := by decide +kernel
theorem dX9_person_108 : decode cX9_person 108 = .ok (.iload_n 1, 1) := by decide +kernel
theorem dX9_person_109 : decode cX9_person 109 = .ok (.iaload, 1) := by decide +kernel
theorem dX9_person_110 : decode cX9_person 110 = .ok (.ireturn, 1) := by decide +kernel
theorem dX9_person_111 : decode cX9_person 111 = .ok (.aload_n 0, 1) := by decide +kernel
theorem dX9_person_112 : decode cX9_person 112 = .ok (.iload_n 1, 1) := by decide +kernel
theorem dX9_person_113 : decode cX9_person 113 = .ok (.invokevirtual 210, 3) := by decide +kernel
theorem dX9_person_116 : decode cX9_person 116 = .ok (.ireturn, 1) := by decide +kernel
theorem dX9_person_117 : decode cX9_person 117 = .ok (.aload_n 0, 1) := by decide +kernel
theorem dX9_person_118 : decode cX9_person 118 = .ok (.iload_n 1, 1) := by decide +kernel
theorem dX9_person_119 : decode cX9_person 119 = .ok (.invokevirtual 213, 3) := by decide +kernel
theorem dX9_person_122 : decode cX9_person 122 = .ok (.ireturn, 1) := by decide +kernel
theorem dX9_person_123 : decode cX9_person 123 = .ok (.ldc 61, 2) := by decide +kernel
theorem dX9_person_125 : decode cX9_person 125 = .ok (.ireturn, 1) := by decide +kernel
theorem dX9_likes_0 : decode cX9_likes 0 = .ok (.aload_n 0, 1) := by decide +kernel
theorem dX9_likes_1 : decode cX9_likes 1 = .ok (.iload_n 1, 1) := by decide +kernel
theorem dX9_likes_2 : decode cX9_likes 2 = .ok (.invokevirtual 202, 3) := by decide +kernel
theorem dX9_likes_5 : decode cX9_likes 5 = .ok (.ifCond .ne 6, 3) := by decide +kernel
theorem dX9_likes_8 : decode cX9_likes 8 = .ok (.ldc 206, 2) := by decide +kernel
theorem dX9_likes_10 : decode cX9_likes 10 = .ok (.ireturn, 1) := by decide +kernel
theorem dX9_likes_11 : decode cX9_likes 11 = .ok (.iload_n 2, 1) := by decide +kernel
theorem dX9_likes_12 : decode cX9_likes 12 = .ok (.iconst 0, 1) := by decide +kernel
theorem dX9_likes_13 : decode cX9_likes 13 = .ok (.aload_n 0, 1) := by decide +kernel
theorem dX9_likes_14 : decode cX9_likes 14 = .ok (.getfield 7, 3) := by decide +kernel
theorem dX9_likes_17 : decode cX9_likes 17 = .ok (.bipush 48, 2) := by decide +kernel
theorem dX9_likes_19 : decode cX9_likes 19 = .ok (.iload_n 1, 1) := by decide +kernel
theorem dX9_likes_20 : decode cX9_likes 20 = .ok (.iadd, 1) := by decide +kernel
theorem dX9_likes_21 : decode cX9_likes 21 = .ok (.iaload, 1) := by decide +kernel
theorem dX9_likes_22 : decode cX9_likes 22 = .ok (.iconst 1, 1) := by decide +kernel
theorem dX9_likes_23 : decode cX9_likes 23 = .ok (.isub, 1) := by decide +kernel
theorem dX9_likes_24 : decode cX9_likes 24 = .ok (.invokestatic 54, 3) := by decide +kernel
theorem dX9_likes_27 : decode cX9_likes 27 = .ok (.ifCond .eq 17, 3) := by decide +kernel
theorem dX9_likes_30 : decode cX9_likes 30 = .ok (.aload_n 0, 1) := by decide +kernel
theorem dX9_likes_31 : decode cX9_likes 31 = .ok (.getfield 7, 3) := by decide +kernel
theorem dX9_likes_34 : decode cX9_likes 34 = .ok (.bipush 8, 2) := by decide +kernel
theorem dX9_likes_36 : decode cX9_likes 36 = .ok (.iload_n 1, 1) := by decide +kernel
theorem dX9_likes_37 : decode cX9_likes 37 = .ok (.imul, 1) := by decide +kernel
theorem dX9_likes_38 : decode cX9_likes 38 = .ok (.iload_n 2, 1) := by decide +kernel
theorem dX9_likes_39 : decode cX9_likes 39 = .ok (.iadd, 1) := by decide +kernel
theorem dX9_likes_40 : decode cX9_likes 40 = .ok (.iaload, 1) := by decide +kernel
theorem dX9_likes_41 : decode cX9_likes 41 = .ok (.goto 4, 3) := by decide +kernel
theorem dX9_likes_44 : decode cX9_likes 44 = .ok (.iconst (-1), 1) := by decide +kernel
theorem dX9_likes_45 : decode cX9_likes 45 = .ok (.ireturn, 1) := by decide +kernel
theorem dX9_room_0 : decode cX9_room 0 = .ok (.aload_n 0, 1) := by decide +kernel
theorem dX9_room_1 : decode cX9_room 1 = .ok (.iload_n 1, 1) := by decide +kernel
theorem dX9_room_2 : decode cX9_room 2 = .ok (.invokevirtual 216, 3) := by decide +kernel
theorem dX9_room_5 : decode cX9_room 5 = .ok (.ifCond .ne 6, 3) := by decide +kernel
theorem dX9_room_8 : decode cX9_room 8 = .ok (.ldc 206, 2) := by decide +kernel
theorem dX9_room_10 : decode cX9_room 10 = .ok (.ireturn, 1) := by decide +kernel
theorem dX9_room_11 : decode cX9_room 11 = .ok (.iload_n 2, 1) := by decide +kernel
theorem dX9_room_12 : decode cX9_room 12 = .ok (.iconst 0, 1) := by decide +kernel
theorem dX9_room_13 : decode cX9_room 13 = .ok (.iconst 1, 1) := by decide +kernel
theorem dX9_room_14 : decode cX9_room 14 = .ok (.invokestatic 54, 3) := by decide +kernel
theorem dX9_room_17 : decode cX9_room 17 = .ok (.ifCond .ne 6, 3) := by decide +kernel
theorem dX9_room_20 : decode cX9_room 20 = .ok (.ldc 61, 2) := by decide +kernel
theorem dX9_room_22 : decode cX9_room 22 = .ok (.ireturn, 1) := by decide +kernel
theorem dX9_room_23 : decode cX9_room 23 = .ok (.aload_n 0, 1) := by decide +kernel
theorem dX9_room_24 : decode cX9_room 24 = .ok (.iconst 0, 1) := by decide +kernel
theorem dX9_room_25 : decode cX9_room 25 = .ok (.invokevirtual 187, 3) := by decide +kernel
theorem dX9_room_28 : decode cX9_room 28 = .ok (.iload_n 2, 1) := by decide +kernel
theorem dX9_room_29 : decode cX9_room 29 = .ok (.ifCond .ne 16, 3) := by decide +kernel
theorem dX9_room_32 : decode cX9_room 32 = .ok (.aload_n 0, 1) := by decide +kernel
theorem dX9_room_33 : decode cX9_room 33 = .ok (.iconst 0, 1) := by decide +kernel
theorem dX9_room_34 : decode cX9_room 34 = .ok (.aload_n 0, 1) := by decide +kernel
theorem dX9_room_35 : decode cX9_room 35 = .ok (.getfield 51, 3) := by decide +kernel
theorem dX9_room_38 : decode cX9_room 38 = .ok (.iload_n 1, 1) := by decide +kernel
theorem dX9_room_39 : decode cX9_room 39 = .ok (.invokevirtual 104, 3) := by decide +kernel
theorem dX9_room_42 : decode cX9_room 42 = .ok (.goto 8, 3) := by decide +kernel
theorem dX9_room_45 : decode cX9_room 45 = .ok (.aload_n 0, 1) := by decide +kernel
theorem dX9_room_46 : decode cX9_room 46 = .ok (.iload_n 1, 1) := by decide +kernel
theorem dX9_room_47 : decode cX9_room 47 = .ok (.invokevirtual 169, 3) := by decide +kernel
theorem dX9_room_50 : decode cX9_room 50 = .ok (.ireturn, 1) := by decide +kernel
theorem dX9_remember_0 : decode cX9_remember 0 = .ok (.aload_n 0, 1) := by decide +kernel
theorem dX9_remember_1 : decode cX9_remember 1 = .ok (.getfield 119, 3) := by decide +kernel
theorem dX9_remember_4 : decode cX9_remember 4 = .ok (.bipush 20, 2) := by decide +kernel
theorem dX9_remember_6 : decode cX9_remember 6 = .ok (.if_icmp .ne 47, 3) := by decide +kernel
theorem dX9_remember_9 : decode cX9_remember 9 = .ok (.iconst 1, 1) := by decide +kernel
theorem dX9_remember_10 : decode cX9_remember 10 = .ok (.istore_n 1, 1) := by decide +kernel
theorem dX9_remember_11 : decode cX9_remember 11 = .ok (.iload_n 1, 1) := by decide +kernel
theorem dX9_remember_12 : decode cX9_remember 12 = .ok (.bipush 20, 2) := by decide +kernel
theorem dX9_remember_14 : decode cX9_remember 14 = .ok (.if_icmp .ge 29, 3) := by decide +kernel
theorem dX9_remember_17 : decode cX9_remember 17 = .ok (.aload_n 0, 1) := by decide +kernel
theorem dX9_remember_18 : decode cX9_remember 18 = .ok (.bipush 67, 2) := by decide +kernel
theorem dX9_remember_20 : decode cX9_remember 20 = .ok (.bipush 67, 2) := by decide +kernel
theorem dX9_remember_22 : decode cX9_remember 22 = .ok (.iload_n 1, 1) := by decide +kernel
theorem dX9_remember_23 : decode cX9_remember 23 = .ok (.imul, 1) := by decide +kernel
theorem dX9_remember_24 : decode cX9_remember 24 = .ok (.iadd, 1) := by decide +kernel
theorem dX9_remember_25 : decode cX9_remember 25 = .ok (.bipush 67, 2) := by decide +kernel
theorem dX9_remember_27 : decode cX9_remember 27 = .ok (.bipush 67, 2) := by decide +kernel
theorem dX9_remember_29 : decode cX9_remember 29 = .ok (.iload_n 1, 1) := by decide +kernel
theorem dX9_remember_30 : decode cX9_remember 30 = .ok (.iconst 1, 1) := by decide +kernel
theorem dX9_remember_31 : decode cX9_remember 31 = .ok (.isub, 1) := by decide +kernel
theorem dX9_remember_32 : decode cX9_remember 32 = .ok (.imul, 1) := by decide +kernel
theorem dX9_remember_33 : decode cX9_remember 33 = .ok (.iadd, 1) := by decide +kernel
theorem dX9_remember_34 : decode cX9_remember 34 = .ok (.invokevirtual 116, 3) := by decide +kernel
theorem dX9_remember_37 : decode cX9_remember 37 = .ok (.iinc 1 1, 3) := by decide +kernel
theorem dX9_remember_40 : decode cX9_remember 40 = .ok (.goto (-29), 3) := by decide +kernel
theorem dX9_remember_43 : decode cX9_remember 43 = .ok (.aload_n 0, 1) := by decide +kernel
theorem dX9_remember_44 : decode cX9_remember 44 = .ok (.dup, 1) := by decide +kernel
theorem dX9_remember_45 : decode cX9_remember 45 = .ok (.getfield 119, 3) := by decide +kernel
theorem dX9_remember_48 : decode cX9_remember 48 = .ok (.iconst 1, 1) := by decide +kernel
theorem dX9_remember_49 : decode cX9_remember 49 = .ok (.isub, 1) := by decide +kernel
theorem dX9_remember_50 : decode cX9_remember 50 = .ok (.putfield 119, 3) := by decide +kernel
theorem dX9_remember_53 : decode cX9_remember 53 = .ok (.aload_n 0, 1) := by decide +kernel
theorem dX9_remember_54 : decode cX9_remember 54 = .ok (.iconst 0, 1) := by decide +kernel
theorem dX9_remember_55 : decode cX9_remember 55 = .ok (.bipush 67, 2) := by decide +kernel
theorem dX9_remember_57 : decode cX9_remember 57 = .ok (.bipush 67, 2) := by decide +kernel
theorem dX9_remember_59 : decode cX9_remember 59 = .ok (.aload_n 0, 1) := by decide +kernel
theorem dX9_remember_60 : decode cX9_remember 60 = .ok (.getfield 119, 3) := by decide +kernel
theorem dX9_remember_63 : decode cX9_remember 63 = .ok (.imul, 1) := by decide +kernel
theorem dX9_remember_64 : decode cX9_remember 64 = .ok (.iadd, 1) := by decide +kernel
theorem dX9_remember_65 : decode cX9_remember 65 = .ok (.invokevirtual 116, 3) := by decide +kernel
theorem dX9_remember_68 : decode cX9_remember 68 = .ok (.aload_n 0, 1) := by decide +kernel
theorem dX9_remember_69 : decode cX9_remember 69 = .ok (.dup, 1) := by decide +kernel
theorem dX9_remember_70 : decode cX9_remember 70 = .ok (.getfield 119, 3) := by decide +kernel
theorem dX9_remember_73 : decode cX9_remember 73 = .ok (.iconst 1, 1) := by decide +kernel
theorem dX9_remember_74 : decode cX9_remember 74 = .ok (.iadd, 1) := by decide +kernel
theorem dX9_remember_75 : decode cX9_remember 75 = .ok (.putfield 119, 3) := by decide +kernel
theorem dX9_remember_78 : decode cX9_remember 78 = .ok (.return_, 1) := by decide +kernel
theorem dX9_strikeOut_0 : decode cX9_strikeOut 0 = .ok (.aload_n 0, 1) := by decide +kernel
theorem dX9_strikeOut_1 : decode cX9_strikeOut 1 = .ok (.iload_n 1, 1) := by decide +kernel
theorem dX9_strikeOut_2 : decode cX9_strikeOut 2 = .ok (.iload_n 2, 1) := by decide +kernel
theorem dX9_strikeOut_3 : decode cX9_strikeOut 3 = .ok (.iload_n 3, 1) := by decide +kernel
theorem dX9_strikeOut_4 : decode cX9_strikeOut 4 = .ok (.invokevirtual 97, 3) := by decide +kernel
theorem dX9_strikeOut_7 : decode cX9_strikeOut 7 = .ok (.istore 4, 2) := by decide +kernel
theorem dX9_strikeOut_9 : decode cX9_strikeOut 9 = .ok (.iload 4, 2) := by decide +kernel
theorem dX9_strikeOut_11 : decode cX9_strikeOut 11 = .ok (.iconst (-1), 1) := by decide +kernel
theorem dX9_strikeOut_12 : decode cX9_strikeOut 12 = .ok (.if_icmp .eq 76, 3) := by decide +kernel
theorem dX9_strikeOut_15 : decode cX9_strikeOut 15 = .ok (.iload 4, 2) := by decide +kernel
theorem dX9_strikeOut_17 : decode cX9_strikeOut 17 = .ok (.iconst 1, 1) := by decide +kernel
theorem dX9_strikeOut_18 : decode cX9_strikeOut 18 = .ok (.iadd, 1) := by decide +kernel
theorem dX9_strikeOut_19 : decode cX9_strikeOut 19 = .ok (.istore 5, 2) := by decide +kernel
theorem dX9_strikeOut_21 : decode cX9_strikeOut 21 = .ok (.iload 5, 2) := by decide +kernel
theorem dX9_strikeOut_23 : decode cX9_strikeOut 23 = .ok (.aload_n 0, 1) := by decide +kernel
theorem dX9_strikeOut_24 : decode cX9_strikeOut 24 = .ok (.getfield 7, 3) := by decide +kernel
theorem dX9_strikeOut_27 : decode cX9_strikeOut 27 = .ok (.iload_n 1, 1) := by decide +kernel
theorem dX9_strikeOut_28 : decode cX9_strikeOut 28 = .ok (.bipush 48, 2) := by decide +kernel
theorem dX9_strikeOut_30 : decode cX9_strikeOut 30 = .ok (.iadd, 1) := by decide +kernel
theorem dX9_strikeOut_31 : decode cX9_strikeOut 31 = .ok (.iload_n 2, 1) := by decide +kernel
theorem dX9_strikeOut_32 : decode cX9_strikeOut 32 = .ok (.iadd, 1) := by decide +kernel
theorem dX9_strikeOut_33 : decode cX9_strikeOut 33 = .ok (.iaload, 1) := by decide +kernel
theorem dX9_strikeOut_34 : decode cX9_strikeOut 34 = .ok (.if_icmp .ge 39, 3) := by decide +kernel
theorem dX9_strikeOut_37 : decode cX9_strikeOut 37 = .ok (.aload_n 0, 1) := by decide +kernel
theorem dX9_strikeOut_38 : decode cX9_strikeOut 38 = .ok (.getfield 7, 3) := by decide +kernel
theorem dX9_strikeOut_41 : decode cX9_strikeOut 41 = .ok (.iload_n 1, 1) := by decide +kernel
theorem dX9_strikeOut_42 : decode cX9_strikeOut 42 = .ok (.bipush 8, 2) := by decide +kernel
theorem dX9_strikeOut_44 : decode cX9_strikeOut 44 = .ok (.iload_n 2, 1) := by decide +kernel
theorem dX9_strikeOut_45 : decode cX9_strikeOut 45 = .ok (.imul, 1) := by decide +kernel
theorem dX9_strikeOut_46 : decode cX9_strikeOut 46 = .ok (.iadd, 1) := by decide +kernel
theorem dX9_strikeOut_47 : decode cX9_strikeOut 47 = .ok (.iload 5, 2) := by decide +kernel
theorem dX9_strikeOut_49 : decode cX9_strikeOut 49 = .ok (.iadd, 1) := by decide +kernel
theorem dX9_strikeOut_50 : decode cX9_strikeOut 50 = .ok (.iconst 1, 1) := by decide +kernel
theorem dX9_strikeOut_51 : decode cX9_strikeOut 51 = .ok (.isub, 1) := by decide +kernel
theorem dX9_strikeOut_52 : decode cX9_strikeOut 52 = .ok (.aload_n 0, 1) := by decide +kernel
theorem dX9_strikeOut_53 : decode cX9_strikeOut 53 = .ok (.getfield 7, 3) := by decide +kernel
theorem dX9_strikeOut_56 : decode cX9_strikeOut 56 = .ok (.iload_n 1, 1) := by decide +kernel
theorem dX9_strikeOut_57 : decode cX9_strikeOut 57 = .ok (.bipush 8, 2) := by decide +kernel
theorem dX9_strikeOut_59 : decode cX9_strikeOut 59 = .ok (.iload_n 2, 1) := by decide +kernel
theorem dX9_strikeOut_60 : decode cX9_strikeOut 60 = .ok (.imul, 1) := by decide +kernel
theorem dX9_strikeOut_61 : decode cX9_strikeOut 61 = .ok (.iadd, 1) := by decide +kernel
theorem dX9_strikeOut_62 : decode cX9_strikeOut 62 = .ok (.iload 5, 2) := by decide +kernel
theorem dX9_strikeOut_64 : decode cX9_strikeOut 64 = .ok (.iadd, 1) := by decide +kernel
theorem dX9_strikeOut_65 : decode cX9_strikeOut 65 = .ok (.iaload, 1) := by decide +kernel
theorem dX9_strikeOut_66 : decode cX9_strikeOut 66 = .ok (.iastore, 1) := by decide +kernel
theorem dX9_strikeOut_67 : decode cX9_strikeOut 67 = .ok (.iinc 5 1, 3) := by decide +kernel
theorem dX9_strikeOut_70 : decode cX9_strikeOut 70 = .ok (.goto (-49), 3) := by decide +kernel
theorem dX9_strikeOut_73 : decode cX9_strikeOut 73 = .ok (.aload_n 0, 1) := by decide +kernel
theorem dX9_strikeOut_74 : decode cX9_strikeOut 74 = .ok (.getfield 7, 3) := by decide +kernel
theorem dX9_strikeOut_77 : decode cX9_strikeOut 77 = .ok (.iload_n 1, 1) := by decide +kernel
theorem dX9_strikeOut_78 : decode cX9_strikeOut 78 = .ok (.bipush 48, 2) := by decide +kernel
theorem dX9_strikeOut_80 : decode cX9_strikeOut 80 = .ok (.iadd, 1) := by decide +kernel
theorem dX9_strikeOut_81 : decode cX9_strikeOut 81 = .ok (.iload_n 2, 1) := by decide +kernel
theorem dX9_strikeOut_82 : decode cX9_strikeOut 82 = .ok (.iadd, 1) := by decide +kernel
theorem dX9_strikeOut_83 : decode cX9_strikeOut 83 = .ok (.dup2, 1) := by decide +kernel
theorem dX9_strikeOut_84 : decode cX9_strikeOut 84 = .ok (.iaload, 1) := by decide +kernel
theorem dX9_strikeOut_85 : decode cX9_strikeOut 85 = .ok (.iconst 1, 1) := by decide +kernel
theorem dX9_strikeOut_86 : decode cX9_strikeOut 86 = .ok (.isub, 1) := by decide +kernel
theorem dX9_strikeOut_87 : decode cX9_strikeOut 87 = .ok (.iastore, 1) := by decide +kernel
theorem dX9_strikeOut_88 : decode cX9_strikeOut 88 = .ok (.return_, 1) := by decide +kernel
theorem dX9_putIn_0 : decode cX9_putIn 0 = .ok (.aload_n 0, 1) := by decide +kernel
theorem dX9_putIn_1 : decode cX9_putIn 1 = .ok (.iload_n 1, 1) := by decide +kernel
theorem dX9_putIn_2 : decode cX9_putIn 2 = .ok (.iload_n 2, 1) := by decide +kernel
theorem dX9_putIn_3 : decode cX9_putIn 3 = .ok (.iload_n 3, 1) := by decide +kernel
theorem dX9_putIn_4 : decode cX9_putIn 4 = .ok (.invokevirtual 219, 3) := by decide +kernel
theorem dX9_putIn_7 : decode cX9_putIn 7 = .ok (.aload_n 0, 1) := by decide +kernel
theorem dX9_putIn_8 : decode cX9_putIn 8 = .ok (.getfield 7, 3) := by decide +kernel
theorem dX9_putIn_11 : decode cX9_putIn 11 = .ok (.iload_n 1, 1) := by decide +kernel
theorem dX9_putIn_12 : decode cX9_putIn 12 = .ok (.bipush 48, 2) := by decide +kernel
theorem dX9_putIn_14 : decode cX9_putIn 14 = .ok (.iadd, 1) := by decide +kernel
theorem dX9_putIn_15 : decode cX9_putIn 15 = .ok (.iload_n 2, 1) := by decide +kernel
theorem dX9_putIn_16 : decode cX9_putIn 16 = .ok (.iadd, 1) := by decide +kernel
theorem dX9_putIn_17 : decode cX9_putIn 17 = .ok (.iaload, 1) := by decide +kernel
theorem dX9_putIn_18 : decode cX9_putIn 18 = .ok (.istore 5, 2) := by decide +kernel
theorem dX9_putIn_20 : decode cX9_putIn 20 = .ok (.iload 4, 2) := by decide +kernel
theorem dX9_putIn_22 : decode cX9_putIn 22 = .ok (.iload 5, 2) := by decide +kernel
theorem dX9_putIn_24 : decode cX9_putIn 24 = .ok (.if_icmp .ge 8, 3) := by decide +kernel
theorem dX9_putIn_27 : decode cX9_putIn 27 = .ok (.iload 4, 2) := by decide +kernel
theorem dX9_putIn_29 : decode cX9_putIn 29 = .ok (.goto 5, 3) := by decide +kernel
theorem dX9_putIn_32 : decode cX9_putIn 32 = .ok (.iload 5, 2) := by decide +kernel
theorem dX9_putIn_34 : decode cX9_putIn 34 = .ok (.istore 6, 2) := by decide +kernel
theorem dX9_putIn_36 : decode cX9_putIn 36 = .ok (.iload 5, 2) := by decide +kernel
theorem dX9_putIn_38 : decode cX9_putIn 38 = .ok (.istore 7, 2) := by decide +kernel
theorem dX9_putIn_40 : decode cX9_putIn 40 = .ok (.iload 7, 2) := by decide +kernel
theorem dX9_putIn_42 : decode cX9_putIn 42 = .ok (.iload 6, 2) := by decide +kernel
theorem dX9_putIn_44 : decode cX9_putIn 44 = .ok (.if_icmp .le 39, 3) := by decide +kernel
theorem dX9_putIn_47 : decode cX9_putIn 47 = .ok (.aload_n 0, 1) := by decide +kernel
theorem dX9_putIn_48 : decode cX9_putIn 48 = .ok (.getfield 7, 3) := by decide +kernel
theorem dX9_putIn_51 : decode cX9_putIn 51 = .ok (.iload_n 1, 1) := by decide +kernel
theorem dX9_putIn_52 : decode cX9_putIn 52 = .ok (.bipush 8, 2) := by decide +kernel
theorem dX9_putIn_54 : decode cX9_putIn 54 = .ok (.iload_n 2, 1) := by decide +kernel
theorem dX9_putIn_55 : decode cX9_putIn 55 = .ok (.imul, 1) := by decide +kernel
theorem dX9_putIn_56 : decode cX9_putIn 56 = .ok (.iadd, 1) := by decide +kernel
theorem dX9_putIn_57 : decode cX9_putIn 57 = .ok (.iload 7, 2) := by decide +kernel
theorem dX9_putIn_59 : decode cX9_putIn 59 = .ok (.iadd, 1) := by decide +kernel
theorem dX9_putIn_60 : decode cX9_putIn 60 = .ok (.aload_n 0, 1) := by decide +kernel
theorem dX9_putIn_61 : decode cX9_putIn 61 = .ok (.getfield 7, 3) := by decide +kernel
theorem dX9_putIn_64 : decode cX9_putIn 64 = .ok (.iload_n 1, 1) := by decide +kernel
theorem dX9_putIn_65 : decode cX9_putIn 65 = .ok (.bipush 8, 2) := by decide +kernel
theorem dX9_putIn_67 : decode cX9_putIn 67 = .ok (.iload_n 2, 1) := by decide +kernel
theorem dX9_putIn_68 : decode cX9_putIn 68 = .ok (.imul, 1) := by decide +kernel
theorem dX9_putIn_69 : decode cX9_putIn 69 = .ok (.iadd, 1) := by decide +kernel
theorem dX9_putIn_70 : decode cX9_putIn 70 = .ok (.iload 7, 2) := by decide +kernel
theorem dX9_putIn_72 : decode cX9_putIn 72 = .ok (.iadd, 1) := by decide +kernel
theorem dX9_putIn_73 : decode cX9_putIn 73 = .ok (.iconst 1, 1) := by decide +kernel
theorem dX9_putIn_74 : decode cX9_putIn 74 = .ok (.isub, 1) := by decide +kernel
theorem dX9_putIn_75 : decode cX9_putIn 75 = .ok (.iaload, 1) := by decide +kernel
theorem dX9_putIn_76 : decode cX9_putIn 76 = .ok (.iastore, 1) := by decide +kernel
theorem dX9_putIn_77 : decode cX9_putIn 77 = .ok (.iinc 7 (-1), 3) := by decide +kernel
theorem dX9_putIn_80 : decode cX9_putIn 80 = .ok (.goto (-40), 3) := by decide +kernel
theorem dX9_putIn_83 : decode cX9_putIn 83 = .ok (.aload_n 0, 1) := by decide +kernel
theorem dX9_putIn_84 : decode cX9_putIn 84 = .ok (.getfield 7, 3) := by decide +kernel
theorem dX9_putIn_87 : decode cX9_putIn 87 = .ok (.iload_n 1, 1) := by decide +kernel
theorem dX9_putIn_88 : decode cX9_putIn 88 = .ok (.bipush 8, 2) := by decide +kernel
theorem dX9_putIn_90 : decode cX9_putIn 90 = .ok (.iload_n 2, 1) := by decide +kernel
theorem dX9_putIn_91 : decode cX9_putIn 91 = .ok (.imul, 1) := by decide +kernel
theorem dX9_putIn_92 : decode cX9_putIn 92 = .ok (.iadd, 1) := by decide +kernel
theorem dX9_putIn_93 : decode cX9_putIn 93 = .ok (.iload 6, 2) := by decide +kernel
theorem dX9_putIn_95 : decode cX9_putIn 95 = .ok (.iadd, 1) := by decide +kernel
theorem dX9_putIn_96 : decode cX9_putIn 96 = .ok (.iload_n 3, 1) := by decide +kernel
theorem dX9_putIn_97 : decode cX9_putIn 97 = .ok (.iastore, 1) := by decide +kernel
theorem dX9_putIn_98 : decode cX9_putIn 98 = .ok (.aload_n 0, 1) := by decide +kernel
theorem dX9_putIn_99 : decode cX9_putIn 99 = .ok (.getfield 7, 3) := by decide +kernel
theorem dX9_putIn_102 : decode cX9_putIn 102 = .ok (.iload_n 1, 1) := by decide +kernel
theorem dX9_putIn_103 : decode cX9_putIn 103 = .ok (.bipush 48, 2) := by decide +kernel
theorem dX9_putIn_105 : decode cX9_putIn 105 = .ok (.iadd, 1) := by decide +kernel
theorem dX9_putIn_106 : decode cX9_putIn 106 = .ok (.iload_n 2, 1) := by decide +kernel
theorem dX9_putIn_107 : decode cX9_putIn 107 = .ok (.iadd, 1) := by decide +kernel
theorem dX9_putIn_108 : decode cX9_putIn 108 = .ok (.dup2, 1) := by decide +kernel
theorem dX9_putIn_109 : decode cX9_putIn 109 = .ok (.iaload, 1) := by decide +kernel
theorem dX9_putIn_110 : decode cX9_putIn 110 = .ok (.iconst 1, 1) := by decide +kernel
theorem dX9_putIn_111 : decode cX9_putIn 111 = .ok (.iadd, 1) := by decide +kernel
theorem dX9_putIn_112 : decode cX9_putIn 112 = .ok (.iastore, 1) := by decide +kernel
theorem dX9_putIn_113 : decode cX9_putIn 113 = .ok (.return_, 1) := by decide +kernel
theorem dX9_like_0 : decode cX9_like 0 = .ok (.aload_n 0, 1) := by decide +kernel
theorem dX9_like_1 : decode cX9_like 1 = .ok (.iload_n 1, 1) := by decide +kernel
theorem dX9_like_2 : decode cX9_like 2 = .ok (.invokevirtual 202, 3) := by decide +kernel
theorem dX9_like_5 : decode cX9_like 5 = .ok (.ifCond .eq 11, 3) := by decide +kernel
theorem dX9_like_8 : decode cX9_like 8 = .ok (.aload_n 0, 1) := by decide +kernel
theorem dX9_like_9 : decode cX9_like 9 = .ok (.iload_n 2, 1) := by decide +kernel
theorem dX9_like_10 : decode cX9_like 10 = .ok (.invokevirtual 216, 3) := by decide +kernel
theorem dX9_like_13 : decode cX9_like 13 = .ok (.ifCond .ne 6, 3) := by decide +kernel
theorem dX9_like_16 : decode cX9_like 16 = .ok (.ldc 206, 2) := by decide +kernel
theorem dX9_like_18 : decode cX9_like 18 = .ok (.ireturn, 1) := by decide +kernel
theorem dX9_like_19 : decode cX9_like 19 = .ok (.iload_n 3, 1) := by decide +kernel
theorem dX9_like_20 : decode cX9_like 20 = .ok (.iconst 0, 1) := by decide +kernel
theorem dX9_like_21 : decode cX9_like 21 = .ok (.bipush 7, 2) := by decide +kernel
theorem dX9_like_23 : decode cX9_like 23 = .ok (.invokestatic 54, 3) := by decide +kernel
theorem dX9_like_26 : decode cX9_like 26 = .ok (.ifCond .ne 6, 3) := by decide +kernel
theorem dX9_like_29 : decode cX9_like 29 = .ok (.ldc 61, 2) := by decide +kernel
theorem dX9_like_31 : decode cX9_like 31 = .ok (.ireturn, 1) := by decide +kernel
theorem dX9_like_32 : decode cX9_like 32 = .ok (.aload_n 0, 1) := by decide +kernel
theorem dX9_like_33 : decode cX9_like 33 = .ok (.invokevirtual 223, 3) := by decide +kernel
theorem dX9_like_36 : decode cX9_like 36 = .ok (.aload_n 0, 1) := by decide +kernel
theorem dX9_like_37 : decode cX9_like 37 = .ok (.iconst 0, 1) := by decide +kernel
theorem dX9_like_38 : decode cX9_like 38 = .ok (.iload_n 1, 1) := by decide +kernel
theorem dX9_like_39 : decode cX9_like 39 = .ok (.iload_n 2, 1) := by decide +kernel
theorem dX9_like_40 : decode cX9_like 40 = .ok (.iload_n 3, 1) := by decide +kernel
theorem dX9_like_41 : decode cX9_like 41 = .ok (.invokevirtual 226, 3) := by decide +kernel
theorem dX9_like_44 : decode cX9_like 44 = .ok (.aload_n 0, 1) := by decide +kernel
theorem dX9_like_45 : decode cX9_like 45 = .ok (.getfield 7, 3) := by decide +kernel
theorem dX9_like_48 : decode cX9_like 48 = .ok (.bipush 48, 2) := by decide +kernel
theorem dX9_like_50 : decode cX9_like 50 = .ok (.iload_n 1, 1) := by decide +kernel
theorem dX9_like_51 : decode cX9_like 51 = .ok (.iadd, 1) := by decide +kernel
theorem dX9_like_52 : decode cX9_like 52 = .ok (.iaload, 1) := by decide +kernel
theorem dX9_like_53 : decode cX9_like 53 = .ok (.ireturn, 1) := by decide +kernel
theorem dX9_strike_0 : decode cX9_strike 0 = .ok (.aload_n 0, 1) := by decide +kernel
theorem dX9_strike_1 : decode cX9_strike 1 = .ok (.iload_n 1, 1) := by decide +kernel
theorem dX9_strike_2 : decode cX9_strike 2 = .ok (.invokevirtual 202, 3) := by decide +kernel
theorem dX9_strike_5 : decode cX9_strike 5 = .ok (.ifCond .eq 11, 3) := by decide +kernel
theorem dX9_strike_8 : decode cX9_strike 8 = .ok (.aload_n 0, 1) := by decide +kernel
theorem dX9_strike_9 : decode cX9_strike 9 = .ok (.iload_n 2, 1) := by decide +kernel
theorem dX9_strike_10 : decode cX9_strike 10 = .ok (.invokevirtual 216, 3) := by decide +kernel
theorem dX9_strike_13 : decode cX9_strike 13 = .ok (.ifCond .ne 6, 3) := by decide +kernel
theorem dX9_strike_16 : decode cX9_strike 16 = .ok (.ldc 206, 2) := by decide +kernel
theorem dX9_strike_18 : decode cX9_strike 18 = .ok (.ireturn, 1) := by decide +kernel
theorem dX9_strike_19 : decode cX9_strike 19 = .ok (.aload_n 0, 1) := by decide +kernel
theorem dX9_strike_20 : decode cX9_strike 20 = .ok (.iconst 0, 1) := by decide +kernel
theorem dX9_strike_21 : decode cX9_strike 21 = .ok (.iload_n 1, 1) := by decide +kernel
theorem dX9_strike_22 : decode cX9_strike 22 = .ok (.iload_n 2, 1) := by decide +kernel
theorem dX9_strike_23 : decode cX9_strike 23 = .ok (.invokevirtual 97, 3) := by decide +kernel
theorem dX9_strike_26 : decode cX9_strike 26 = .ok (.iconst (-1), 1) := by decide +kernel
theorem dX9_strike_27 : decode cX9_strike 27 = .ok (.if_icmp .ne 6, 3) := by decide +kernel
theorem dX9_strike_30 : decode cX9_strike 30 = .ok (.ldc 230, 2) := by decide +kernel
theorem dX9_strike_32 : decode cX9_strike 32 = .ok (.ireturn, 1) := by decide +kernel
theorem dX9_strike_33 : decode cX9_strike 33 = .ok (.aload_n 0, 1) := by decide +kernel
theorem dX9_strike_34 : decode cX9_strike 34 = .ok (.invokevirtual 223, 3) := by decide +kernel
theorem dX9_strike_37 : decode cX9_strike 37 = .ok (.aload_n 0, 1) := by decide +kernel
theorem dX9_strike_38 : decode cX9_strike 38 = .ok (.iconst 0, 1) := by decide +kernel
theorem dX9_strike_39 : decode cX9_strike 39 = .ok (.iload_n 1, 1) := by decide +kernel
theorem dX9_strike_40 : decode cX9_strike 40 = .ok (.iload_n 2, 1) := by decide +kernel
theorem dX9_strike_41 : decode cX9_strike 41 = .ok (.invokevirtual 219, 3) := by decide +kernel
theorem dX9_strike_44 : decode cX9_strike 44 = .ok (.aload_n 0, 1) := by decide +kernel
theorem dX9_strike_45 : decode cX9_strike 45 = .ok (.getfield 7, 3) := by decide +kernel
theorem dX9_strike_48 : decode cX9_strike 48 = .ok (.bipush 48, 2) := by decide +kernel
theorem dX9_strike_50 : decode cX9_strike 50 = .ok (.iload_n 1, 1) := by decide +kernel
theorem dX9_strike_51 : decode cX9_strike 51 = .ok (.iadd, 1) := by decide +kernel
theorem dX9_strike_52 : decode cX9_strike 52 = .ok (.iaload, 1) := by decide +kernel
theorem dX9_strike_53 : decode cX9_strike 53 = .ok (.ireturn, 1) := by decide +kernel
theorem dX9_setLot_0 : decode cX9_setLot 0 = .ok (.aload_n 0, 1) := by decide +kernel
theorem dX9_setLot_1 : decode cX9_setLot 1 = .ok (.iload_n 1, 1) := by decide +kernel
theorem dX9_setLot_2 : decode cX9_setLot 2 = .ok (.invokevirtual 207, 3) := by decide +kernel
theorem dX9_setLot_5 : decode cX9_setLot 5 = .ok (.istore_n 3, 1) := by decide +kernel
theorem dX9_setLot_6 : decode cX9_setLot 6 = .ok (.iload_n 3, 1) := by decide +kernel
theorem dX9_setLot_7 : decode cX9_setLot 7 = .ok (.iload_n 2, 1) := by decide +kernel
theorem dX9_setLot_8 : decode cX9_setLot 8 = .ok (.if_icmp .ge 29, 3) := by decide +kernel
theorem dX9_setLot_11 : decode cX9_setLot 11 = .ok (.aload_n 0, 1) := by decide +kernel
theorem dX9_setLot_12 : decode cX9_setLot 12 = .ok (.getfield 7, 3) := by decide +kernel
theorem dX9_setLot_15 : decode cX9_setLot 15 = .ok (.bipush 60, 2) := by decide +kernel
theorem dX9_setLot_17 : decode cX9_setLot 17 = .ok (.iload_n 3, 1) := by decide +kernel
theorem dX9_setLot_18 : decode cX9_setLot 18 = .ok (.iadd, 1) := by decide +kernel
theorem dX9_setLot_19 : decode cX9_setLot 19 = .ok (.aload_n 0, 1) := by decide +kernel
theorem dX9_setLot_20 : decode cX9_setLot 20 = .ok (.getfield 7, 3) := by decide +kernel
theorem dX9_setLot_23 : decode cX9_setLot 23 = .ok (.bipush 60, 2) := by decide +kernel
theorem dX9_setLot_25 : decode cX9_setLot 25 = .ok (.iload_n 3, 1) := by decide +kernel
theorem dX9_setLot_26 : decode cX9_setLot 26 = .ok (.iadd, 1) := by decide +kernel
theorem dX9_setLot_27 : decode cX9_setLot 27 = .ok (.iconst 1, 1) := by decide +kernel
theorem dX9_setLot_28 : decode cX9_setLot 28 = .ok (.iadd, 1) := by decide +kernel
theorem dX9_setLot_29 : decode cX9_setLot 29 = .ok (.iaload, 1) := by decide +kernel
theorem dX9_setLot_30 : decode cX9_setLot 30 = .ok (.iastore, 1) := by decide +kernel
theorem dX9_setLot_31 : decode cX9_setLot 31 = .ok (.iinc 3 1, 3) := by decide +kernel
theorem dX9_setLot_34 : decode cX9_setLot 34 = .ok (.goto (-28), 3) := by decide +kernel
theorem dX9_setLot_37 : decode cX9_setLot 37 = .ok (.iload_n 3, 1) := by decide +kernel
theorem dX9_setLot_38 : decode cX9_setLot 38 = .ok (.iload_n 2, 1) := by decide +kernel
theorem dX9_setLot_39 : decode cX9_setLot 39 = .ok (.if_icmp .le 29, 3) := by decide +kernel
theorem dX9_setLot_42 : decode cX9_setLot 42 = .ok (.aload_n 0, 1) := by decide +kernel
theorem dX9_setLot_43 : decode cX9_setLot 43 = .ok (.getfield 7, 3) := by decide +kernel
theorem dX9_setLot_46 : decode cX9_setLot 46 = .ok (.bipush 60, 2) := by decide +kernel
theorem dX9_setLot_48 : decode cX9_setLot 48 = .ok (.iload_n 3, 1) := by decide +kernel
theorem dX9_setLot_49 : decode cX9_setLot 49 = .ok (.iadd, 1) := by decide +kernel
theorem dX9_setLot_50 : decode cX9_setLot 50 = .ok (.aload_n 0, 1) := by decide +kernel
theorem dX9_setLot_51 : decode cX9_setLot 51 = .ok (.getfield 7, 3) := by decide +kernel
theorem dX9_setLot_54 : decode cX9_setLot 54 = .ok (.bipush 60, 2) := by decide +kernel
theorem dX9_setLot_56 : decode cX9_setLot 56 = .ok (.iload_n 3, 1) := by decide +kernel
theorem dX9_setLot_57 : decode cX9_setLot 57 = .ok (.iadd, 1) := by decide +kernel
theorem dX9_setLot_58 : decode cX9_setLot 58 = .ok (.iconst 1, 1) := by decide +kernel
theorem dX9_setLot_59 : decode cX9_setLot 59 = .ok (.isub, 1) := by decide +kernel
theorem dX9_setLot_60 : decode cX9_setLot 60 = .ok (.iaload, 1) := by decide +kernel
theorem dX9_setLot_61 : decode cX9_setLot 61 = .ok (.iastore, 1) := by decide +kernel
theorem dX9_setLot_62 : decode cX9_setLot 62 = .ok (.iinc 3 (-1), 3) := by decide +kernel
theorem dX9_setLot_65 : decode cX9_setLot 65 = .ok (.goto (-28), 3) := by decide +kernel
theorem dX9_setLot_68 : decode cX9_setLot 68 = .ok (.aload_n 0, 1) := by decide +kernel
theorem dX9_setLot_69 : decode cX9_setLot 69 = .ok (.getfield 7, 3) := by decide +kernel
theorem dX9_setLot_72 : decode cX9_setLot 72 = .ok (.bipush 60, 2) := by decide +kernel
theorem dX9_setLot_74 : decode cX9_setLot 74 = .ok (.iload_n 3, 1) := by decide +kernel
theorem dX9_setLot_75 : decode cX9_setLot 75 = .ok (.iadd, 1) := by decide +kernel
theorem dX9_setLot_76 : decode cX9_setLot 76 = .ok (.iload_n 1, 1) := by decide +kernel
theorem dX9_setLot_77 : decode cX9_setLot 77 = .ok (.iastore, 1) := by decide +kernel
theorem dX9_setLot_78 : decode cX9_setLot 78 = .ok (.return_, 1) := by decide +kernel
theorem dX9_lot_0 : decode cX9_lot 0 = .ok (.aload_n 0, 1) := by decide +kernel
theorem dX9_lot_1 : decode cX9_lot 1 = .ok (.iload_n 1, 1) := by decide +kernel
theorem dX9_lot_2 : decode cX9_lot 2 = .ok (.invokevirtual 202, 3) := by decide +kernel
theorem dX9_lot_5 : decode cX9_lot 5 = .ok (.ifCond .ne 6, 3) := by decide +kernel
theorem dX9_lot_8 : decode cX9_lot 8 = .ok (.ldc 206, 2) := by decide +kernel
theorem dX9_lot_10 : decode cX9_lot 10 = .ok (.ireturn, 1) := by decide +kernel
theorem dX9_lot_11 : decode cX9_lot 11 = .ok (.iload_n 2, 1) := by decide +kernel
theorem dX9_lot_12 : decode cX9_lot 12 = .ok (.iconst 0, 1) := by decide +kernel
theorem dX9_lot_13 : decode cX9_lot 13 = .ok (.aload_n 0, 1) := by decide +kernel
theorem dX9_lot_14 : decode cX9_lot 14 = .ok (.getfield 51, 3) := by decide +kernel
theorem dX9_lot_17 : decode cX9_lot 17 = .ok (.iconst 1, 1) := by decide +kernel
theorem dX9_lot_18 : decode cX9_lot 18 = .ok (.isub, 1) := by decide +kernel
theorem dX9_lot_19 : decode cX9_lot 19 = .ok (.invokestatic 54, 3) := by decide +kernel
theorem dX9_lot_22 : decode cX9_lot 22 = .ok (.ifCond .ne 6, 3) := by decide +kernel
theorem dX9_lot_25 : decode cX9_lot 25 = .ok (.ldc 61, 2) := by decide +kernel
theorem dX9_lot_27 : decode cX9_lot 27 = .ok (.ireturn, 1) := by decide +kernel
theorem dX9_lot_28 : decode cX9_lot 28 = .ok (.aload_n 0, 1) := by decide +kernel
theorem dX9_lot_29 : decode cX9_lot 29 = .ok (.invokevirtual 223, 3) := by decide +kernel
theorem dX9_lot_32 : decode cX9_lot 32 = .ok (.aload_n 0, 1) := by decide +kernel
theorem dX9_lot_33 : decode cX9_lot 33 = .ok (.iload_n 1, 1) := by decide +kernel
theorem dX9_lot_34 : decode cX9_lot 34 = .ok (.invokevirtual 207, 3) := by decide +kernel
theorem dX9_lot_37 : decode cX9_lot 37 = .ok (.istore_n 3, 1) := by decide +kernel
theorem dX9_lot_38 : decode cX9_lot 38 = .ok (.aload_n 0, 1) := by decide +kernel
theorem dX9_lot_39 : decode cX9_lot 39 = .ok (.iload_n 1, 1) := by decide +kernel
theorem dX9_lot_40 : decode cX9_lot 40 = .ok (.iload_n 2, 1) := by decide +kernel
theorem dX9_lot_41 : decode cX9_lot 41 = .ok (.invokevirtual 231, 3) := by decide +kernel
theorem dX9_lot_44 : decode cX9_lot 44 = .ok (.iload_n 3, 1) := by decide +kernel
theorem dX9_lot_45 : decode cX9_lot 45 = .ok (.ireturn, 1) := by decide +kernel
theorem dX9_refuse_0 : decode cX9_refuse 0 = .ok (.aload_n 0, 1) := by decide +kernel
theorem dX9_refuse_1 : decode cX9_refuse 1 = .ok (.iload_n 1, 1) := by decide +kernel
theorem dX9_refuse_2 : decode cX9_refuse 2 = .ok (.invokevirtual 202, 3) := by decide +kernel
theorem dX9_refuse_5 : decode cX9_refuse 5 = .ok (.ifCond .ne 6, 3) := by decide +kernel
theorem dX9_refuse_8 : decode cX9_refuse 8 = .ok (.ldc 206, 2) := by decide +kernel
theorem dX9_refuse_10 : decode cX9_refuse 10 = .ok (.ireturn, 1) := by decide +kernel
theorem dX9_refuse_11 : decode cX9_refuse 11 = .ok (.aload_n 0, 1) := by decide +kernel
theorem dX9_refuse_12 : decode cX9_refuse 12 = .ok (.iconst 0, 1) := by decide +kernel
theorem dX9_refuse_13 : decode cX9_refuse 13 = .ok (.invokevirtual 187, 3) := by decide +kernel
theorem dX9_refuse_16 : decode cX9_refuse 16 = .ok (.aload_n 0, 1) := by decide +kernel
theorem dX9_refuse_17 : decode cX9_refuse 17 = .ok (.getfield 20, 3) := by decide +kernel
theorem dX9_refuse_20 : decode cX9_refuse 20 = .ok (.iload_n 1, 1) := by decide +kernel
theorem dX9_refuse_21 : decode cX9_refuse 21 = .ok (.iaload, 1) := by decide +kernel
theorem dX9_refuse_22 : decode cX9_refuse 22 = .ok (.iconst (-1), 1) := by decide +kernel
theorem dX9_refuse_23 : decode cX9_refuse 23 = .ok (.if_icmp .eq 21, 3) := by decide +kernel
