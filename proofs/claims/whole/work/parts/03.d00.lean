theorem dJ6_bitCount_0f7a4_0 : decode cJ6_bitCount_0f7a4 0 = .ok (.iload_n 0, 1) := by decide +kernel
theorem dJ6_bitCount_0f7a4_1 : decode cJ6_bitCount_0f7a4 1 = .ok (.iload_n 0, 1) := by decide +kernel
theorem dJ6_bitCount_0f7a4_2 : decode cJ6_bitCount_0f7a4 2 = .ok (.iconst 1, 1) := by decide +kernel
theorem dJ6_bitCount_0f7a4_3 : decode cJ6_bitCount_0f7a4 3 = .ok (.iushr, 1) := by decide +kernel
theorem dJ6_bitCount_0f7a4_4 : decode cJ6_bitCount_0f7a4 4 = .ok (.ldc_w 265, 3) := by decide +kernel
theorem dJ6_bitCount_0f7a4_7 : decode cJ6_bitCount_0f7a4 7 = .ok (.iand, 1) := by decide +kernel
theorem dJ6_bitCount_0f7a4_8 : decode cJ6_bitCount_0f7a4 8 = .ok (.isub, 1) := by decide +kernel
theorem dJ6_bitCount_0f7a4_9 : decode cJ6_bitCount_0f7a4 9 = .ok (.istore_n 0, 1) := by decide +kernel
theorem dJ6_bitCount_0f7a4_10 : decode cJ6_bitCount_0f7a4 10 = .ok (.iload_n 0, 1) := by decide +kernel
theorem dJ6_bitCount_0f7a4_11 : decode cJ6_bitCount_0f7a4 11 = .ok (.ldc_w 266, 3) := by decide +kernel
theorem dJ6_bitCount_0f7a4_14 : decode cJ6_bitCount_0f7a4 14 = .ok (.iand, 1) := by decide +kernel
theorem dJ6_bitCount_0f7a4_15 : decode cJ6_bitCount_0f7a4 15 = .ok (.iload_n 0, 1) := by decide +kernel
theorem dJ6_bitCount_0f7a4_16 : decode cJ6_bitCount_0f7a4 16 = .ok (.iconst 2, 1) := by decide +kernel
theorem dJ6_bitCount_0f7a4_17 : decode cJ6_bitCount_0f7a4 17 = .ok (.iushr, 1) := by decide +kernel
theorem dJ6_bitCount_0f7a4_18 : decode cJ6_bitCount_0f7a4 18 = .ok (.ldc_w 266, 3) := by decide +kernel
theorem dJ6_bitCount_0f7a4_21 : decode cJ6_bitCount_0f7a4 21 = .ok (.iand, 1) := by decide +kernel
theorem dJ6_bitCount_0f7a4_22 : decode cJ6_bitCount_0f7a4 22 = .ok (.iadd, 1) := by decide +kernel
theorem dJ6_bitCount_0f7a4_23 : decode cJ6_bitCount_0f7a4 23 = .ok (.istore_n 0, 1) := by decide +kernel
theorem dJ6_bitCount_0f7a4_24 : decode cJ6_bitCount_0f7a4 24 = .ok (.iload_n 0, 1) := by decide +kernel
theorem dJ6_bitCount_0f7a4_25 : decode cJ6_bitCount_0f7a4 25 = .ok (.iload_n 0, 1) := by decide +kernel
theorem dJ6_bitCount_0f7a4_26 : decode cJ6_bitCount_0f7a4 26 = .ok (.iconst 4, 1) := by decide +kernel
theorem dJ6_bitCount_0f7a4_27 : decode cJ6_bitCount_0f7a4 27 = .ok (.iushr, 1) := by decide +kernel
theorem dJ6_bitCount_0f7a4_28 : decode cJ6_bitCount_0f7a4 28 = .ok (.iadd, 1) := by decide +kernel
theorem dJ6_bitCount_0f7a4_29 : decode cJ6_bitCount_0f7a4 29 = .ok (.ldc_w 267, 3) := by decide +kernel
theorem dJ6_bitCount_0f7a4_32 : decode cJ6_bitCount_0f7a4 32 = .ok (.iand, 1) := by decide +kernel
theorem dJ6_bitCount_0f7a4_33 : decode cJ6_bitCount_0f7a4 33 = .ok (.istore_n 0, 1) := by decide +kernel
theorem dJ6_bitCount_0f7a4_34 : decode cJ6_bitCount_0f7a4 34 = .ok (.iload_n 0, 1) := by decide +kernel
theorem dJ6_bitCount_0f7a4_35 : decode cJ6_bitCount_0f7a4 35 = .ok (.iload_n 0, 1) := by decide +kernel
theorem dJ6_bitCount_0f7a4_36 : decode cJ6_bitCount_0f7a4 36 = .ok (.bipush 8, 2) := by decide +kernel
theorem dJ6_bitCount_0f7a4_38 : decode cJ6_bitCount_0f7a4 38 = .ok (.iushr, 1) := by decide +kernel
theorem dJ6_bitCount_0f7a4_39 : decode cJ6_bitCount_0f7a4 39 = .ok (.iadd, 1) := by decide +kernel
theorem dJ6_bitCount_0f7a4_40 : decode cJ6_bitCount_0f7a4 40 = .ok (.istore_n 0, 1) := by decide +kernel
theorem dJ6_bitCount_0f7a4_41 : decode cJ6_bitCount_0f7a4 41 = .ok (.iload_n 0, 1) := by decide +kernel
theorem dJ6_bitCount_0f7a4_42 : decode cJ6_bitCount_0f7a4 42 = .ok (.iload_n 0, 1) := by decide +kernel
theorem dJ6_bitCount_0f7a4_43 : decode cJ6_bitCount_0f7a4 43 = .ok (.bipush 16, 2) := by decide +kernel
theorem dJ6_bitCount_0f7a4_45 : decode cJ6_bitCount_0f7a4 45 = .ok (.iushr, 1) := by decide +kernel
theorem dJ6_bitCount_0f7a4_46 : decode cJ6_bitCount_0f7a4 46 = .ok (.iadd, 1) := by decide +kernel
theorem dJ6_bitCount_0f7a4_47 : decode cJ6_bitCount_0f7a4 47 = .ok (.istore_n 0, 1) := by decide +kernel
theorem dJ6_bitCount_0f7a4_48 : decode cJ6_bitCount_0f7a4 48 = .ok (.iload_n 0, 1) := by decide +kernel
theorem dJ6_bitCount_0f7a4_49 : decode cJ6_bitCount_0f7a4 49 = .ok (.bipush 63, 2) := by decide +kernel
theorem dJ6_bitCount_0f7a4_51 : decode cJ6_bitCount_0f7a4 51 = .ok (.iand, 1) := by decide +kernel
theorem dJ6_bitCount_0f7a4_52 : decode cJ6_bitCount_0f7a4 52 = .ok (.ireturn, 1) := by decide +kernel
theorem dJ9_max_7cf53_0 : decode cJ9_max_7cf53 0 = .ok (.iload_n 0, 1) := by decide +kernel
theorem dJ9_max_7cf53_1 : decode cJ9_max_7cf53 1 = .ok (.iload_n 1, 1) := by decide +kernel
theorem dJ9_max_7cf53_2 : decode cJ9_max_7cf53 2 = .ok (.if_icmp .lt 7, 3) := by decide +kernel
theorem dJ9_max_7cf53_5 : decode cJ9_max_7cf53 5 = .ok (.iload_n 0, 1) := by decide +kernel
theorem dJ9_max_7cf53_6 : decode cJ9_max_7cf53 6 = .ok (.goto 4, 3) := by decide +kernel
theorem dJ9_max_7cf53_9 : decode cJ9_max_7cf53 9 = .ok (.iload_n 1, 1) := by decide +kernel
theorem dJ9_max_7cf53_10 : decode cJ9_max_7cf53 10 = .ok (.ireturn, 1) := by decide +kernel
theorem dJ9_min_7cf53_0 : decode cJ9_min_7cf53 0 = .ok (.iload_n 0, 1) := by decide +kernel
theorem dJ9_min_7cf53_1 : decode cJ9_min_7cf53 1 = .ok (.iload_n 1, 1) := by decide +kernel
theorem dJ9_min_7cf53_2 : decode cJ9_min_7cf53 2 = .ok (.if_icmp .gt 7, 3) := by decide +kernel
theorem dJ9_min_7cf53_5 : decode cJ9_min_7cf53 5 = .ok (.iload_n 0, 1) := by decide +kernel
theorem dJ9_min_7cf53_6 : decode cJ9_min_7cf53 6 = .ok (.goto 4, 3) := by decide +kernel
theorem dJ9_min_7cf53_9 : decode cJ9_min_7cf53 9 = .ok (.iload_n 1, 1) := by decide +kernel
theorem dJ9_min_7cf53_10 : decode cJ9_min_7cf53 10 = .ok (.ireturn, 1) := by decide +kernel
theorem dX0_init_0 : decode cX0_init 0 = .ok (.aload_n 0, 1) := by decide +kernel
theorem dX0_init_1 : decode cX0_init 1 = .ok (.invokespecial 3, 3) := by decide +kernel
theorem dX0_init_4 : decode cX0_init 4 = .ok (.aload_n 0, 1) := by decide +kernel
theorem dX0_init_5 : decode cX0_init 5 = .ok (.bipush 6, 2) := by decide +kernel
theorem dX0_init_7 : decode cX0_init 7 = .ok (.newarray .int, 2) := by decide +kernel
theorem dX0_init_9 : decode cX0_init 9 = .ok (.putfield 9, 3) := by decide +kernel
theorem dX0_init_12 : decode cX0_init 12 = .ok (.return_, 1) := by decide +kernel
theorem dX0_weigh_0 : decode cX0_weigh 0 = .ok (.iconst 0, 1) := by decide +kernel
theorem dX0_weigh_1 : decode cX0_weigh 1 = .ok (.istore_n 2, 1) := by decide +kernel
theorem dX0_weigh_2 : decode cX0_weigh 2 = .ok (.iconst 0, 1) := by decide +kernel
theorem dX0_weigh_3 : decode cX0_weigh 3 = .ok (.istore_n 3, 1) := by decide +kernel
theorem dX0_weigh_4 : decode cX0_weigh 4 = .ok (.iload_n 3, 1) := by decide +kernel
theorem dX0_weigh_5 : decode cX0_weigh 5 = .ok (.aload_n 1, 1) := by decide +kernel
theorem dX0_weigh_6 : decode cX0_weigh 6 = .ok (.getfield 15, 3) := by decide +kernel
theorem dX0_weigh_9 : decode cX0_weigh 9 = .ok (.if_icmp .ge 38, 3) := by decide +kernel
theorem dX0_weigh_12 : decode cX0_weigh 12 = .ok (.aload_n 1, 1) := by decide +kernel
theorem dX0_weigh_13 : decode cX0_weigh 13 = .ok (.iload_n 3, 1) := by decide +kernel
theorem dX0_weigh_14 : decode cX0_weigh 14 = .ok (.invokevirtual 21, 3) := by decide +kernel
theorem dX0_weigh_17 : decode cX0_weigh 17 = .ok (.iconst (-1), 1) := by decide +kernel
theorem dX0_weigh_18 : decode cX0_weigh 18 = .ok (.if_icmp .eq 9, 3) := by decide +kernel
theorem dX0_weigh_21 : decode cX0_weigh 21 = .ok (.iload_n 2, 1) := by decide +kernel
theorem dX0_weigh_22 : decode cX0_weigh 22 = .ok (.iload_n 3, 1) := by decide +kernel
theorem dX0_weigh_23 : decode cX0_weigh 23 = .ok (.invokestatic 25, 3) := by decide +kernel
theorem dX0_weigh_26 : decode cX0_weigh 26 = .ok (.istore_n 2, 1) := by decide +kernel
theorem dX0_weigh_27 : decode cX0_weigh 27 = .ok (.aload_n 0, 1) := by decide +kernel
theorem dX0_weigh_28 : decode cX0_weigh 28 = .ok (.getfield 9, 3) := by decide +kernel
theorem dX0_weigh_31 : decode cX0_weigh 31 = .ok (.iload_n 3, 1) := by decide +kernel
theorem dX0_weigh_32 : decode cX0_weigh 32 = .ok (.aload_n 0, 1) := by decide +kernel
theorem dX0_weigh_33 : decode cX0_weigh 33 = .ok (.aload_n 1, 1) := by decide +kernel
theorem dX0_weigh_34 : decode cX0_weigh 34 = .ok (.iload_n 3, 1) := by decide +kernel
theorem dX0_weigh_35 : decode cX0_weigh 35 = .ok (.invokevirtual 29, 3) := by decide +kernel
theorem dX0_weigh_38 : decode cX0_weigh 38 = .ok (.invokestatic 33, 3) := by decide +kernel
theorem dX0_weigh_41 : decode cX0_weigh 41 = .ok (.iinc 3 1, 3) := by decide +kernel
theorem dX0_weigh_44 : decode cX0_weigh 44 = .ok (.goto (-40), 3) := by decide +kernel
theorem dX0_weigh_47 : decode cX0_weigh 47 = .ok (.aload_n 0, 1) := by decide +kernel
theorem dX0_weigh_48 : decode cX0_weigh 48 = .ok (.iconst (-1), 1) := by decide +kernel
theorem dX0_weigh_49 : decode cX0_weigh 49 = .ok (.putfield 37, 3) := by decide +kernel
theorem dX0_weigh_52 : decode cX0_weigh 52 = .ok (.aload_n 0, 1) := by decide +kernel
theorem dX0_weigh_53 : decode cX0_weigh 53 = .ok (.iconst 0, 1) := by decide +kernel
theorem dX0_weigh_54 : decode cX0_weigh 54 = .ok (.putfield 40, 3) := by decide +kernel
theorem dX0_weigh_57 : decode cX0_weigh 57 = .ok (.iconst 1, 1) := by decide +kernel
theorem dX0_weigh_58 : decode cX0_weigh 58 = .ok (.istore_n 3, 1) := by decide +kernel
theorem dX0_weigh_59 : decode cX0_weigh 59 = .ok (.iload_n 3, 1) := by decide +kernel
theorem dX0_weigh_60 : decode cX0_weigh 60 = .ok (.iload_n 2, 1) := by decide +kernel
theorem dX0_weigh_61 : decode cX0_weigh 61 = .ok (.if_icmp .gt 62, 3) := by decide +kernel
theorem dX0_weigh_64 : decode cX0_weigh 64 = .ok (.iload_n 3, 1) := by decide +kernel
theorem dX0_weigh_65 : decode cX0_weigh 65 = .ok (.iload_n 2, 1) := by decide +kernel
theorem dX0_weigh_66 : decode cX0_weigh 66 = .ok (.iconst (-1), 1) := by decide +kernel
theorem dX0_weigh_67 : decode cX0_weigh 67 = .ok (.ixor, 1) := by decide +kernel
theorem dX0_weigh_68 : decode cX0_weigh 68 = .ok (.iand, 1) := by decide +kernel
theorem dX0_weigh_69 : decode cX0_weigh 69 = .ok (.ifCond .ne 48, 3) := by decide +kernel
theorem dX0_weigh_72 : decode cX0_weigh 72 = .ok (.aload_n 0, 1) := by decide +kernel
theorem dX0_weigh_73 : decode cX0_weigh 73 = .ok (.iload_n 3, 1) := by decide +kernel
theorem dX0_weigh_74 : decode cX0_weigh 74 = .ok (.invokevirtual 43, 3) := by decide +kernel
theorem dX0_weigh_77 : decode cX0_weigh 77 = .ok (.ifCond .eq 40, 3) := by decide +kernel
theorem dX0_weigh_80 : decode cX0_weigh 80 = .ok (.aload_n 0, 1) := by decide +kernel
theorem dX0_weigh_81 : decode cX0_weigh 81 = .ok (.dup, 1) := by decide +kernel
theorem dX0_weigh_82 : decode cX0_weigh 82 = .ok (.getfield 40, 3) := by decide +kernel
theorem dX0_weigh_85 : decode cX0_weigh 85 = .ok (.iconst 1, 1) := by decide +kernel
theorem dX0_weigh_86 : decode cX0_weigh 86 = .ok (.iadd, 1) := by decide +kernel
theorem dX0_weigh_87 : decode cX0_weigh 87 = .ok (.putfield 40, 3) := by decide +kernel
theorem dX0_weigh_90 : decode cX0_weigh 90 = .ok (.aload_n 0, 1) := by decide +kernel
theorem dX0_weigh_91 : decode cX0_weigh 91 = .ok (.getfield 37, 3) := by decide +kernel
theorem dX0_weigh_94 : decode cX0_weigh 94 = .ok (.iconst (-1), 1) := by decide +kernel
theorem dX0_weigh_95 : decode cX0_weigh 95 = .ok (.if_icmp .eq 17, 3) := by decide +kernel
theorem dX0_weigh_98 : decode cX0_weigh 98 = .ok (.iload_n 3, 1) := by decide +kernel
theorem dX0_weigh_99 : decode cX0_weigh 99 = .ok (.invokestatic 47, 3) := by decide +kernel
theorem dX0_weigh_102 : decode cX0_weigh 102 = .ok (.aload_n 0, 1) := by decide +kernel
theorem dX0_weigh_103 : decode cX0_weigh 103 = .ok (.getfield 37, 3) := by decide +kernel
theorem dX0_weigh_106 : decode cX0_weigh 106 = .ok (.invokestatic 47, 3) := by decide +kernel
theorem dX0_weigh_109 : decode cX0_weigh 109 = .ok (.if_icmp .ge 8, 3) := by decide +kernel
theorem dX0_weigh_112 : decode cX0_weigh 112 = .ok (.aload_n 0, 1) := by decide +kernel
theorem dX0_weigh_113 : decode cX0_weigh 113 = .ok (.iload_n 3, 1) := by decide +kernel
theorem dX0_weigh_114 : decode cX0_weigh 114 = .ok (.putfield 37, 3) := by decide +kernel
theorem dX0_weigh_117 : decode cX0_weigh 117 = .ok (.iinc 3 1, 3) := by decide +kernel
theorem dX0_weigh_120 : decode cX0_weigh 120 = .ok (.goto (-61), 3) := by decide +kernel
theorem dX0_weigh_123 : decode cX0_weigh 123 = .ok (.return_, 1) := by decide +kernel
theorem dX0_whomEnvies_0 : decode cX0_whomEnvies 0 = .ok (.aload_n 1, 1) := by decide +kernel
theorem dX0_whomEnvies_1 : decode cX0_whomEnvies 1 = .ok (.iload_n 2, 1) := by decide +kernel
theorem dX0_whomEnvies_2 : decode cX0_whomEnvies 2 = .ok (.invokevirtual 21, 3) := by decide +kernel
theorem dX0_whomEnvies_5 : decode cX0_whomEnvies 5 = .ok (.istore_n 3, 1) := by decide +kernel
theorem dX0_whomEnvies_6 : decode cX0_whomEnvies 6 = .ok (.aload_n 1, 1) := by decide +kernel
theorem dX0_whomEnvies_7 : decode cX0_whomEnvies 7 = .ok (.iload_n 2, 1) := by decide +kernel
theorem dX0_whomEnvies_8 : decode cX0_whomEnvies 8 = .ok (.iload_n 3, 1) := by decide +kernel
theorem dX0_whomEnvies_9 : decode cX0_whomEnvies 9 = .ok (.invokevirtual 52, 3) := by decide +kernel
theorem dX0_whomEnvies_12 : decode cX0_whomEnvies 12 = .ok (.istore 4, 2) := by decide +kernel
theorem dX0_whomEnvies_14 : decode cX0_whomEnvies 14 = .ok (.iconst 0, 1) := by decide +kernel
theorem dX0_whomEnvies_15 : decode cX0_whomEnvies 15 = .ok (.istore 5, 2) := by decide +kernel
theorem dX0_whomEnvies_17 : decode cX0_whomEnvies 17 = .ok (.iconst 0, 1) := by decide +kernel
theorem dX0_whomEnvies_18 : decode cX0_whomEnvies 18 = .ok (.istore 6, 2) := by decide +kernel
theorem dX0_whomEnvies_20 : decode cX0_whomEnvies 20 = .ok (.iload 6, 2) := by decide +kernel
theorem dX0_whomEnvies_22 : decode cX0_whomEnvies 22 = .ok (.aload_n 1, 1) := by decide +kernel
theorem dX0_whomEnvies_23 : decode cX0_whomEnvies 23 = .ok (.getfield 15, 3) := by decide +kernel
theorem dX0_whomEnvies_26 : decode cX0_whomEnvies 26 = .ok (.if_icmp .ge 49, 3) := by decide +kernel
theorem dX0_whomEnvies_29 : decode cX0_whomEnvies 29 = .ok (.aload_n 1, 1) := by decide +kernel
theorem dX0_whomEnvies_30 : decode cX0_whomEnvies 30 = .ok (.iload 6, 2) := by decide +kernel
theorem dX0_whomEnvies_32 : decode cX0_whomEnvies 32 = .ok (.invokevirtual 21, 3) := by decide +kernel
theorem dX0_whomEnvies_35 : decode cX0_whomEnvies 35 = .ok (.istore 7, 2) := by decide +kernel
theorem dX0_whomEnvies_37 : decode cX0_whomEnvies 37 = .ok (.iload_n 3, 1) := by decide +kernel
theorem dX0_whomEnvies_38 : decode cX0_whomEnvies 38 = .ok (.iconst (-1), 1) := by decide +kernel
theorem dX0_whomEnvies_39 : decode cX0_whomEnvies 39 = .ok (.if_icmp .eq 30, 3) := by decide +kernel
theorem dX0_whomEnvies_42 : decode cX0_whomEnvies 42 = .ok (.iload 7, 2) := by decide +kernel
theorem dX0_whomEnvies_44 : decode cX0_whomEnvies 44 = .ok (.iconst (-1), 1) := by decide +kernel
theorem dX0_whomEnvies_45 : decode cX0_whomEnvies 45 = .ok (.if_icmp .eq 24, 3) := by decide +kernel
theorem dX0_whomEnvies_48 : decode cX0_whomEnvies 48 = .ok (.aload_n 1, 1) := by decide +kernel
theorem dX0_whomEnvies_49 : decode cX0_whomEnvies 49 = .ok (.iload_n 2, 1) := by decide +kernel
theorem dX0_whomEnvies_50 : decode cX0_whomEnvies 50 = .ok (.iload 7, 2) := by decide +kernel
theorem dX0_whomEnvies_52 : decode cX0_whomEnvies 52 = .ok (.invokevirtual 52, 3) := by decide +kernel
theorem dX0_whomEnvies_55 : decode cX0_whomEnvies 55 = .ok (.iload 4, 2) := by decide +kernel
theorem dX0_whomEnvies_57 : decode cX0_whomEnvies 57 = .ok (.if_icmp .ge 12, 3) := by decide +kernel
theorem dX0_whomEnvies_60 : decode cX0_whomEnvies 60 = .ok (.iload 5, 2) := by decide +kernel
theorem dX0_whomEnvies_62 : decode cX0_whomEnvies 62 = .ok (.iload 6, 2) := by decide +kernel
theorem dX0_whomEnvies_64 : decode cX0_whomEnvies 64 = .ok (.invokestatic 25, 3) := by decide +kernel
theorem dX0_whomEnvies_67 : decode cX0_whomEnvies 67 = .ok (.istore 5, 2) := by decide +kernel
theorem dX0_whomEnvies_69 : decode cX0_whomEnvies 69 = .ok (.iinc 6 1, 3) := by decide +kernel
theorem dX0_whomEnvies_72 : decode cX0_whomEnvies 72 = .ok (.goto (-52), 3) := by decide +kernel
theorem dX0_whomEnvies_75 : decode cX0_whomEnvies 75 = .ok (.iload 5, 2) := by decide +kernel
theorem dX0_whomEnvies_77 : decode cX0_whomEnvies 77 = .ok (.ireturn, 1) := by decide +kernel
theorem dX0_hasRing_0 : decode cX0_hasRing 0 = .ok (.iload_n 1, 1) := by decide +kernel
theorem dX0_hasRing_1 : decode cX0_hasRing 1 = .ok (.istore_n 2, 1) := by decide +kernel
theorem dX0_hasRing_2 : decode cX0_hasRing 2 = .ok (.iconst 0, 1) := by decide +kernel
theorem dX0_hasRing_3 : decode cX0_hasRing 3 = .ok (.istore_n 3, 1) := by decide +kernel
theorem dX0_hasRing_4 : decode cX0_hasRing 4 = .ok (.iload_n 3, 1) := by decide +kernel
theorem dX0_hasRing_5 : decode cX0_hasRing 5 = .ok (.bipush 6, 2) := by decide +kernel
theorem dX0_hasRing_7 : decode cX0_hasRing 7 = .ok (.if_icmp .ge 55, 3) := by decide +kernel
theorem dX0_hasRing_10 : decode cX0_hasRing 10 = .ok (.iconst 0, 1) := by decide +kernel
theorem dX0_hasRing_11 : decode cX0_hasRing 11 = .ok (.istore 4, 2) := by decide +kernel
theorem dX0_hasRing_13 : decode cX0_hasRing 13 = .ok (.iload 4, 2) := by decide +kernel
theorem dX0_hasRing_15 : decode cX0_hasRing 15 = .ok (.bipush 6, 2) := by decide +kernel
theorem dX0_hasRing_17 : decode cX0_hasRing 17 = .ok (.if_icmp .ge 39, 3) := by decide +kernel
theorem dX0_hasRing_20 : decode cX0_hasRing 20 = .ok (.iload_n 2, 1) := by decide +kernel
theorem dX0_hasRing_21 : decode cX0_hasRing 21 = .ok (.iload 4, 2) := by decide +kernel
theorem dX0_hasRing_23 : decode cX0_hasRing 23 = .ok (.invokestatic 55, 3) := by decide +kernel
theorem dX0_hasRing_26 : decode cX0_hasRing 26 = .ok (.ifCond .eq 24, 3) := by decide +kernel
theorem dX0_hasRing_29 : decode cX0_hasRing 29 = .ok (.aload_n 0, 1) := by decide +kernel
theorem dX0_hasRing_30 : decode cX0_hasRing 30 = .ok (.getfield 9, 3) := by decide +kernel
theorem dX0_hasRing_33 : decode cX0_hasRing 33 = .ok (.iload 4, 2) := by decide +kernel
theorem dX0_hasRing_35 : decode cX0_hasRing 35 = .ok (.invokestatic 59, 3) := by decide +kernel
theorem dX0_hasRing_38 : decode cX0_hasRing 38 = .ok (.iload_n 2, 1) := by decide +kernel
theorem dX0_hasRing_39 : decode cX0_hasRing 39 = .ok (.iand, 1) := by decide +kernel
theorem dX0_hasRing_40 : decode cX0_hasRing 40 = .ok (.ifCond .ne 10, 3) := by decide +kernel
theorem dX0_hasRing_43 : decode cX0_hasRing 43 = .ok (.iload_n 2, 1) := by decide +kernel
theorem dX0_hasRing_44 : decode cX0_hasRing 44 = .ok (.iload 4, 2) := by decide +kernel
theorem dX0_hasRing_46 : decode cX0_hasRing 46 = .ok (.invokestatic 63, 3) := by decide +kernel
theorem dX0_hasRing_49 : decode cX0_hasRing 49 = .ok (.istore_n 2, 1) := by decide +kernel
theorem dX0_hasRing_50 : decode cX0_hasRing 50 = .ok (.iinc 4 1, 3) := by decide +kernel
theorem dX0_hasRing_53 : decode cX0_hasRing 53 = .ok (.goto (-40), 3) := by decide +kernel
theorem dX0_hasRing_56 : decode cX0_hasRing 56 = .ok (.iinc 3 1, 3) := by decide +kernel
theorem dX0_hasRing_59 : decode cX0_hasRing 59 = .ok (.goto (-55), 3) := by decide +kernel
theorem dX0_hasRing_62 : decode cX0_hasRing 62 = .ok (.iload_n 2, 1) := by decide +kernel
theorem dX0_hasRing_63 : decode cX0_hasRing 63 = .ok (.ifCond .eq 7, 3) := by decide +kernel
theorem dX0_hasRing_66 : decode cX0_hasRing 66 = .ok (.iconst 1, 1) := by decide +kernel
theorem dX0_hasRing_67 : decode cX0_hasRing 67 = .ok (.goto 4, 3) := by decide +kernel
theorem dX0_hasRing_70 : decode cX0_hasRing 70 = .ok (.iconst 0, 1) := by decide +kernel
theorem dX0_hasRing_71 : decode cX0_hasRing 71 = .ok (.ireturn, 1) := by decide +kernel
theorem dX1_init_0 : decode cX1_init 0 = .ok (.aload_n 0, 1) := by decide +kernel
theorem dX1_init_1 : decode cX1_init 1 = .ok (.invokespecial 3, 3) := by decide +kernel
theorem dX1_init_4 : decode cX1_init 4 = .ok (.aload_n 0, 1) := by decide +kernel
theorem dX1_init_5 : decode cX1_init 5 = .ok (.bipush 6, 2) := by decide +kernel
theorem dX1_init_7 : decode cX1_init 7 = .ok (.newarray .int, 2) := by decide +kernel
theorem dX1_init_9 : decode cX1_init 9 = .ok (.putfield 9, 3) := by decide +kernel
theorem dX1_init_12 : decode cX1_init 12 = .ok (.aload_n 0, 1) := by decide +kernel
theorem dX1_init_13 : decode cX1_init 13 = .ok (.bipush 6, 2) := by decide +kernel
theorem dX1_init_15 : decode cX1_init 15 = .ok (.newarray .int, 2) := by decide +kernel
theorem dX1_init_17 : decode cX1_init 17 = .ok (.putfield 15, 3) := by decide +kernel
theorem dX1_init_20 : decode cX1_init 20 = .ok (.aload_n 0, 1) := by decide +kernel
theorem dX1_init_21 : decode cX1_init 21 = .ok (.bipush 6, 2) := by decide +kernel
theorem dX1_init_23 : decode cX1_init 23 = .ok (.newarray .int, 2) := by decide +kernel
theorem dX1_init_25 : decode cX1_init 25 = .ok (.putfield 18, 3) := by decide +kernel
theorem dX1_init_28 : decode cX1_init 28 = .ok (.aload_n 0, 1) := by decide +kernel
theorem dX1_init_29 : decode cX1_init 29 = .ok (.bipush 6, 2) := by decide +kernel
theorem dX1_init_31 : decode cX1_init 31 = .ok (.newarray .int, 2) := by decide +kernel
theorem dX1_init_33 : decode cX1_init 33 = .ok (.putfield 21, 3) := by decide +kernel
theorem dX1_init_36 : decode cX1_init 36 = .ok (.aload_n 0, 1) := by decide +kernel
theorem dX1_init_37 : decode cX1_init 37 = .ok (.bipush 6, 2) := by decide +kernel
theorem dX1_init_39 : decode cX1_init 39 = .ok (.newarray .int, 2) := by decide +kernel
theorem dX1_init_41 : decode cX1_init 41 = .ok (.putfield 24, 3) := by decide +kernel
theorem dX1_init_44 : decode cX1_init 44 = .ok (.return_, 1) := by decide +kernel
theorem dX1_deal_0 : decode cX1_deal 0 = .ok (.aload_n 0, 1) := by decide +kernel
theorem dX1_deal_1 : decode cX1_deal 1 = .ok (.aload_n 1, 1) := by decide +kernel
theorem dX1_deal_2 : decode cX1_deal 2 = .ok (.getfield 27, 3) := by decide +kernel
theorem dX1_deal_5 : decode cX1_deal 5 = .ok (.invokestatic 33, 3) := by decide +kernel
theorem dX1_deal_8 : decode cX1_deal 8 = .ok (.putfield 37, 3) := by decide +kernel
theorem dX1_deal_11 : decode cX1_deal 11 = .ok (.aload_n 0, 1) := by decide +kernel
theorem dX1_deal_12 : decode cX1_deal 12 = .ok (.aload_n 1, 1) := by decide +kernel
theorem dX1_deal_13 : decode cX1_deal 13 = .ok (.getfield 40, 3) := by decide +kernel
theorem dX1_deal_16 : decode cX1_deal 16 = .ok (.invokestatic 33, 3) := by decide +kernel
theorem dX1_deal_19 : decode cX1_deal 19 = .ok (.putfield 43, 3) := by decide +kernel
theorem dX1_deal_22 : decode cX1_deal 22 = .ok (.aload_n 0, 1) := by decide +kernel
theorem dX1_deal_23 : decode cX1_deal 23 = .ok (.iconst 0, 1) := by decide +kernel
theorem dX1_deal_24 : decode cX1_deal 24 = .ok (.putfield 46, 3) := by decide +kernel
theorem dX1_deal_27 : decode cX1_deal 27 = .ok (.iconst 0, 1) := by decide +kernel
theorem dX1_deal_28 : decode cX1_deal 28 = .ok (.istore_n 2, 1) := by decide +kernel
theorem dX1_deal_29 : decode cX1_deal 29 = .ok (.iload_n 2, 1) := by decide +kernel
theorem dX1_deal_30 : decode cX1_deal 30 = .ok (.bipush 6, 2) := by decide +kernel
theorem dX1_deal_32 : decode cX1_deal 32 = .ok (.if_icmp .ge 38, 3) := by decide +kernel
theorem dX1_deal_35 : decode cX1_deal 35 = .ok (.aload_n 0, 1) := by decide +kernel
theorem dX1_deal_36 : decode cX1_deal 36 = .ok (.getfield 37, 3) := by decide +kernel
theorem dX1_deal_39 : decode cX1_deal 39 = .ok (.ifCond .eq 31, 3) := by decide +kernel
theorem dX1_deal_42 : decode cX1_deal 42 = .ok (.aload_n 0, 1) := by decide +kernel
theorem dX1_deal_43 : decode cX1_deal 43 = .ok (.aload_n 1, 1) := by decide +kernel
theorem dX1_deal_44 : decode cX1_deal 44 = .ok (.invokevirtual 49, 3) := by decide +kernel
theorem dX1_deal_47 : decode cX1_deal 47 = .ok (.aload_n 0, 1) := by decide +kernel
theorem dX1_deal_48 : decode cX1_deal 48 = .ok (.aload_n 1, 1) := by decide +kernel
theorem dX1_deal_49 : decode cX1_deal 49 = .ok (.invokevirtual 53, 3) := by decide +kernel
theorem dX1_deal_52 : decode cX1_deal 52 = .ok (.aload_n 0, 1) := by decide +kernel
theorem dX1_deal_53 : decode cX1_deal 53 = .ok (.aload_n 1, 1) := by decide +kernel
theorem dX1_deal_54 : decode cX1_deal 54 = .ok (.invokevirtual 56, 3) := by decide +kernel
theorem dX1_deal_57 : decode cX1_deal 57 = .ok (.aload_n 0, 1) := by decide +kernel
theorem dX1_deal_58 : decode cX1_deal 58 = .ok (.iload_n 2, 1) := by decide +kernel
theorem dX1_deal_59 : decode cX1_deal 59 = .ok (.iconst 1, 1) := by decide +kernel
theorem dX1_deal_60 : decode cX1_deal 60 = .ok (.iadd, 1) := by decide +kernel
theorem dX1_deal_61 : decode cX1_deal 61 = .ok (.putfield 46, 3) := by decide +kernel
theorem dX1_deal_64 : decode cX1_deal 64 = .ok (.iinc 2 1, 3) := by decide +kernel
theorem dX1_deal_67 : decode cX1_deal 67 = .ok (.goto (-38), 3) := by decide +kernel
theorem dX1_deal_70 : decode cX1_deal 70 = .ok (.return_, 1) := by decide +kernel
theorem dX1_roomOf_0 : decode cX1_roomOf 0 = .ok (.aload_n 0, 1) := by decide +kernel
theorem dX1_roomOf_1 : decode cX1_roomOf 1 = .ok (.getfield 9, 3) := by decide +kernel
theorem dX1_roomOf_4 : decode cX1_roomOf 4 = .ok (.iload_n 1, 1) := by decide +kernel
theorem dX1_roomOf_5 : decode cX1_roomOf 5 = .ok (.invokestatic 59, 3) := by decide +kernel
theorem dX1_roomOf_8 : decode cX1_roomOf 8 = .ok (.ireturn, 1) := by decide +kernel
theorem dX1_roundOf_0 : decode cX1_roundOf 0 = .ok (.aload_n 0, 1) := by decide +kernel
theorem dX1_roundOf_1 : decode cX1_roundOf 1 = .ok (.getfield 15, 3) := by decide +kernel
theorem dX1_roundOf_4 : decode cX1_roundOf 4 = .ok (.iload_n 1, 1) := by decide +kernel
theorem dX1_roundOf_5 : decode cX1_roundOf 5 = .ok (.invokestatic 59, 3) := by decide +kernel
theorem dX1_roundOf_8 : decode cX1_roundOf 8 = .ok (.ireturn, 1) := by decide +kernel
theorem dX1_ringOf_0 : decode cX1_ringOf 0 = .ok (.aload_n 0, 1) := by decide +kernel
theorem dX1_ringOf_1 : decode cX1_ringOf 1 = .ok (.getfield 18, 3) := by decide +kernel
theorem dX1_ringOf_4 : decode cX1_ringOf 4 = .ok (.iload_n 1, 1) := by decide +kernel
theorem dX1_ringOf_5 : decode cX1_ringOf 5 = .ok (.invokestatic 59, 3) := by decide +kernel
theorem dX1_ringOf_8 : decode cX1_ringOf 8 = .ok (.ireturn, 1) := by decide +kernel
theorem dX1_winner_0 : decode cX1_winner 0 = .ok (.iconst 0, 1) := by decide +kernel
theorem dX1_winner_1 : decode cX1_winner 1 = .ok (.istore_n 3, 1) := by decide +kernel
theorem dX1_winner_2 : decode cX1_winner 2 = .ok (.iload_n 3, 1) := by decide +kernel
theorem dX1_winner_3 : decode cX1_winner 3 = .ok (.aload_n 1, 1) := by decide +kernel
theorem dX1_winner_4 : decode cX1_winner 4 = .ok (.getfield 27, 3) := by decide +kernel
theorem dX1_winner_7 : decode cX1_winner 7 = .ok (.if_icmp .ge 23, 3) := by decide +kernel
theorem dX1_winner_10 : decode cX1_winner 10 = .ok (.aload_n 0, 1) := by decide +kernel
theorem dX1_winner_11 : decode cX1_winner 11 = .ok (.getfield 9, 3) := by decide +kernel
theorem dX1_winner_14 : decode cX1_winner 14 = .ok (.iload_n 3, 1) := by decide +kernel
theorem dX1_winner_15 : decode cX1_winner 15 = .ok (.invokestatic 59, 3) := by decide +kernel
theorem dX1_winner_18 : decode cX1_winner 18 = .ok (.iload_n 2, 1) := by decide +kernel
theorem dX1_winner_19 : decode cX1_winner 19 = .ok (.if_icmp .ne 5, 3) := by decide +kernel
theorem dX1_winner_22 : decode cX1_winner 22 = .ok (.iload_n 3, 1) := by decide +kernel
theorem dX1_winner_23 : decode cX1_winner 23 = .ok (.ireturn, 1) := by decide +kernel
theorem dX1_winner_24 : decode cX1_winner 24 = .ok (.iinc 3 1, 3) := by decide +kernel
theorem dX1_winner_27 : decode cX1_winner 27 = .ok (.goto (-25), 3) := by decide +kernel
theorem dX1_winner_30 : decode cX1_winner 30 = .ok (.iconst (-1), 1) := by decide +kernel
theorem dX1_winner_31 : decode cX1_winner 31 = .ok (.ireturn, 1) := by decide +kernel
theorem dX1_emptyHanded_0 : decode cX1_emptyHanded 0 = .ok (.iconst 0, 1) := by decide +kernel
theorem dX1_emptyHanded_1 : decode cX1_emptyHanded 1 = .ok (.istore_n 2, 1) := by decide +kernel
theorem dX1_emptyHanded_2 : decode cX1_emptyHanded 2 = .ok (.iconst 0, 1) := by decide +kernel
theorem dX1_emptyHanded_3 : decode cX1_emptyHanded 3 = .ok (.istore_n 3, 1) := by decide +kernel
theorem dX1_emptyHanded_4 : decode cX1_emptyHanded 4 = .ok (.iload_n 3, 1) := by decide +kernel
theorem dX1_emptyHanded_5 : decode cX1_emptyHanded 5 = .ok (.aload_n 1, 1) := by decide +kernel
theorem dX1_emptyHanded_6 : decode cX1_emptyHanded 6 = .ok (.getfield 27, 3) := by decide +kernel
theorem dX1_emptyHanded_9 : decode cX1_emptyHanded 9 = .ok (.if_icmp .ge 27, 3) := by decide +kernel
theorem dX1_emptyHanded_12 : decode cX1_emptyHanded 12 = .ok (.aload_n 0, 1) := by decide +kernel
theorem dX1_emptyHanded_13 : decode cX1_emptyHanded 13 = .ok (.getfield 9, 3) := by decide +kernel
theorem dX1_emptyHanded_16 : decode cX1_emptyHanded 16 = .ok (.iload_n 3, 1) := by decide +kernel
theorem dX1_emptyHanded_17 : decode cX1_emptyHanded 17 = .ok (.invokestatic 59, 3) := by decide +kernel
theorem dX1_emptyHanded_20 : decode cX1_emptyHanded 20 = .ok (.iconst (-1), 1) := by decide +kernel
theorem dX1_emptyHanded_21 : decode cX1_emptyHanded 21 = .ok (.if_icmp .ne 9, 3) := by decide +kernel
theorem dX1_emptyHanded_24 : decode cX1_emptyHanded 24 = .ok (.iload_n 2, 1) := by decide +kernel
theorem dX1_emptyHanded_25 : decode cX1_emptyHanded 25 = .ok (.iload_n 3, 1) := by decide +kernel
theorem dX1_emptyHanded_26 : decode cX1_emptyHanded 26 = .ok (.invokestatic 63, 3) := by decide +kernel
theorem dX1_emptyHanded_29 : decode cX1_emptyHanded 29 = .ok (.istore_n 2, 1) := by decide +kernel
theorem dX1_emptyHanded_30 : decode cX1_emptyHanded 30 = .ok (.iinc 3 1, 3) := by decide +kernel
theorem dX1_emptyHanded_33 : decode cX1_emptyHanded 33 = .ok (.goto (-29), 3) := by decide +kernel
theorem dX1_emptyHanded_36 : decode cX1_emptyHanded 36 = .ok (.iload_n 2, 1) := by decide +kernel
theorem dX1_emptyHanded_37 : decode cX1_emptyHanded 37 = .ok (.ireturn, 1) := by decide +kernel
theorem dX1_aim_0 : decode cX1_aim 0 = .ok (.iconst 0, 1) := by decide +kernel
theorem dX1_aim_1 : decode cX1_aim 1 = .ok (.istore_n 2, 1) := by decide +kernel
theorem dX1_aim_2 : decode cX1_aim 2 = .ok (.iload_n 2, 1) := by decide +kernel
theorem dX1_aim_3 : decode cX1_aim 3 = .ok (.aload_n 1, 1) := by decide +kernel
theorem dX1_aim_4 : decode cX1_aim 4 = .ok (.getfield 27, 3) := by decide +kernel
theorem dX1_aim_7 : decode cX1_aim 7 = .ok (.if_icmp .ge 67, 3) := by decide +kernel
theorem dX1_aim_10 : decode cX1_aim 10 = .ok (.aload_n 0, 1) := by decide +kernel
theorem dX1_aim_11 : decode cX1_aim 11 = .ok (.getfield 37, 3) := by decide +kernel
theorem dX1_aim_14 : decode cX1_aim 14 = .ok (.iload_n 2, 1) := by decide +kernel
theorem dX1_aim_15 : decode cX1_aim 15 = .ok (.invokestatic 67, 3) := by decide +kernel
theorem dX1_aim_18 : decode cX1_aim 18 = .ok (.ifCond .eq 50, 3) := by decide +kernel
theorem dX1_aim_21 : decode cX1_aim 21 = .ok (.aload_n 1, 1) := by decide +kernel
theorem dX1_aim_22 : decode cX1_aim 22 = .ok (.iload_n 2, 1) := by decide +kernel
theorem dX1_aim_23 : decode cX1_aim 23 = .ok (.aload_n 0, 1) := by decide +kernel
theorem dX1_aim_24 : decode cX1_aim 24 = .ok (.getfield 43, 3) := by decide +kernel
theorem dX1_aim_27 : decode cX1_aim 27 = .ok (.invokevirtual 71, 3) := by decide +kernel
theorem dX1_aim_30 : decode cX1_aim 30 = .ok (.istore_n 3, 1) := by decide +kernel
theorem dX1_aim_31 : decode cX1_aim 31 = .ok (.aload_n 0, 1) := by decide +kernel
theorem dX1_aim_32 : decode cX1_aim 32 = .ok (.getfield 21, 3) := by decide +kernel
theorem dX1_aim_35 : decode cX1_aim 35 = .ok (.iload_n 2, 1) := by decide +kernel
theorem dX1_aim_36 : decode cX1_aim 36 = .ok (.iload_n 3, 1) := by decide +kernel
theorem dX1_aim_37 : decode cX1_aim 37 = .ok (.invokestatic 74, 3) := by decide +kernel
theorem dX1_aim_40 : decode cX1_aim 40 = .ok (.iload_n 3, 1) := by decide +kernel
theorem dX1_aim_41 : decode cX1_aim 41 = .ok (.iconst (-1), 1) := by decide +kernel
theorem dX1_aim_42 : decode cX1_aim 42 = .ok (.if_icmp .ne 26, 3) := by decide +kernel
theorem dX1_aim_45 : decode cX1_aim 45 = .ok (.aload_n 0, 1) := by decide +kernel
theorem dX1_aim_46 : decode cX1_aim 46 = .ok (.iload_n 2, 1) := by decide +kernel
theorem dX1_aim_47 : decode cX1_aim 47 = .ok (.iconst (-1), 1) := by decide +kernel
theorem dX1_aim_48 : decode cX1_aim 48 = .ok (.iconst 0, 1) := by decide +kernel
theorem dX1_aim_49 : decode cX1_aim 49 = .ok (.iload_n 2, 1) := by decide +kernel
theorem dX1_aim_50 : decode cX1_aim 50 = .ok (.invokestatic 63, 3) := by decide +kernel
theorem dX1_aim_53 : decode cX1_aim 53 = .ok (.invokevirtual 78, 3) := by decide +kernel
theorem dX1_aim_56 : decode cX1_aim 56 = .ok (.aload_n 0, 1) := by decide +kernel
theorem dX1_aim_57 : decode cX1_aim 57 = .ok (.aload_n 0, 1) := by decide +kernel
theorem dX1_aim_58 : decode cX1_aim 58 = .ok (.getfield 37, 3) := by decide +kernel
theorem dX1_aim_61 : decode cX1_aim 61 = .ok (.iload_n 2, 1) := by decide +kernel
theorem dX1_aim_62 : decode cX1_aim 62 = .ok (.invokestatic 82, 3) := by decide +kernel
theorem dX1_aim_65 : decode cX1_aim 65 = .ok (.putfield 37, 3) := by decide +kernel
theorem dX1_aim_68 : decode cX1_aim 68 = .ok (.iinc 2 1, 3) := by decide +kernel
theorem dX1_aim_71 : decode cX1_aim 71 = .ok (.goto (-69), 3) := by decide +kernel
theorem dX1_aim_74 : decode cX1_aim 74 = .ok (.return_, 1) := by decide +kernel
theorem dX1_follow_0 : decode cX1_follow 0 = .ok (.aload_n 1, 1) := by decide +kernel
theorem dX1_follow_1 : decode cX1_follow 1 = .ok (.aload_n 0, 1) := by decide +kernel
theorem dX1_follow_2 : decode cX1_follow 2 = .ok (.getfield 37, 3) := by decide +kernel
theorem dX1_follow_5 : decode cX1_follow 5 = .ok (.invokevirtual 85, 3) := by decide +kernel
theorem dX1_follow_8 : decode cX1_follow 8 = .ok (.istore_n 2, 1) := by decide +kernel
theorem dX1_follow_9 : decode cX1_follow 9 = .ok (.iconst 0, 1) := by decide +kernel
theorem dX1_follow_10 : decode cX1_follow 10 = .ok (.istore_n 3, 1) := by decide +kernel
theorem dX1_follow_11 : decode cX1_follow 11 = .ok (.iload_n 3, 1) := by decide +kernel
theorem dX1_follow_12 : decode cX1_follow 12 = .ok (.aload_n 1, 1) := by decide +kernel
theorem dX1_follow_13 : decode cX1_follow 13 = .ok (.getfield 27, 3) := by decide +kernel
theorem dX1_follow_16 : decode cX1_follow 16 = .ok (.if_icmp .ge 60, 3) := by decide +kernel
theorem dX1_follow_19 : decode cX1_follow 19 = .ok (.aload_n 0, 1) := by decide +kernel
theorem dX1_follow_20 : decode cX1_follow 20 = .ok (.getfield 37, 3) := by decide +kernel
theorem dX1_follow_23 : decode cX1_follow 23 = .ok (.iload_n 3, 1) := by decide +kernel
theorem dX1_follow_24 : decode cX1_follow 24 = .ok (.invokestatic 67, 3) := by decide +kernel
theorem dX1_follow_27 : decode cX1_follow 27 = .ok (.ifCond .eq 43, 3) := by decide +kernel
theorem dX1_follow_30 : decode cX1_follow 30 = .ok (.aload_n 1, 1) := by decide +kernel
theorem dX1_follow_31 : decode cX1_follow 31 = .ok (.aload_n 0, 1) := by decide +kernel
theorem dX1_follow_32 : decode cX1_follow 32 = .ok (.getfield 21, 3) := by decide +kernel
theorem dX1_follow_35 : decode cX1_follow 35 = .ok (.iload_n 3, 1) := by decide +kernel
theorem dX1_follow_36 : decode cX1_follow 36 = .ok (.invokestatic 59, 3) := by decide +kernel
theorem dX1_follow_39 : decode cX1_follow 39 = .ok (.invokevirtual 88, 3) := by decide +kernel
theorem dX1_follow_42 : decode cX1_follow 42 = .ok (.istore 4, 2) := by decide +kernel
theorem dX1_follow_44 : decode cX1_follow 44 = .ok (.aload_n 0, 1) := by decide +kernel
theorem dX1_follow_45 : decode cX1_follow 45 = .ok (.getfield 24, 3) := by decide +kernel
theorem dX1_follow_48 : decode cX1_follow 48 = .ok (.iload_n 3, 1) := by decide +kernel
theorem dX1_follow_49 : decode cX1_follow 49 = .ok (.aload_n 0, 1) := by decide +kernel
theorem dX1_follow_50 : decode cX1_follow 50 = .ok (.getfield 37, 3) := by decide +kernel
theorem dX1_follow_53 : decode cX1_follow 53 = .ok (.iload 4, 2) := by decide +kernel
theorem dX1_follow_55 : decode cX1_follow 55 = .ok (.invokestatic 67, 3) := by decide +kernel
theorem dX1_follow_58 : decode cX1_follow 58 = .ok (.ifCond .eq 8, 3) := by decide +kernel
theorem dX1_follow_61 : decode cX1_follow 61 = .ok (.iload 4, 2) := by decide +kernel
theorem dX1_follow_63 : decode cX1_follow 63 = .ok (.goto 4, 3) := by decide +kernel
theorem dX1_follow_66 : decode cX1_follow 66 = .ok (.iload_n 2, 1) := by decide +kernel
theorem dX1_follow_67 : decode cX1_follow 67 = .ok (.invokestatic 74, 3) := by decide +kernel
theorem dX1_follow_70 : decode cX1_follow 70 = .ok (.iinc 3 1, 3) := by decide +kernel
theorem dX1_follow_73 : decode cX1_follow 73 = .ok (.goto (-62), 3) := by decide +kernel
theorem dX1_follow_76 : decode cX1_follow 76 = .ok (.return_, 1) := by decide +kernel
theorem dX1_closeRings_0 : decode cX1_closeRings 0 = .ok (.iconst 0, 1) := by decide +kernel
theorem dX1_closeRings_1 : decode cX1_closeRings 1 = .ok (.istore_n 2, 1) := by decide +kernel
theorem dX1_closeRings_2 : decode cX1_closeRings 2 = .ok (.iconst 0, 1) := by decide +kernel
theorem dX1_closeRings_3 : decode cX1_closeRings 3 = .ok (.istore_n 3, 1) := by decide +kernel
theorem dX1_closeRings_4 : decode cX1_closeRings 4 = .ok (.iload_n 3, 1) := by decide +kernel
theorem dX1_closeRings_5 : decode cX1_closeRings 5 = .ok (.aload_n 1, 1) := by decide +kernel
theorem dX1_closeRings_6 : decode cX1_closeRings 6 = .ok (.getfield 27, 3) := by decide +kernel
theorem dX1_closeRings_9 : decode cX1_closeRings 9 = .ok (.if_icmp .ge 74, 3) := by decide +kernel
theorem dX1_closeRings_12 : decode cX1_closeRings 12 = .ok (.aload_n 0, 1) := by decide +kernel
theorem dX1_closeRings_13 : decode cX1_closeRings 13 = .ok (.getfield 37, 3) := by decide +kernel
theorem dX1_closeRings_16 : decode cX1_closeRings 16 = .ok (.iload_n 3, 1) := by decide +kernel
theorem dX1_closeRings_17 : decode cX1_closeRings 17 = .ok (.invokestatic 67, 3) := by decide +kernel
theorem dX1_closeRings_20 : decode cX1_closeRings 20 = .ok (.ifCond .eq 11, 3) := by decide +kernel
theorem dX1_closeRings_23 : decode cX1_closeRings 23 = .ok (.aload_n 0, 1) := by decide +kernel
theorem dX1_closeRings_24 : decode cX1_closeRings 24 = .ok (.iload_n 3, 1) := by decide +kernel
theorem dX1_closeRings_25 : decode cX1_closeRings 25 = .ok (.invokevirtual 91, 3) := by decide +kernel
theorem dX1_closeRings_28 : decode cX1_closeRings 28 = .ok (.goto 4, 3) := by decide +kernel
theorem dX1_closeRings_31 : decode cX1_closeRings 31 = .ok (.iconst 0, 1) := by decide +kernel
theorem dX1_closeRings_32 : decode cX1_closeRings 32 = .ok (.istore 4, 2) := by decide +kernel
theorem dX1_closeRings_34 : decode cX1_closeRings 34 = .ok (.iload 4, 2) := by decide +kernel
theorem dX1_closeRings_36 : decode cX1_closeRings 36 = .ok (.ifCond .eq 41, 3) := by decide +kernel
theorem dX1_closeRings_39 : decode cX1_closeRings 39 = .ok (.aload_n 0, 1) := by decide +kernel
theorem dX1_closeRings_40 : decode cX1_closeRings 40 = .ok (.getfield 21, 3) := by decide +kernel
theorem dX1_closeRings_43 : decode cX1_closeRings 43 = .ok (.iload_n 3, 1) := by decide +kernel
theorem dX1_closeRings_44 : decode cX1_closeRings 44 = .ok (.invokestatic 59, 3) := by decide +kernel
theorem dX1_closeRings_47 : decode cX1_closeRings 47 = .ok (.istore 5, 2) := by decide +kernel
theorem dX1_closeRings_49 : decode cX1_closeRings 49 = .ok (.aload_n 0, 1) := by decide +kernel
theorem dX1_closeRings_50 : decode cX1_closeRings 50 = .ok (.iload_n 3, 1) := by decide +kernel
theorem dX1_closeRings_51 : decode cX1_closeRings 51 = .ok (.iload 5, 2) := by decide +kernel
theorem dX1_closeRings_53 : decode cX1_closeRings 53 = .ok (.iload 4, 2) := by decide +kernel
theorem dX1_closeRings_55 : decode cX1_closeRings 55 = .ok (.invokevirtual 78, 3) := by decide +kernel
theorem dX1_closeRings_58 : decode cX1_closeRings 58 = .ok (.iload_n 2, 1) := by decide +kernel
theorem dX1_closeRings_59 : decode cX1_closeRings 59 = .ok (.iload_n 3, 1) := by decide +kernel
theorem dX1_closeRings_60 : decode cX1_closeRings 60 = .ok (.invokestatic 63, 3) := by decide +kernel
theorem dX1_closeRings_63 : decode cX1_closeRings 63 = .ok (.istore_n 2, 1) := by decide +kernel
theorem dX1_closeRings_64 : decode cX1_closeRings 64 = .ok (.aload_n 0, 1) := by decide +kernel
theorem dX1_closeRings_65 : decode cX1_closeRings 65 = .ok (.aload_n 0, 1) := by decide +kernel
theorem dX1_closeRings_66 : decode cX1_closeRings 66 = .ok (.getfield 43, 3) := by decide +kernel
theorem dX1_closeRings_69 : decode cX1_closeRings 69 = .ok (.iload 5, 2) := by decide +kernel
theorem dX1_closeRings_71 : decode cX1_closeRings 71 = .ok (.invokestatic 82, 3) := by decide +kernel
theorem dX1_closeRings_74 : decode cX1_closeRings 74 = .ok (.putfield 43, 3) := by decide +kernel
theorem dX1_closeRings_77 : decode cX1_closeRings 77 = .ok (.iinc 3 1, 3) := by decide +kernel
theorem dX1_closeRings_80 : decode cX1_closeRings 80 = .ok (.goto (-76), 3) := by decide +kernel
theorem dX1_closeRings_83 : decode cX1_closeRings 83 = .ok (.aload_n 0, 1) := by decide +kernel
theorem dX1_closeRings_84 : decode cX1_closeRings 84 = .ok (.dup, 1) := by decide +kernel
theorem dX1_closeRings_85 : decode cX1_closeRings 85 = .ok (.getfield 37, 3) := by decide +kernel
theorem dX1_closeRings_88 : decode cX1_closeRings 88 = .ok (.iload_n 2, 1) := by decide +kernel
theorem dX1_closeRings_89 : decode cX1_closeRings 89 = .ok (.iconst (-1), 1) := by decide +kernel
theorem dX1_closeRings_90 : decode cX1_closeRings 90 = .ok (.ixor, 1) := by decide +kernel
theorem dX1_closeRings_91 : decode cX1_closeRings 91 = .ok (.iand, 1) := by decide +kernel
theorem dX1_closeRings_92 : decode cX1_closeRings 92 = .ok (.putfield 37, 3) := by decide +kernel
theorem dX1_closeRings_95 : decode cX1_closeRings 95 = .ok (.return_, 1) := by decide +kernel
theorem dX1_ringFrom_0 : decode cX1_ringFrom 0 = .ok (.iconst 0, 1) := by decide +kernel
theorem dX1_ringFrom_1 : decode cX1_ringFrom 1 = .ok (.istore_n 2, 1) := by decide +kernel
theorem dX1_ringFrom_2 : decode cX1_ringFrom 2 = .ok (.iload_n 1, 1) := by decide +kernel
theorem dX1_ringFrom_3 : decode cX1_ringFrom 3 = .ok (.istore_n 3, 1) := by decide +kernel
theorem dX1_ringFrom_4 : decode cX1_ringFrom 4 = .ok (.iconst 0, 1) := by decide +kernel
theorem dX1_ringFrom_5 : decode cX1_ringFrom 5 = .ok (.istore 4, 2) := by decide +kernel
theorem dX1_ringFrom_7 : decode cX1_ringFrom 7 = .ok (.iload 4, 2) := by decide +kernel
theorem dX1_ringFrom_9 : decode cX1_ringFrom 9 = .ok (.bipush 6, 2) := by decide +kernel
theorem dX1_ringFrom_11 : decode cX1_ringFrom 11 = .ok (.if_icmp .ge 31, 3) := by decide +kernel
theorem dX1_ringFrom_14 : decode cX1_ringFrom 14 = .ok (.iload_n 2, 1) := by decide +kernel
theorem dX1_ringFrom_15 : decode cX1_ringFrom 15 = .ok (.iload_n 3, 1) := by decide +kernel
theorem dX1_ringFrom_16 : decode cX1_ringFrom 16 = .ok (.invokestatic 63, 3) := by decide +kernel
theorem dX1_ringFrom_19 : decode cX1_ringFrom 19 = .ok (.istore_n 2, 1) := by decide +kernel
theorem dX1_ringFrom_20 : decode cX1_ringFrom 20 = .ok (.aload_n 0, 1) := by decide +kernel
theorem dX1_ringFrom_21 : decode cX1_ringFrom 21 = .ok (.getfield 24, 3) := by decide +kernel
theorem dX1_ringFrom_24 : decode cX1_ringFrom 24 = .ok (.iload_n 3, 1) := by decide +kernel
theorem dX1_ringFrom_25 : decode cX1_ringFrom 25 = .ok (.invokestatic 59, 3) := by decide +kernel
theorem dX1_ringFrom_28 : decode cX1_ringFrom 28 = .ok (.istore_n 3, 1) := by decide +kernel
theorem dX1_ringFrom_29 : decode cX1_ringFrom 29 = .ok (.iload_n 3, 1) := by decide +kernel
theorem dX1_ringFrom_30 : decode cX1_ringFrom 30 = .ok (.iload_n 1, 1) := by decide +kernel
theorem dX1_ringFrom_31 : decode cX1_ringFrom 31 = .ok (.if_icmp .ne 5, 3) := by decide +kernel
theorem dX1_ringFrom_34 : decode cX1_ringFrom 34 = .ok (.iload_n 2, 1) := by decide +kernel
theorem dX1_ringFrom_35 : decode cX1_ringFrom 35 = .ok (.ireturn, 1) := by decide +kernel
theorem dX1_ringFrom_36 : decode cX1_ringFrom 36 = .ok (.iinc 4 1, 3) := by decide +kernel
theorem dX1_ringFrom_39 : decode cX1_ringFrom 39 = .ok (.goto (-32), 3) := by decide +kernel
theorem dX1_ringFrom_42 : decode cX1_ringFrom 42 = .ok (.iconst 0, 1) := by decide +kernel
theorem dX1_ringFrom_43 : decode cX1_ringFrom 43 = .ok (.ireturn, 1) := by decide +kernel
theorem dX1_finish_0 : decode cX1_finish 0 = .ok (.aload_n 0, 1) := by decide +kernel
theorem dX1_finish_1 : decode cX1_finish 1 = .ok (.getfield 9, 3) := by decide +kernel
theorem dX1_finish_4 : decode cX1_finish 4 = .ok (.iload_n 1, 1) := by decide +kernel
theorem dX1_finish_5 : decode cX1_finish 5 = .ok (.iload_n 2, 1) := by decide +kernel
theorem dX1_finish_6 : decode cX1_finish 6 = .ok (.invokestatic 74, 3) := by decide +kernel
theorem dX1_finish_9 : decode cX1_finish 9 = .ok (.aload_n 0, 1) := by decide +kernel
theorem dX1_finish_10 : decode cX1_finish 10 = .ok (.getfield 15, 3) := by decide +kernel
theorem dX1_finish_13 : decode cX1_finish 13 = .ok (.iload_n 1, 1) := by decide +kernel
theorem dX1_finish_14 : decode cX1_finish 14 = .ok (.aload_n 0, 1) := by decide +kernel
theorem dX1_finish_15 : decode cX1_finish 15 = .ok (.getfield 46, 3) := by decide +kernel
theorem dX1_finish_18 : decode cX1_finish 18 = .ok (.invokestatic 74, 3) := by decide +kernel
theorem dX1_finish_21 : decode cX1_finish 21 = .ok (.aload_n 0, 1) := by decide +kernel
theorem dX1_finish_22 : decode cX1_finish 22 = .ok (.getfield 18, 3) := by decide +kernel
theorem dX1_finish_25 : decode cX1_finish 25 = .ok (.iload_n 1, 1) := by decide +kernel
theorem dX1_finish_26 : decode cX1_finish 26 = .ok (.iload_n 3, 1) := by decide +kernel
theorem dX1_finish_27 : decode cX1_finish 27 = .ok (.invokestatic 74, 3) := by decide +kernel
theorem dX1_finish_30 : decode cX1_finish 30 = .ok (.return_, 1) := by decide +kernel
theorem dX2_init_0 : decode cX2_init 0 = .ok (.aload_n 0, 1) := by decide +kernel
theorem dX2_init_1 : decode cX2_init 1 = .ok (.invokespecial 1, 3) := by decide +kernel
theorem dX2_init_4 : decode cX2_init 4 = .ok (.return_, 1) := by decide +kernel
theorem dX2_draw_0 : decode cX2_draw 0 = .ok (.aload_n 0, 1) := by decide +kernel
theorem dX2_draw_1 : decode cX2_draw 1 = .ok (.aload_n 0, 1) := by decide +kernel
theorem dX2_draw_2 : decode cX2_draw 2 = .ok (.getfield 7, 3) := by decide +kernel
theorem dX2_draw_5 : decode cX2_draw 5 = .ok (.i2l, 1) := by decide +kernel
theorem dX2_draw_6 : decode cX2_draw 6 = .ok (.ldc2_w 13, 3) := by decide +kernel
theorem dX2_draw_9 : decode cX2_draw 9 = .ok (.lmul, 1) := by decide +kernel
theorem dX2_draw_10 : decode cX2_draw 10 = .ok (.ldc2_w 15, 3) := by decide +kernel
theorem dX2_draw_13 : decode cX2_draw 13 = .ok (.ladd, 1) := by decide +kernel
theorem dX2_draw_14 : decode cX2_draw 14 = .ok (.ldc2_w 17, 3) := by decide +kernel
theorem dX2_draw_17 : decode cX2_draw 17 = .ok (.lrem, 1) := by decide +kernel
theorem dX2_draw_18 : decode cX2_draw 18 = .ok (.l2i, 1) := by decide +kernel
theorem dX2_draw_19 : decode cX2_draw 19 = .ok (.putfield 7, 3) := by decide +kernel
theorem dX2_draw_22 : decode cX2_draw 22 = .ok (.iload_n 1, 1) := by decide +kernel
theorem dX2_draw_23 : decode cX2_draw 23 = .ok (.ifCond .le 15, 3) := by decide +kernel
theorem dX2_draw_26 : decode cX2_draw 26 = .ok (.aload_n 0, 1) := by decide +kernel
theorem dX2_draw_27 : decode cX2_draw 27 = .ok (.getfield 7, 3) := by decide +kernel
theorem dX2_draw_30 : decode cX2_draw 30 = .ok (.ldc 19, 2) := by decide +kernel
theorem dX2_draw_32 : decode cX2_draw 32 = .ok (.idiv, 1) := by decide +kernel
theorem dX2_draw_33 : decode cX2_draw 33 = .ok (.iload_n 1, 1) := by decide +kernel
theorem dX2_draw_34 : decode cX2_draw 34 = .ok (.irem, 1) := by decide +kernel
theorem dX2_draw_35 : decode cX2_draw 35 = .ok (.goto 4, 3) := by decide +kernel
theorem dX2_draw_38 : decode cX2_draw 38 = .ok (.iconst 0, 1) := by decide +kernel
theorem dX2_draw_39 : decode cX2_draw 39 = .ok (.ireturn, 1) := by decide +kernel
theorem dX3_init_0 : decode cX3_init 0 = .ok (.aload_n 0, 1) := by decide +kernel
theorem dX3_init_1 : decode cX3_init 1 = .ok (.invokespecial 3, 3) := by decide +kernel
theorem dX3_init_4 : decode cX3_init 4 = .ok (.aload_n 0, 1) := by decide +kernel
theorem dX3_init_5 : decode cX3_init 5 = .ok (.bipush 6, 2) := by decide +kernel
theorem dX3_init_7 : decode cX3_init 7 = .ok (.newarray .int, 2) := by decide +kernel
theorem dX3_init_9 : decode cX3_init 9 = .ok (.putfield 9, 3) := by decide +kernel
theorem dX3_init_12 : decode cX3_init 12 = .ok (.aload_n 0, 1) := by decide +kernel
theorem dX3_init_13 : decode cX3_init 13 = .ok (.bipush 6, 2) := by decide +kernel
theorem dX3_init_15 : decode cX3_init 15 = .ok (.newarray .int, 2) := by decide +kernel
theorem dX3_init_17 : decode cX3_init 17 = .ok (.putfield 15, 3) := by decide +kernel
theorem dX3_init_20 : decode cX3_init 20 = .ok (.aload_n 0, 1) := by decide +kernel
theorem dX3_init_21 : decode cX3_init 21 = .ok (.bipush 48, 2) := by decide +kernel
theorem dX3_init_23 : decode cX3_init 23 = .ok (.newarray .int, 2) := by decide +kernel
theorem dX3_init_25 : decode cX3_init 25 = .ok (.putfield 18, 3) := by decide +kernel
theorem dX3_init_28 : decode cX3_init 28 = .ok (.aload_n 0, 1) := by decide +kernel
theorem dX3_init_29 : decode cX3_init 29 = .ok (.bipush 6, 2) := by decide +kernel
theorem dX3_init_31 : decode cX3_init 31 = .ok (.newarray .int, 2) := by decide +kernel
theorem dX3_init_33 : decode cX3_init 33 = .ok (.putfield 21, 3) := by decide +kernel
theorem dX3_init_36 : decode cX3_init 36 = .ok (.return_, 1) := by decide +kernel
theorem dX3_clear_0 : decode cX3_clear 0 = .ok (.aload_n 0, 1) := by decide +kernel
theorem dX3_clear_1 : decode cX3_clear 1 = .ok (.iconst 0, 1) := by decide +kernel
theorem dX3_clear_2 : decode cX3_clear 2 = .ok (.putfield 24, 3) := by decide +kernel
theorem dX3_clear_5 : decode cX3_clear 5 = .ok (.aload_n 0, 1) := by decide +kernel
theorem dX3_clear_6 : decode cX3_clear 6 = .ok (.iconst 0, 1) := by decide +kernel
theorem dX3_clear_7 : decode cX3_clear 7 = .ok (.putfield 28, 3) := by decide +kernel
theorem dX3_clear_10 : decode cX3_clear 10 = .ok (.return_, 1) := by decide +kernel
theorem dX3_copy_0 : decode cX3_copy 0 = .ok (.aload_n 0, 1) := by decide +kernel
theorem dX3_copy_1 : decode cX3_copy 1 = .ok (.aload_n 1, 1) := by decide +kernel
theorem dX3_copy_2 : decode cX3_copy 2 = .ok (.getfield 24, 3) := by decide +kernel
theorem dX3_copy_5 : decode cX3_copy 5 = .ok (.putfield 24, 3) := by decide +kernel
theorem dX3_copy_8 : decode cX3_copy 8 = .ok (.aload_n 0, 1) := by decide +kernel
theorem dX3_copy_9 : decode cX3_copy 9 = .ok (.aload_n 1, 1) := by decide +kernel
theorem dX3_copy_10 : decode cX3_copy 10 = .ok (.getfield 28, 3) := by decide +kernel
theorem dX3_copy_13 : decode cX3_copy 13 = .ok (.putfield 28, 3) := by decide +kernel
theorem dX3_copy_16 : decode cX3_copy 16 = .ok (.aload_n 1, 1) := by decide +kernel
theorem dX3_copy_17 : decode cX3_copy 17 = .ok (.getfield 9, 3) := by decide +kernel
theorem dX3_copy_20 : decode cX3_copy 20 = .ok (.iconst 0, 1) := by decide +kernel
theorem dX3_copy_21 : decode cX3_copy 21 = .ok (.aload_n 0, 1) := by decide +kernel
theorem dX3_copy_22 : decode cX3_copy 22 = .ok (.getfield 9, 3) := by decide +kernel
theorem dX3_copy_25 : decode cX3_copy 25 = .ok (.iconst 0, 1) := by decide +kernel
theorem dX3_copy_26 : decode cX3_copy 26 = .ok (.aload_n 0, 1) := by decide +kernel
theorem dX3_copy_27 : decode cX3_copy 27 = .ok (.getfield 9, 3) := by decide +kernel
theorem dX3_copy_30 : decode cX3_copy 30 = .ok (.arraylength, 1) := by decide +kernel
theorem dX3_copy_31 : decode cX3_copy 31 = .ok (.invokestatic 31, 3) := by decide +kernel
theorem dX3_copy_34 : decode cX3_copy 34 = .ok (.aload_n 1, 1) := by decide +kernel
theorem dX3_copy_35 : decode cX3_copy 35 = .ok (.getfield 15, 3) := by decide +kernel
theorem dX3_copy_38 : decode cX3_copy 38 = .ok (.iconst 0, 1) := by decide +kernel
theorem dX3_copy_39 : decode cX3_copy 39 = .ok (.aload_n 0, 1) := by decide +kernel
theorem dX3_copy_40 : decode cX3_copy 40 = .ok (.getfield 15, 3) := by decide +kernel
theorem dX3_copy_43 : decode cX3_copy 43 = .ok (.iconst 0, 1) := by decide +kernel
theorem dX3_copy_44 : decode cX3_copy 44 = .ok (.aload_n 0, 1) := by decide +kernel
theorem dX3_copy_45 : decode cX3_copy 45 = .ok (.getfield 15, 3) := by decide +kernel
theorem dX3_copy_48 : decode cX3_copy 48 = .ok (.arraylength, 1) := by decide +kernel
theorem dX3_copy_49 : decode cX3_copy 49 = .ok (.invokestatic 31, 3) := by decide +kernel
theorem dX3_copy_52 : decode cX3_copy 52 = .ok (.aload_n 1, 1) := by decide +kernel
theorem dX3_copy_53 : decode cX3_copy 53 = .ok (.getfield 18, 3) := by decide +kernel
theorem dX3_copy_56 : decode cX3_copy 56 = .ok (.iconst 0, 1) := by decide +kernel
theorem dX3_copy_57 : decode cX3_copy 57 = .ok (.aload_n 0, 1) := by decide +kernel
theorem dX3_copy_58 : decode cX3_copy 58 = .ok (.getfield 18, 3) := by decide +kernel
theorem dX3_copy_61 : decode cX3_copy 61 = .ok (.iconst 0, 1) := by decide +kernel
theorem dX3_copy_62 : decode cX3_copy 62 = .ok (.aload_n 0, 1) := by decide +kernel
theorem dX3_copy_63 : decode cX3_copy 63 = .ok (.getfield 18, 3) := by decide +kernel
theorem dX3_copy_66 : decode cX3_copy 66 = .ok (.arraylength, 1) := by decide +kernel
theorem dX3_copy_67 : decode cX3_copy 67 = .ok (.invokestatic 31, 3) := by decide +kernel
theorem dX3_copy_70 : decode cX3_copy 70 = .ok (.aload_n 1, 1) := by decide +kernel
theorem dX3_copy_71 : decode cX3_copy 71 = .ok (.getfield 21, 3) := by decide +kernel
theorem dX3_copy_74 : decode cX3_copy 74 = .ok (.iconst 0, 1) := by decide +kernel
theorem dX3_copy_75 : decode cX3_copy 75 = .ok (.aload_n 0, 1) := by decide +kernel
theorem dX3_copy_76 : decode cX3_copy 76 = .ok (.getfield 21, 3) := by decide +kernel
theorem dX3_copy_79 : decode cX3_copy 79 = .ok (.iconst 0, 1) := by decide +kernel
theorem dX3_copy_80 : decode cX3_copy 80 = .ok (.aload_n 0, 1) := by decide +kernel
theorem dX3_copy_81 : decode cX3_copy 81 = .ok (.getfield 21, 3) := by decide +kernel
theorem dX3_copy_84 : decode cX3_copy 84 = .ok (.arraylength, 1) := by decide +kernel
theorem dX3_copy_85 : decode cX3_copy 85 = .ok (.invokestatic 31, 3) := by decide +kernel
theorem dX3_copy_88 : decode cX3_copy 88 = .ok (.return_, 1) := by decide +kernel
theorem dX3_addPerson_0 : decode cX3_addPerson 0 = .ok (.aload_n 0, 1) := by decide +kernel
theorem dX3_addPerson_1 : decode cX3_addPerson 1 = .ok (.getfield 28, 3) := by decide +kernel
theorem dX3_addPerson_4 : decode cX3_addPerson 4 = .ok (.istore_n 1, 1) := by decide +kernel
theorem dX3_addPerson_5 : decode cX3_addPerson 5 = .ok (.aload_n 0, 1) := by decide +kernel
theorem dX3_addPerson_6 : decode cX3_addPerson 6 = .ok (.getfield 9, 3) := by decide +kernel
theorem dX3_addPerson_9 : decode cX3_addPerson 9 = .ok (.iload_n 1, 1) := by decide +kernel
theorem dX3_addPerson_10 : decode cX3_addPerson 10 = .ok (.iconst (-1), 1) := by decide +kernel
theorem dX3_addPerson_11 : decode cX3_addPerson 11 = .ok (.invokestatic 37, 3) := by decide +kernel
theorem dX3_addPerson_14 : decode cX3_addPerson 14 = .ok (.aload_n 0, 1) := by decide +kernel
theorem dX3_addPerson_15 : decode cX3_addPerson 15 = .ok (.getfield 15, 3) := by decide +kernel
theorem dX3_addPerson_18 : decode cX3_addPerson 18 = .ok (.iload_n 1, 1) := by decide +kernel
theorem dX3_addPerson_19 : decode cX3_addPerson 19 = .ok (.iconst 0, 1) := by decide +kernel
theorem dX3_addPerson_20 : decode cX3_addPerson 20 = .ok (.invokestatic 37, 3) := by decide +kernel
theorem dX3_addPerson_23 : decode cX3_addPerson 23 = .ok (.aload_n 0, 1) := by decide +kernel
theorem dX3_addPerson_24 : decode cX3_addPerson 24 = .ok (.getfield 21, 3) := by decide +kernel
theorem dX3_addPerson_27 : decode cX3_addPerson 27 = .ok (.iload_n 1, 1) := by decide +kernel
theorem dX3_addPerson_28 : decode cX3_addPerson 28 = .ok (.iload_n 1, 1) := by decide +kernel
theorem dX3_addPerson_29 : decode cX3_addPerson 29 = .ok (.invokestatic 37, 3) := by decide +kernel
theorem dX3_addPerson_32 : decode cX3_addPerson 32 = .ok (.aload_n 0, 1) := by decide +kernel
theorem dX3_addPerson_33 : decode cX3_addPerson 33 = .ok (.iload_n 1, 1) := by decide +kernel
theorem dX3_addPerson_34 : decode cX3_addPerson 34 = .ok (.iconst 1, 1) := by decide +kernel
theorem dX3_addPerson_35 : decode cX3_addPerson 35 = .ok (.iadd, 1) := by decide +kernel
theorem dX3_addPerson_36 : decode cX3_addPerson 36 = .ok (.bipush 6, 2) := by decide +kernel
theorem dX3_addPerson_38 : decode cX3_addPerson 38 = .ok (.invokestatic 41, 3) := by decide +kernel
theorem dX3_addPerson_41 : decode cX3_addPerson 41 = .ok (.putfield 28, 3) := by decide +kernel
theorem dX3_addPerson_44 : decode cX3_addPerson 44 = .ok (.iload_n 1, 1) := by decide +kernel
theorem dX3_addPerson_45 : decode cX3_addPerson 45 = .ok (.ireturn, 1) := by decide +kernel
theorem dX3_hasPerson_0 : decode cX3_hasPerson 0 = .ok (.iload_n 1, 1) := by decide +kernel
theorem dX3_hasPerson_1 : decode cX3_hasPerson 1 = .ok (.ifCond .lt 15, 3) := by decide +kernel
theorem dX3_hasPerson_4 : decode cX3_hasPerson 4 = .ok (.iload_n 1, 1) := by decide +kernel
theorem dX3_hasPerson_5 : decode cX3_hasPerson 5 = .ok (.aload_n 0, 1) := by decide +kernel
theorem dX3_hasPerson_6 : decode cX3_hasPerson 6 = .ok (.getfield 28, 3) := by decide +kernel
theorem dX3_hasPerson_9 : decode cX3_hasPerson 9 = .ok (.if_icmp .ge 7, 3) := by decide +kernel
theorem dX3_hasPerson_12 : decode cX3_hasPerson 12 = .ok (.iconst 1, 1) := by decide +kernel
theorem dX3_hasPerson_13 : decode cX3_hasPerson 13 = .ok (.goto 4, 3) := by decide +kernel
theorem dX3_hasPerson_16 : decode cX3_hasPerson 16 = .ok (.iconst 0, 1) := by decide +kernel
theorem dX3_hasPerson_17 : decode cX3_hasPerson 17 = .ok (.ireturn, 1) := by decide +kernel
theorem dX3_hasRoom_0 : decode cX3_hasRoom 0 = .ok (.iload_n 1, 1) := by decide +kernel
theorem dX3_hasRoom_1 : decode cX3_hasRoom 1 = .ok (.ifCond .lt 15, 3) := by decide +kernel
theorem dX3_hasRoom_4 : decode cX3_hasRoom 4 = .ok (.iload_n 1, 1) := by decide +kernel
theorem dX3_hasRoom_5 : decode cX3_hasRoom 5 = .ok (.aload_n 0, 1) := by decide +kernel
theorem dX3_hasRoom_6 : decode cX3_hasRoom 6 = .ok (.getfield 24, 3) := by decide +kernel
theorem dX3_hasRoom_9 : decode cX3_hasRoom 9 = .ok (.if_icmp .ge 7, 3) := by decide +kernel
theorem dX3_hasRoom_12 : decode cX3_hasRoom 12 = .ok (.iconst 1, 1) := by decide +kernel
theorem dX3_hasRoom_13 : decode cX3_hasRoom 13 = .ok (.goto 4, 3) := by decide +kernel
theorem dX3_hasRoom_16 : decode cX3_hasRoom 16 = .ok (.iconst 0, 1) := by decide +kernel
theorem dX3_hasRoom_17 : decode cX3_hasRoom 17 = .ok (.ireturn, 1) := by decide +kernel
theorem dX3_hasRoomOrNone_0 : decode cX3_hasRoomOrNone 0 = .ok (.iload_n 1, 1) := by decide +kernel
theorem dX3_hasRoomOrNone_1 : decode cX3_hasRoomOrNone 1 = .ok (.iconst (-1), 1) := by decide +kernel
theorem dX3_hasRoomOrNone_2 : decode cX3_hasRoomOrNone 2 = .ok (.if_icmp .eq 11, 3) := by decide +kernel
theorem dX3_hasRoomOrNone_5 : decode cX3_hasRoomOrNone 5 = .ok (.aload_n 0, 1) := by decide +kernel
theorem dX3_hasRoomOrNone_6 : decode cX3_hasRoomOrNone 6 = .ok (.iload_n 1, 1) := by decide +kernel
theorem dX3_hasRoomOrNone_7 : decode cX3_hasRoomOrNone 7 = .ok (.invokevirtual 47, 3) := by decide +kernel
theorem dX3_hasRoomOrNone_10 : decode cX3_hasRoomOrNone 10 = .ok (.ifCond .eq 7, 3) := by decide +kernel
theorem dX3_hasRoomOrNone_13 : decode cX3_hasRoomOrNone 13 = .ok (.iconst 1, 1) := by decide +kernel
theorem dX3_hasRoomOrNone_14 : decode cX3_hasRoomOrNone 14 = .ok (.goto 4, 3) := by decide +kernel
theorem dX3_hasRoomOrNone_17 : decode cX3_hasRoomOrNone 17 = .ok (.iconst 0, 1) := by decide +kernel
theorem dX3_hasRoomOrNone_18 : decode cX3_hasRoomOrNone 18 = .ok (.ireturn, 1) := by decide +kernel
theorem dX3_seatOf_0 : decode cX3_seatOf 0 = .ok (.aload_n 0, 1) := by decide +kernel
theorem dX3_seatOf_1 : decode cX3_seatOf 1 = .ok (.getfield 9, 3) := by decide +kernel
theorem dX3_seatOf_4 : decode cX3_seatOf 4 = .ok (.iload_n 1, 1) := by decide +kernel
theorem dX3_seatOf_5 : decode cX3_seatOf 5 = .ok (.invokestatic 51, 3) := by decide +kernel
theorem dX3_seatOf_8 : decode cX3_seatOf 8 = .ok (.ireturn, 1) := by decide +kernel
theorem dX3_seat_0 : decode cX3_seat 0 = .ok (.aload_n 0, 1) := by decide +kernel
theorem dX3_seat_1 : decode cX3_seat 1 = .ok (.getfield 9, 3) := by decide +kernel
theorem dX3_seat_4 : decode cX3_seat 4 = .ok (.iload_n 1, 1) := by decide +kernel
theorem dX3_seat_5 : decode cX3_seat 5 = .ok (.iload_n 2, 1) := by decide +kernel
theorem dX3_seat_6 : decode cX3_seat 6 = .ok (.invokestatic 37, 3) := by decide +kernel
theorem dX3_seat_9 : decode cX3_seat 9 = .ok (.return_, 1) := by decide +kernel
theorem dX3_sitter_0 : decode cX3_sitter 0 = .ok (.iconst 0, 1) := by decide +kernel
theorem dX3_sitter_1 : decode cX3_sitter 1 = .ok (.istore_n 2, 1) := by decide +kernel
theorem dX3_sitter_2 : decode cX3_sitter 2 = .ok (.iload_n 2, 1) := by decide +kernel
theorem dX3_sitter_3 : decode cX3_sitter 3 = .ok (.aload_n 0, 1) := by decide +kernel
theorem dX3_sitter_4 : decode cX3_sitter 4 = .ok (.getfield 28, 3) := by decide +kernel
theorem dX3_sitter_7 : decode cX3_sitter 7 = .ok (.if_icmp .ge 28, 3) := by decide +kernel
theorem dX3_sitter_10 : decode cX3_sitter 10 = .ok (.iload_n 1, 1) := by decide +kernel
theorem dX3_sitter_11 : decode cX3_sitter 11 = .ok (.iconst (-1), 1) := by decide +kernel
theorem dX3_sitter_12 : decode cX3_sitter 12 = .ok (.if_icmp .eq 17, 3) := by decide +kernel
theorem dX3_sitter_15 : decode cX3_sitter 15 = .ok (.aload_n 0, 1) := by decide +kernel
theorem dX3_sitter_16 : decode cX3_sitter 16 = .ok (.getfield 9, 3) := by decide +kernel
theorem dX3_sitter_19 : decode cX3_sitter 19 = .ok (.iload_n 2, 1) := by decide +kernel
theorem dX3_sitter_20 : decode cX3_sitter 20 = .ok (.invokestatic 51, 3) := by decide +kernel
theorem dX3_sitter_23 : decode cX3_sitter 23 = .ok (.iload_n 1, 1) := by decide +kernel
theorem dX3_sitter_24 : decode cX3_sitter 24 = .ok (.if_icmp .ne 5, 3) := by decide +kernel
theorem dX3_sitter_27 : decode cX3_sitter 27 = .ok (.iload_n 2, 1) := by decide +kernel
theorem dX3_sitter_28 : decode cX3_sitter 28 = .ok (.ireturn, 1) := by decide +kernel
theorem dX3_sitter_29 : decode cX3_sitter 29 = .ok (.iinc 2 1, 3) := by decide +kernel
theorem dX3_sitter_32 : decode cX3_sitter 32 = .ok (.goto (-30), 3) := by decide +kernel
theorem dX3_sitter_35 : decode cX3_sitter 35 = .ok (.iconst (-1), 1) := by decide +kernel
theorem dX3_sitter_36 : decode cX3_sitter 36 = .ok (.ireturn, 1) := by decide +kernel
theorem dX3_seatsOf_0 : decode cX3_seatsOf 0 = .ok (.iconst 0, 1) := by decide +kernel
theorem dX3_seatsOf_1 : decode cX3_seatsOf 1 = .ok (.istore_n 2, 1) := by decide +kernel
theorem dX3_seatsOf_2 : decode cX3_seatsOf 2 = .ok (.iconst 0, 1) := by decide +kernel
theorem dX3_seatsOf_3 : decode cX3_seatsOf 3 = .ok (.istore_n 3, 1) := by decide +kernel
theorem dX3_seatsOf_4 : decode cX3_seatsOf 4 = .ok (.iload_n 3, 1) := by decide +kernel
theorem dX3_seatsOf_5 : decode cX3_seatsOf 5 = .ok (.aload_n 0, 1) := by decide +kernel
theorem dX3_seatsOf_6 : decode cX3_seatsOf 6 = .ok (.getfield 28, 3) := by decide +kernel
