theorem dX8_drawDeed_124 : decode cX8_drawDeed 124 = .ok (.aload_n 0, 1) := by decide +kernel
theorem dX8_drawDeed_125 : decode cX8_drawDeed 125 = .ok (.invokevirtual 200, 3) := by decide +kernel
theorem dX8_drawDeed_128 : decode cX8_drawDeed 128 = .ok (.pop, 1) := by decide +kernel
theorem dX8_drawDeed_129 : decode cX8_drawDeed 129 = .ok (.return_, 1) := by decide +kernel
theorem dX8_chosenByLot_0 : decode cX8_chosenByLot 0 = .ok (.aload_n 0, 1) := by decide +kernel
theorem dX8_chosenByLot_1 : decode cX8_chosenByLot 1 = .ok (.getfield 19, 3) := by decide +kernel
theorem dX8_chosenByLot_4 : decode cX8_chosenByLot 4 = .ok (.getfield 97, 3) := by decide +kernel
theorem dX8_chosenByLot_7 : decode cX8_chosenByLot 7 = .ok (.invokestatic 288, 3) := by decide +kernel
theorem dX8_chosenByLot_10 : decode cX8_chosenByLot 10 = .ok (.istore_n 2, 1) := by decide +kernel
theorem dX8_chosenByLot_11 : decode cX8_chosenByLot 11 = .ok (.aload_n 0, 1) := by decide +kernel
theorem dX8_chosenByLot_12 : decode cX8_chosenByLot 12 = .ok (.getfield 19, 3) := by decide +kernel
theorem dX8_chosenByLot_15 : decode cX8_chosenByLot 15 = .ok (.getfield 90, 3) := by decide +kernel
theorem dX8_chosenByLot_18 : decode cX8_chosenByLot 18 = .ok (.invokestatic 288, 3) := by decide +kernel
theorem dX8_chosenByLot_21 : decode cX8_chosenByLot 21 = .ok (.istore_n 3, 1) := by decide +kernel
theorem dX8_chosenByLot_22 : decode cX8_chosenByLot 22 = .ok (.iconst 0, 1) := by decide +kernel
theorem dX8_chosenByLot_23 : decode cX8_chosenByLot 23 = .ok (.istore 4, 2) := by decide +kernel
theorem dX8_chosenByLot_25 : decode cX8_chosenByLot 25 = .ok (.iload 4, 2) := by decide +kernel
theorem dX8_chosenByLot_27 : decode cX8_chosenByLot 27 = .ok (.aload_n 0, 1) := by decide +kernel
theorem dX8_chosenByLot_28 : decode cX8_chosenByLot 28 = .ok (.getfield 19, 3) := by decide +kernel
theorem dX8_chosenByLot_31 : decode cX8_chosenByLot 31 = .ok (.getfield 90, 3) := by decide +kernel
theorem dX8_chosenByLot_34 : decode cX8_chosenByLot 34 = .ok (.if_icmp .ge 69, 3) := by decide +kernel
theorem dX8_chosenByLot_37 : decode cX8_chosenByLot 37 = .ok (.aload_n 0, 1) := by decide +kernel
theorem dX8_chosenByLot_38 : decode cX8_chosenByLot 38 = .ok (.getfield 19, 3) := by decide +kernel
theorem dX8_chosenByLot_41 : decode cX8_chosenByLot 41 = .ok (.getfield 291, 3) := by decide +kernel
theorem dX8_chosenByLot_44 : decode cX8_chosenByLot 44 = .ok (.iload 4, 2) := by decide +kernel
theorem dX8_chosenByLot_46 : decode cX8_chosenByLot 46 = .ok (.invokestatic 295, 3) := by decide +kernel
theorem dX8_chosenByLot_49 : decode cX8_chosenByLot 49 = .ok (.istore 5, 2) := by decide +kernel
theorem dX8_chosenByLot_51 : decode cX8_chosenByLot 51 = .ok (.iload_n 3, 1) := by decide +kernel
theorem dX8_chosenByLot_52 : decode cX8_chosenByLot 52 = .ok (.iload 5, 2) := by decide +kernel
theorem dX8_chosenByLot_54 : decode cX8_chosenByLot 54 = .ok (.invokestatic 299, 3) := by decide +kernel
theorem dX8_chosenByLot_57 : decode cX8_chosenByLot 57 = .ok (.istore_n 3, 1) := by decide +kernel
theorem dX8_chosenByLot_58 : decode cX8_chosenByLot 58 = .ok (.aload_n 0, 1) := by decide +kernel
theorem dX8_chosenByLot_59 : decode cX8_chosenByLot 59 = .ok (.getfield 19, 3) := by decide +kernel
theorem dX8_chosenByLot_62 : decode cX8_chosenByLot 62 = .ok (.iload 5, 2) := by decide +kernel
theorem dX8_chosenByLot_64 : decode cX8_chosenByLot 64 = .ok (.iload_n 2, 1) := by decide +kernel
theorem dX8_chosenByLot_65 : decode cX8_chosenByLot 65 = .ok (.aload_n 0, 1) := by decide +kernel
theorem dX8_chosenByLot_66 : decode cX8_chosenByLot 66 = .ok (.getfield 19, 3) := by decide +kernel
theorem dX8_chosenByLot_69 : decode cX8_chosenByLot 69 = .ok (.iload_n 3, 1) := by decide +kernel
theorem dX8_chosenByLot_70 : decode cX8_chosenByLot 70 = .ok (.invokevirtual 302, 3) := by decide +kernel
theorem dX8_chosenByLot_73 : decode cX8_chosenByLot 73 = .ok (.iconst (-1), 1) := by decide +kernel
theorem dX8_chosenByLot_74 : decode cX8_chosenByLot 74 = .ok (.ixor, 1) := by decide +kernel
theorem dX8_chosenByLot_75 : decode cX8_chosenByLot 75 = .ok (.iand, 1) := by decide +kernel
theorem dX8_chosenByLot_76 : decode cX8_chosenByLot 76 = .ok (.invokevirtual 305, 3) := by decide +kernel
theorem dX8_chosenByLot_79 : decode cX8_chosenByLot 79 = .ok (.istore 6, 2) := by decide +kernel
theorem dX8_chosenByLot_81 : decode cX8_chosenByLot 81 = .ok (.iload 5, 2) := by decide +kernel
theorem dX8_chosenByLot_83 : decode cX8_chosenByLot 83 = .ok (.iload_n 1, 1) := by decide +kernel
theorem dX8_chosenByLot_84 : decode cX8_chosenByLot 84 = .ok (.if_icmp .ne 6, 3) := by decide +kernel
theorem dX8_chosenByLot_87 : decode cX8_chosenByLot 87 = .ok (.iload 6, 2) := by decide +kernel
theorem dX8_chosenByLot_89 : decode cX8_chosenByLot 89 = .ok (.ireturn, 1) := by decide +kernel
theorem dX8_chosenByLot_90 : decode cX8_chosenByLot 90 = .ok (.iload_n 2, 1) := by decide +kernel
theorem dX8_chosenByLot_91 : decode cX8_chosenByLot 91 = .ok (.iload 6, 2) := by decide +kernel
theorem dX8_chosenByLot_93 : decode cX8_chosenByLot 93 = .ok (.invokestatic 299, 3) := by decide +kernel
theorem dX8_chosenByLot_96 : decode cX8_chosenByLot 96 = .ok (.istore_n 2, 1) := by decide +kernel
theorem dX8_chosenByLot_97 : decode cX8_chosenByLot 97 = .ok (.iinc 4 1, 3) := by decide +kernel
theorem dX8_chosenByLot_100 : decode cX8_chosenByLot 100 = .ok (.goto (-75), 3) := by decide +kernel
theorem dX8_chosenByLot_103 : decode cX8_chosenByLot 103 = .ok (.iconst (-1), 1) := by decide +kernel
theorem dX8_chosenByLot_104 : decode cX8_chosenByLot 104 = .ok (.ireturn, 1) := by decide +kernel
theorem dX8_at_0 : decode cX8_at 0 = .ok (.iload_n 1, 1) := by decide +kernel
theorem dX8_at_1 : decode cX8_at 1 = .ok (.ifCond .lt 15, 3) := by decide +kernel
theorem dX8_at_4 : decode cX8_at 4 = .ok (.iload_n 1, 1) := by decide +kernel
theorem dX8_at_5 : decode cX8_at 5 = .ok (.aload_n 0, 1) := by decide +kernel
theorem dX8_at_6 : decode cX8_at 6 = .ok (.arraylength, 1) := by decide +kernel
theorem dX8_at_7 : decode cX8_at 7 = .ok (.if_icmp .ge 9, 3) := by decide +kernel
theorem dX8_at_10 : decode cX8_at 10 = .ok (.aload_n 0, 1) := by decide +kernel
theorem dX8_at_11 : decode cX8_at 11 = .ok (.iload_n 1, 1) := by decide +kernel
theorem dX8_at_12 : decode cX8_at 12 = .ok (.iaload, 1) := by decide +kernel
theorem dX8_at_13 : decode cX8_at 13 = .ok (.goto 4, 3) := by decide +kernel
theorem dX8_at_16 : decode cX8_at 16 = .ok (.iconst (-1), 1) := by decide +kernel
theorem dX8_at_17 : decode cX8_at 17 = .ok (.ireturn, 1) := by decide +kernel
theorem dX8_put_0 : decode cX8_put 0 = .ok (.iload_n 1, 1) := by decide +kernel
theorem dX8_put_1 : decode cX8_put 1 = .ok (.ifCond .lt 13, 3) := by decide +kernel
theorem dX8_put_4 : decode cX8_put 4 = .ok (.iload_n 1, 1) := by decide +kernel
theorem dX8_put_5 : decode cX8_put 5 = .ok (.aload_n 0, 1) := by decide +kernel
theorem dX8_put_6 : decode cX8_put 6 = .ok (.arraylength, 1) := by decide +kernel
theorem dX8_put_7 : decode cX8_put 7 = .ok (.if_icmp .ge 7, 3) := by decide +kernel
theorem dX8_put_10 : decode cX8_put 10 = .ok (.aload_n 0, 1) := by decide +kernel
theorem dX8_put_11 : decode cX8_put 11 = .ok (.iload_n 1, 1) := by decide +kernel
theorem dX8_put_12 : decode cX8_put 12 = .ok (.iload_n 2, 1) := by decide +kernel
theorem dX8_put_13 : decode cX8_put 13 = .ok (.iastore, 1) := by decide +kernel
theorem dX8_put_14 : decode cX8_put 14 = .ok (.return_, 1) := by decide +kernel
theorem dX8_firstOnes_0 : decode cX8_firstOnes 0 = .ok (.iload_n 0, 1) := by decide +kernel
theorem dX8_firstOnes_1 : decode cX8_firstOnes 1 = .ok (.ifCond .le 17, 3) := by decide +kernel
theorem dX8_firstOnes_4 : decode cX8_firstOnes 4 = .ok (.iload_n 0, 1) := by decide +kernel
theorem dX8_firstOnes_5 : decode cX8_firstOnes 5 = .ok (.bipush 31, 2) := by decide +kernel
theorem dX8_firstOnes_7 : decode cX8_firstOnes 7 = .ok (.if_icmp .ge 11, 3) := by decide +kernel
theorem dX8_firstOnes_10 : decode cX8_firstOnes 10 = .ok (.iconst 1, 1) := by decide +kernel
theorem dX8_firstOnes_11 : decode cX8_firstOnes 11 = .ok (.iload_n 0, 1) := by decide +kernel
theorem dX8_firstOnes_12 : decode cX8_firstOnes 12 = .ok (.ishl, 1) := by decide +kernel
theorem dX8_firstOnes_13 : decode cX8_firstOnes 13 = .ok (.iconst 1, 1) := by decide +kernel
theorem dX8_firstOnes_14 : decode cX8_firstOnes 14 = .ok (.isub, 1) := by decide +kernel
theorem dX8_firstOnes_15 : decode cX8_firstOnes 15 = .ok (.goto 4, 3) := by decide +kernel
theorem dX8_firstOnes_18 : decode cX8_firstOnes 18 = .ok (.iconst 0, 1) := by decide +kernel
theorem dX8_firstOnes_19 : decode cX8_firstOnes 19 = .ok (.ireturn, 1) := by decide +kernel
theorem dX8_holds_0 : decode cX8_holds 0 = .ok (.iload_n 1, 1) := by decide +kernel
theorem dX8_holds_1 : decode cX8_holds 1 = .ok (.ifCond .lt 22, 3) := by decide +kernel
theorem dX8_holds_4 : decode cX8_holds 4 = .ok (.iload_n 1, 1) := by decide +kernel
theorem dX8_holds_5 : decode cX8_holds 5 = .ok (.bipush 31, 2) := by decide +kernel
theorem dX8_holds_7 : decode cX8_holds 7 = .ok (.if_icmp .ge 16, 3) := by decide +kernel
theorem dX8_holds_10 : decode cX8_holds 10 = .ok (.iload_n 0, 1) := by decide +kernel
theorem dX8_holds_11 : decode cX8_holds 11 = .ok (.iload_n 1, 1) := by decide +kernel
theorem dX8_holds_12 : decode cX8_holds 12 = .ok (.ishr, 1) := by decide +kernel
theorem dX8_holds_13 : decode cX8_holds 13 = .ok (.iconst 1, 1) := by decide +kernel
theorem dX8_holds_14 : decode cX8_holds 14 = .ok (.iand, 1) := by decide +kernel
theorem dX8_holds_15 : decode cX8_holds 15 = .ok (.iconst 1, 1) := by decide +kernel
theorem dX8_holds_16 : decode cX8_holds 16 = .ok (.if_icmp .ne 7, 3) := by decide +kernel
theorem dX8_holds_19 : decode cX8_holds 19 = .ok (.iconst 1, 1) := by decide +kernel
theorem dX8_holds_20 : decode cX8_holds 20 = .ok (.goto 4, 3) := by decide +kernel
theorem dX8_holds_23 : decode cX8_holds 23 = .ok (.iconst 0, 1) := by decide +kernel
theorem dX8_holds_24 : decode cX8_holds 24 = .ok (.ireturn, 1) := by decide +kernel
theorem dX8_with_0 : decode cX8_with 0 = .ok (.iload_n 1, 1) := by decide +kernel
theorem dX8_with_1 : decode cX8_with 1 = .ok (.ifCond .lt 17, 3) := by decide +kernel
theorem dX8_with_4 : decode cX8_with 4 = .ok (.iload_n 1, 1) := by decide +kernel
theorem dX8_with_5 : decode cX8_with 5 = .ok (.bipush 31, 2) := by decide +kernel
theorem dX8_with_7 : decode cX8_with 7 = .ok (.if_icmp .ge 11, 3) := by decide +kernel
theorem dX8_with_10 : decode cX8_with 10 = .ok (.iload_n 0, 1) := by decide +kernel
theorem dX8_with_11 : decode cX8_with 11 = .ok (.iconst 1, 1) := by decide +kernel
theorem dX8_with_12 : decode cX8_with 12 = .ok (.iload_n 1, 1) := by decide +kernel
theorem dX8_with_13 : decode cX8_with 13 = .ok (.ishl, 1) := by decide +kernel
theorem dX8_with_14 : decode cX8_with 14 = .ok (.ior, 1) := by decide +kernel
theorem dX8_with_15 : decode cX8_with 15 = .ok (.goto 4, 3) := by decide +kernel
theorem dX8_with_18 : decode cX8_with 18 = .ok (.iload_n 0, 1) := by decide +kernel
theorem dX8_with_19 : decode cX8_with 19 = .ok (.ireturn, 1) := by decide +kernel
theorem dX8_without_0 : decode cX8_without 0 = .ok (.iload_n 1, 1) := by decide +kernel
theorem dX8_without_1 : decode cX8_without 1 = .ok (.ifCond .lt 19, 3) := by decide +kernel
theorem dX8_without_4 : decode cX8_without 4 = .ok (.iload_n 1, 1) := by decide +kernel
theorem dX8_without_5 : decode cX8_without 5 = .ok (.bipush 31, 2) := by decide +kernel
theorem dX8_without_7 : decode cX8_without 7 = .ok (.if_icmp .ge 13, 3) := by decide +kernel
theorem dX8_without_10 : decode cX8_without 10 = .ok (.iload_n 0, 1) := by decide +kernel
theorem dX8_without_11 : decode cX8_without 11 = .ok (.iconst 1, 1) := by decide +kernel
theorem dX8_without_12 : decode cX8_without 12 = .ok (.iload_n 1, 1) := by decide +kernel
theorem dX8_without_13 : decode cX8_without 13 = .ok (.ishl, 1) := by decide +kernel
theorem dX8_without_14 : decode cX8_without 14 = .ok (.iconst (-1), 1) := by decide +kernel
theorem dX8_without_15 : decode cX8_without 15 = .ok (.ixor, 1) := by decide +kernel
theorem dX8_without_16 : decode cX8_without 16 = .ok (.iand, 1) := by decide +kernel
theorem dX8_without_17 : decode cX8_without 17 = .ok (.goto 4, 3) := by decide +kernel
theorem dX8_without_20 : decode cX8_without 20 = .ok (.iload_n 0, 1) := by decide +kernel
theorem dX8_without_21 : decode cX8_without 21 = .ok (.ireturn, 1) := by decide +kernel
theorem dX9_init_0 : decode cX9_init 0 = .ok (.aload_n 0, 1) := by decide +kernel
theorem dX9_init_1 : decode cX9_init 1 = .ok (.invokespecial 1, 3) := by decide +kernel
theorem dX9_init_4 : decode cX9_init 4 = .ok (.aload_n 0, 1) := by decide +kernel
theorem dX9_init_5 : decode cX9_init 5 = .ok (.sipush 1608, 3) := by decide +kernel
theorem dX9_init_8 : decode cX9_init 8 = .ok (.newarray .int, 2) := by decide +kernel
theorem dX9_init_10 : decode cX9_init 10 = .ok (.putfield 7, 3) := by decide +kernel
theorem dX9_init_13 : decode cX9_init 13 = .ok (.aload_n 0, 1) := by decide +kernel
theorem dX9_init_14 : decode cX9_init 14 = .ok (.sipush 240, 3) := by decide +kernel
theorem dX9_init_17 : decode cX9_init 17 = .ok (.newarray .int, 2) := by decide +kernel
theorem dX9_init_19 : decode cX9_init 19 = .ok (.putfield 13, 3) := by decide +kernel
theorem dX9_init_22 : decode cX9_init 22 = .ok (.aload_n 0, 1) := by decide +kernel
theorem dX9_init_23 : decode cX9_init 23 = .ok (.iconst (-1), 1) := by decide +kernel
theorem dX9_init_24 : decode cX9_init 24 = .ok (.putfield 16, 3) := by decide +kernel
theorem dX9_init_27 : decode cX9_init 27 = .ok (.aload_n 0, 1) := by decide +kernel
theorem dX9_init_28 : decode cX9_init 28 = .ok (.bipush 6, 2) := by decide +kernel
theorem dX9_init_30 : decode cX9_init 30 = .ok (.newarray .int, 2) := by decide +kernel
theorem dX9_init_32 : decode cX9_init 32 = .ok (.putfield 20, 3) := by decide +kernel
theorem dX9_init_35 : decode cX9_init 35 = .ok (.aload_n 0, 1) := by decide +kernel
theorem dX9_init_36 : decode cX9_init 36 = .ok (.bipush 6, 2) := by decide +kernel
theorem dX9_init_38 : decode cX9_init 38 = .ok (.newarray .int, 2) := by decide +kernel
theorem dX9_init_40 : decode cX9_init 40 = .ok (.putfield 23, 3) := by decide +kernel
theorem dX9_init_43 : decode cX9_init 43 = .ok (.aload_n 0, 1) := by decide +kernel
theorem dX9_init_44 : decode cX9_init 44 = .ok (.bipush 6, 2) := by decide +kernel
theorem dX9_init_46 : decode cX9_init 46 = .ok (.newarray .int, 2) := by decide +kernel
theorem dX9_init_48 : decode cX9_init 48 = .ok (.putfield 26, 3) := by decide +kernel
theorem dX9_init_51 : decode cX9_init 51 = .ok (.aload_n 0, 1) := by decide +kernel
theorem dX9_init_52 : decode cX9_init 52 = .ok (.bipush 9, 2) := by decide +kernel
theorem dX9_init_54 : decode cX9_init 54 = .ok (.newarray .int, 2) := by decide +kernel
theorem dX9_init_56 : decode cX9_init 56 = .ok (.putfield 29, 3) := by decide +kernel
theorem dX9_init_59 : decode cX9_init 59 = .ok (.aload_n 0, 1) := by decide +kernel
theorem dX9_init_60 : decode cX9_init 60 = .ok (.bipush 6, 2) := by decide +kernel
theorem dX9_init_62 : decode cX9_init 62 = .ok (.newarray .int, 2) := by decide +kernel
theorem dX9_init_64 : decode cX9_init 64 = .ok (.putfield 32, 3) := by decide +kernel
theorem dX9_init_67 : decode cX9_init 67 = .ok (.aload_n 0, 1) := by decide +kernel
theorem dX9_init_68 : decode cX9_init 68 = .ok (.bipush 6, 2) := by decide +kernel
theorem dX9_init_70 : decode cX9_init 70 = .ok (.newarray .int, 2) := by decide +kernel
theorem dX9_init_72 : decode cX9_init 72 = .ok (.putfield 35, 3) := by decide +kernel
theorem dX9_init_75 : decode cX9_init 75 = .ok (.aload_n 0, 1) := by decide +kernel
theorem dX9_init_76 : decode cX9_init 76 = .ok (.bipush 20, 2) := by decide +kernel
theorem dX9_init_78 : decode cX9_init 78 = .ok (.newarray .int, 2) := by decide +kernel
theorem dX9_init_80 : decode cX9_init 80 = .ok (.putfield 38, 3) := by decide +kernel
theorem dX9_init_83 : decode cX9_init 83 = .ok (.aload_n 0, 1) := by decide +kernel
theorem dX9_init_84 : decode cX9_init 84 = .ok (.bipush 20, 2) := by decide +kernel
theorem dX9_init_86 : decode cX9_init 86 = .ok (.newarray .int, 2) := by decide +kernel
theorem dX9_init_88 : decode cX9_init 88 = .ok (.putfield 41, 3) := by decide +kernel
theorem dX9_init_91 : decode cX9_init 91 = .ok (.aload_n 0, 1) := by decide +kernel
theorem dX9_init_92 : decode cX9_init 92 = .ok (.bipush 64, 2) := by decide +kernel
theorem dX9_init_94 : decode cX9_init 94 = .ok (.newarray .int, 2) := by decide +kernel
theorem dX9_init_96 : decode cX9_init 96 = .ok (.putfield 44, 3) := by decide +kernel
theorem dX9_init_99 : decode cX9_init 99 = .ok (.aload_n 0, 1) := by decide +kernel
theorem dX9_init_100 : decode cX9_init 100 = .ok (.iconst 0, 1) := by decide +kernel
theorem dX9_init_101 : decode cX9_init 101 = .ok (.invokevirtual 47, 3) := by decide +kernel
theorem dX9_init_104 : decode cX9_init 104 = .ok (.return_, 1) := by decide +kernel
theorem dX9_in_0 : decode cX9_in 0 = .ok (.iload_n 0, 1) := by decide +kernel
theorem dX9_in_1 : decode cX9_in 1 = .ok (.iload_n 1, 1) := by decide +kernel
theorem dX9_in_2 : decode cX9_in 2 = .ok (.if_icmp .lt 12, 3) := by decide +kernel
theorem dX9_in_5 : decode cX9_in 5 = .ok (.iload_n 0, 1) := by decide +kernel
theorem dX9_in_6 : decode cX9_in 6 = .ok (.iload_n 2, 1) := by decide +kernel
theorem dX9_in_7 : decode cX9_in 7 = .ok (.if_icmp .gt 7, 3) := by decide +kernel
theorem dX9_in_10 : decode cX9_in 10 = .ok (.iconst 1, 1) := by decide +kernel
theorem dX9_in_11 : decode cX9_in 11 = .ok (.goto 4, 3) := by decide +kernel
theorem dX9_in_14 : decode cX9_in 14 = .ok (.iconst 0, 1) := by decide +kernel
theorem dX9_in_15 : decode cX9_in 15 = .ok (.ireturn, 1) := by decide +kernel
theorem dX9_has_0 : decode cX9_has 0 = .ok (.iload_n 0, 1) := by decide +kernel
theorem dX9_has_1 : decode cX9_has 1 = .ok (.iload_n 1, 1) := by decide +kernel
theorem dX9_has_2 : decode cX9_has 2 = .ok (.ishr, 1) := by decide +kernel
theorem dX9_has_3 : decode cX9_has 3 = .ok (.iconst 1, 1) := by decide +kernel
theorem dX9_has_4 : decode cX9_has 4 = .ok (.iand, 1) := by decide +kernel
theorem dX9_has_5 : decode cX9_has 5 = .ok (.iconst 1, 1) := by decide +kernel
theorem dX9_has_6 : decode cX9_has 6 = .ok (.if_icmp .ne 7, 3) := by decide +kernel
theorem dX9_has_9 : decode cX9_has 9 = .ok (.iconst 1, 1) := by decide +kernel
theorem dX9_has_10 : decode cX9_has 10 = .ok (.goto 4, 3) := by decide +kernel
theorem dX9_has_13 : decode cX9_has 13 = .ok (.iconst 0, 1) := by decide +kernel
theorem dX9_has_14 : decode cX9_has 14 = .ok (.ireturn, 1) := by decide +kernel
theorem dX9_bits_0 : decode cX9_bits 0 = .ok (.iconst 0, 1) := by decide +kernel
theorem dX9_bits_1 : decode cX9_bits 1 = .ok (.istore_n 1, 1) := by decide +kernel
theorem dX9_bits_2 : decode cX9_bits 2 = .ok (.iconst 0, 1) := by decide +kernel
theorem dX9_bits_3 : decode cX9_bits 3 = .ok (.istore_n 2, 1) := by decide +kernel
theorem dX9_bits_4 : decode cX9_bits 4 = .ok (.iload_n 2, 1) := by decide +kernel
theorem dX9_bits_5 : decode cX9_bits 5 = .ok (.bipush 8, 2) := by decide +kernel
theorem dX9_bits_7 : decode cX9_bits 7 = .ok (.if_icmp .ge 17, 3) := by decide +kernel
theorem dX9_bits_10 : decode cX9_bits 10 = .ok (.iload_n 1, 1) := by decide +kernel
theorem dX9_bits_11 : decode cX9_bits 11 = .ok (.iload_n 0, 1) := by decide +kernel
theorem dX9_bits_12 : decode cX9_bits 12 = .ok (.iload_n 2, 1) := by decide +kernel
theorem dX9_bits_13 : decode cX9_bits 13 = .ok (.ishr, 1) := by decide +kernel
theorem dX9_bits_14 : decode cX9_bits 14 = .ok (.iconst 1, 1) := by decide +kernel
theorem dX9_bits_15 : decode cX9_bits 15 = .ok (.iand, 1) := by decide +kernel
theorem dX9_bits_16 : decode cX9_bits 16 = .ok (.iadd, 1) := by decide +kernel
theorem dX9_bits_17 : decode cX9_bits 17 = .ok (.istore_n 1, 1) := by decide +kernel
theorem dX9_bits_18 : decode cX9_bits 18 = .ok (.iinc 2 1, 3) := by decide +kernel
theorem dX9_bits_21 : decode cX9_bits 21 = .ok (.goto (-17), 3) := by decide +kernel
theorem dX9_bits_24 : decode cX9_bits 24 = .ok (.iload_n 1, 1) := by decide +kernel
theorem dX9_bits_25 : decode cX9_bits 25 = .ok (.ireturn, 1) := by decide +kernel
theorem dX9_copyRow_0 : decode cX9_copyRow 0 = .ok (.iconst 0, 1) := by decide +kernel
theorem dX9_copyRow_1 : decode cX9_copyRow 1 = .ok (.istore_n 3, 1) := by decide +kernel
theorem dX9_copyRow_2 : decode cX9_copyRow 2 = .ok (.iload_n 3, 1) := by decide +kernel
theorem dX9_copyRow_3 : decode cX9_copyRow 3 = .ok (.bipush 67, 2) := by decide +kernel
theorem dX9_copyRow_5 : decode cX9_copyRow 5 = .ok (.if_icmp .ge 25, 3) := by decide +kernel
theorem dX9_copyRow_8 : decode cX9_copyRow 8 = .ok (.aload_n 0, 1) := by decide +kernel
theorem dX9_copyRow_9 : decode cX9_copyRow 9 = .ok (.getfield 7, 3) := by decide +kernel
theorem dX9_copyRow_12 : decode cX9_copyRow 12 = .ok (.iload_n 2, 1) := by decide +kernel
theorem dX9_copyRow_13 : decode cX9_copyRow 13 = .ok (.iload_n 3, 1) := by decide +kernel
theorem dX9_copyRow_14 : decode cX9_copyRow 14 = .ok (.iadd, 1) := by decide +kernel
theorem dX9_copyRow_15 : decode cX9_copyRow 15 = .ok (.aload_n 0, 1) := by decide +kernel
theorem dX9_copyRow_16 : decode cX9_copyRow 16 = .ok (.getfield 7, 3) := by decide +kernel
theorem dX9_copyRow_19 : decode cX9_copyRow 19 = .ok (.iload_n 1, 1) := by decide +kernel
theorem dX9_copyRow_20 : decode cX9_copyRow 20 = .ok (.iload_n 3, 1) := by decide +kernel
theorem dX9_copyRow_21 : decode cX9_copyRow 21 = .ok (.iadd, 1) := by decide +kernel
theorem dX9_copyRow_22 : decode cX9_copyRow 22 = .ok (.iaload, 1) := by decide +kernel
theorem dX9_copyRow_23 : decode cX9_copyRow 23 = .ok (.iastore, 1) := by decide +kernel
theorem dX9_copyRow_24 : decode cX9_copyRow 24 = .ok (.iinc 3 1, 3) := by decide +kernel
theorem dX9_copyRow_27 : decode cX9_copyRow 27 = .ok (.goto (-25), 3) := by decide +kernel
theorem dX9_copyRow_30 : decode cX9_copyRow 30 = .ok (.return_, 1) := by decide +kernel
theorem dX9_beginLots_0 : decode cX9_beginLots 0 = .ok (.iconst 0, 1) := by decide +kernel
theorem dX9_beginLots_1 : decode cX9_beginLots 1 = .ok (.istore_n 2, 1) := by decide +kernel
theorem dX9_beginLots_2 : decode cX9_beginLots 2 = .ok (.iload_n 2, 1) := by decide +kernel
theorem dX9_beginLots_3 : decode cX9_beginLots 3 = .ok (.bipush 6, 2) := by decide +kernel
theorem dX9_beginLots_5 : decode cX9_beginLots 5 = .ok (.if_icmp .ge 21, 3) := by decide +kernel
theorem dX9_beginLots_8 : decode cX9_beginLots 8 = .ok (.aload_n 0, 1) := by decide +kernel
theorem dX9_beginLots_9 : decode cX9_beginLots 9 = .ok (.getfield 7, 3) := by decide +kernel
theorem dX9_beginLots_12 : decode cX9_beginLots 12 = .ok (.iload_n 1, 1) := by decide +kernel
theorem dX9_beginLots_13 : decode cX9_beginLots 13 = .ok (.bipush 60, 2) := by decide +kernel
theorem dX9_beginLots_15 : decode cX9_beginLots 15 = .ok (.iadd, 1) := by decide +kernel
theorem dX9_beginLots_16 : decode cX9_beginLots 16 = .ok (.iload_n 2, 1) := by decide +kernel
theorem dX9_beginLots_17 : decode cX9_beginLots 17 = .ok (.iadd, 1) := by decide +kernel
theorem dX9_beginLots_18 : decode cX9_beginLots 18 = .ok (.iload_n 2, 1) := by decide +kernel
theorem dX9_beginLots_19 : decode cX9_beginLots 19 = .ok (.iastore, 1) := by decide +kernel
theorem dX9_beginLots_20 : decode cX9_beginLots 20 = .ok (.iinc 2 1, 3) := by decide +kernel
theorem dX9_beginLots_23 : decode cX9_beginLots 23 = .ok (.goto (-21), 3) := by decide +kernel
theorem dX9_beginLots_26 : decode cX9_beginLots 26 = .ok (.return_, 1) := by decide +kernel
theorem dX9_isPerson_0 : decode cX9_isPerson 0 = .ok (.iload_n 1, 1) := by decide +kernel
theorem dX9_isPerson_1 : decode cX9_isPerson 1 = .ok (.iconst 0, 1) := by decide +kernel
theorem dX9_isPerson_2 : decode cX9_isPerson 2 = .ok (.aload_n 0, 1) := by decide +kernel
theorem dX9_isPerson_3 : decode cX9_isPerson 3 = .ok (.getfield 51, 3) := by decide +kernel
theorem dX9_isPerson_6 : decode cX9_isPerson 6 = .ok (.iconst 1, 1) := by decide +kernel
theorem dX9_isPerson_7 : decode cX9_isPerson 7 = .ok (.isub, 1) := by decide +kernel
theorem dX9_isPerson_8 : decode cX9_isPerson 8 = .ok (.invokestatic 54, 3) := by decide +kernel
theorem dX9_isPerson_11 : decode cX9_isPerson 11 = .ok (.ireturn, 1) := by decide +kernel
theorem dX9_isRoom_0 : decode cX9_isRoom 0 = .ok (.iload_n 1, 1) := by decide +kernel
theorem dX9_isRoom_1 : decode cX9_isRoom 1 = .ok (.iconst 0, 1) := by decide +kernel
theorem dX9_isRoom_2 : decode cX9_isRoom 2 = .ok (.aload_n 0, 1) := by decide +kernel
theorem dX9_isRoom_3 : decode cX9_isRoom 3 = .ok (.getfield 58, 3) := by decide +kernel
theorem dX9_isRoom_6 : decode cX9_isRoom 6 = .ok (.iconst 1, 1) := by decide +kernel
theorem dX9_isRoom_7 : decode cX9_isRoom 7 = .ok (.isub, 1) := by decide +kernel
theorem dX9_isRoom_8 : decode cX9_isRoom 8 = .ok (.invokestatic 54, 3) := by decide +kernel
theorem dX9_isRoom_11 : decode cX9_isRoom 11 = .ok (.ireturn, 1) := by decide +kernel
theorem dX9_feed_0 : decode cX9_feed 0 = .ok (.iload_n 1, 1) := by decide +kernel
theorem dX9_feed_1 : decode cX9_feed 1 = .ok (.iconst 0, 1) := by decide +kernel
theorem dX9_feed_2 : decode cX9_feed 2 = .ok (.sipush 255, 3) := by decide +kernel
theorem dX9_feed_5 : decode cX9_feed 5 = .ok (.invokestatic 54, 3) := by decide +kernel
theorem dX9_feed_8 : decode cX9_feed 8 = .ok (.ifCond .ne 6, 3) := by decide +kernel
theorem dX9_feed_11 : decode cX9_feed 11 = .ok (.ldc 61, 2) := by decide +kernel
theorem dX9_feed_13 : decode cX9_feed 13 = .ok (.ireturn, 1) := by decide +kernel
theorem dX9_feed_14 : decode cX9_feed 14 = .ok (.aload_n 0, 1) := by decide +kernel
theorem dX9_feed_15 : decode cX9_feed 15 = .ok (.getfield 62, 3) := by decide +kernel
theorem dX9_feed_18 : decode cX9_feed 18 = .ok (.sipush 240, 3) := by decide +kernel
theorem dX9_feed_21 : decode cX9_feed 21 = .ok (.if_icmp .ne 6, 3) := by decide +kernel
theorem dX9_feed_24 : decode cX9_feed 24 = .ok (.ldc 65, 2) := by decide +kernel
theorem dX9_feed_26 : decode cX9_feed 26 = .ok (.ireturn, 1) := by decide +kernel
theorem dX9_feed_27 : decode cX9_feed 27 = .ok (.aload_n 0, 1) := by decide +kernel
theorem dX9_feed_28 : decode cX9_feed 28 = .ok (.getfield 13, 3) := by decide +kernel
theorem dX9_feed_31 : decode cX9_feed 31 = .ok (.aload_n 0, 1) := by decide +kernel
theorem dX9_feed_32 : decode cX9_feed 32 = .ok (.getfield 62, 3) := by decide +kernel
theorem dX9_feed_35 : decode cX9_feed 35 = .ok (.iload_n 1, 1) := by decide +kernel
theorem dX9_feed_36 : decode cX9_feed 36 = .ok (.iastore, 1) := by decide +kernel
theorem dX9_feed_37 : decode cX9_feed 37 = .ok (.aload_n 0, 1) := by decide +kernel
theorem dX9_feed_38 : decode cX9_feed 38 = .ok (.dup, 1) := by decide +kernel
theorem dX9_feed_39 : decode cX9_feed 39 = .ok (.getfield 62, 3) := by decide +kernel
theorem dX9_feed_42 : decode cX9_feed 42 = .ok (.iconst 1, 1) := by decide +kernel
theorem dX9_feed_43 : decode cX9_feed 43 = .ok (.iadd, 1) := by decide +kernel
theorem dX9_feed_44 : decode cX9_feed 44 = .ok (.putfield 62, 3) := by decide +kernel
theorem dX9_feed_47 : decode cX9_feed 47 = .ok (.aload_n 0, 1) := by decide +kernel
theorem dX9_feed_48 : decode cX9_feed 48 = .ok (.getfield 62, 3) := by decide +kernel
theorem dX9_feed_51 : decode cX9_feed 51 = .ok (.ireturn, 1) := by decide +kernel
theorem dX9_fine_0 : decode cX9_fine 0 = .ok (.aload_n 0, 1) := by decide +kernel
theorem dX9_fine_1 : decode cX9_fine 1 = .ok (.getfield 66, 3) := by decide +kernel
theorem dX9_fine_4 : decode cX9_fine 4 = .ok (.ifCond .ne 7, 3) := by decide +kernel
theorem dX9_fine_7 : decode cX9_fine 7 = .ok (.iconst 1, 1) := by decide +kernel
theorem dX9_fine_8 : decode cX9_fine 8 = .ok (.goto 4, 3) := by decide +kernel
theorem dX9_fine_11 : decode cX9_fine 11 = .ok (.iconst 0, 1) := by decide +kernel
theorem dX9_fine_12 : decode cX9_fine 12 = .ok (.ireturn, 1) := by decide +kernel
theorem dX9_fail_0 : decode cX9_fail 0 = .ok (.aload_n 0, 1) := by decide +kernel
theorem dX9_fail_1 : decode cX9_fail 1 = .ok (.invokevirtual 69, 3) := by decide +kernel
theorem dX9_fail_4 : decode cX9_fail 4 = .ok (.ifCond .eq 13, 3) := by decide +kernel
theorem dX9_fail_7 : decode cX9_fail 7 = .ok (.aload_n 0, 1) := by decide +kernel
theorem dX9_fail_8 : decode cX9_fail 8 = .ok (.iload_n 1, 1) := by decide +kernel
theorem dX9_fail_9 : decode cX9_fail 9 = .ok (.putfield 66, 3) := by decide +kernel
theorem dX9_fail_12 : decode cX9_fail 12 = .ok (.aload_n 0, 1) := by decide +kernel
theorem dX9_fail_13 : decode cX9_fail 13 = .ok (.iload_n 2, 1) := by decide +kernel
theorem dX9_fail_14 : decode cX9_fail 14 = .ok (.putfield 73, 3) := by decide +kernel
theorem dX9_fail_17 : decode cX9_fail 17 = .ok (.return_, 1) := by decide +kernel
theorem dX9_here_0 : decode cX9_here 0 = .ok (.aload_n 0, 1) := by decide +kernel
theorem dX9_here_1 : decode cX9_here 1 = .ok (.getfield 76, 3) := by decide +kernel
theorem dX9_here_4 : decode cX9_here 4 = .ok (.aload_n 0, 1) := by decide +kernel
theorem dX9_here_5 : decode cX9_here 5 = .ok (.getfield 62, 3) := by decide +kernel
theorem dX9_here_8 : decode cX9_here 8 = .ok (.if_icmp .ge 30, 3) := by decide +kernel
theorem dX9_here_11 : decode cX9_here 11 = .ok (.aload_n 0, 1) := by decide +kernel
theorem dX9_here_12 : decode cX9_here 12 = .ok (.getfield 13, 3) := by decide +kernel
theorem dX9_here_15 : decode cX9_here 15 = .ok (.aload_n 0, 1) := by decide +kernel
theorem dX9_here_16 : decode cX9_here 16 = .ok (.getfield 76, 3) := by decide +kernel
theorem dX9_here_19 : decode cX9_here 19 = .ok (.iaload, 1) := by decide +kernel
theorem dX9_here_20 : decode cX9_here 20 = .ok (.bipush 32, 2) := by decide +kernel
theorem dX9_here_22 : decode cX9_here 22 = .ok (.if_icmp .ne 16, 3) := by decide +kernel
theorem dX9_here_25 : decode cX9_here 25 = .ok (.aload_n 0, 1) := by decide +kernel
theorem dX9_here_26 : decode cX9_here 26 = .ok (.dup, 1) := by decide +kernel
theorem dX9_here_27 : decode cX9_here 27 = .ok (.getfield 76, 3) := by decide +kernel
theorem dX9_here_30 : decode cX9_here 30 = .ok (.iconst 1, 1) := by decide +kernel
theorem dX9_here_31 : decode cX9_here 31 = .ok (.iadd, 1) := by decide +kernel
theorem dX9_here_32 : decode cX9_here 32 = .ok (.putfield 76, 3) := by decide +kernel
theorem dX9_here_35 : decode cX9_here 35 = .ok (.goto (-35), 3) := by decide +kernel
theorem dX9_here_38 : decode cX9_here 38 = .ok (.aload_n 0, 1) := by decide +kernel
theorem dX9_here_39 : decode cX9_here 39 = .ok (.getfield 76, 3) := by decide +kernel
theorem dX9_here_42 : decode cX9_here 42 = .ok (.aload_n 0, 1) := by decide +kernel
theorem dX9_here_43 : decode cX9_here 43 = .ok (.getfield 62, 3) := by decide +kernel
theorem dX9_here_46 : decode cX9_here 46 = .ok (.if_icmp .ge 15, 3) := by decide +kernel
theorem dX9_here_49 : decode cX9_here 49 = .ok (.aload_n 0, 1) := by decide +kernel
theorem dX9_here_50 : decode cX9_here 50 = .ok (.getfield 13, 3) := by decide +kernel
theorem dX9_here_53 : decode cX9_here 53 = .ok (.aload_n 0, 1) := by decide +kernel
theorem dX9_here_54 : decode cX9_here 54 = .ok (.getfield 76, 3) := by decide +kernel
theorem dX9_here_57 : decode cX9_here 57 = .ok (.iaload, 1) := by decide +kernel
theorem dX9_here_58 : decode cX9_here 58 = .ok (.goto 4, 3) := by decide +kernel
theorem dX9_here_61 : decode cX9_here 61 = .ok (.iconst 0, 1) := by decide +kernel
theorem dX9_here_62 : decode cX9_here 62 = .ok (.ireturn, 1) := by decide +kernel
theorem dX9_number_0 : decode cX9_number 0 = .ok (.aload_n 0, 1) := by decide +kernel
theorem dX9_number_1 : decode cX9_number 1 = .ok (.invokevirtual 69, 3) := by decide +kernel
theorem dX9_number_4 : decode cX9_number 4 = .ok (.ifCond .ne 5, 3) := by decide +kernel
theorem dX9_number_7 : decode cX9_number 7 = .ok (.iload_n 1, 1) := by decide +kernel
theorem dX9_number_8 : decode cX9_number 8 = .ok (.ireturn, 1) := by decide +kernel
theorem dX9_number_9 : decode cX9_number 9 = .ok (.aload_n 0, 1) := by decide +kernel
theorem dX9_number_10 : decode cX9_number 10 = .ok (.invokevirtual 79, 3) := by decide +kernel
theorem dX9_number_13 : decode cX9_number 13 = .ok (.istore_n 3, 1) := by decide +kernel
theorem dX9_number_14 : decode cX9_number 14 = .ok (.aload_n 0, 1) := by decide +kernel
theorem dX9_number_15 : decode cX9_number 15 = .ok (.aload_n 0, 1) := by decide +kernel
theorem dX9_number_16 : decode cX9_number 16 = .ok (.getfield 76, 3) := by decide +kernel
theorem dX9_number_19 : decode cX9_number 19 = .ok (.putfield 83, 3) := by decide +kernel
theorem dX9_number_22 : decode cX9_number 22 = .ok (.iconst 0, 1) := by decide +kernel
theorem dX9_number_23 : decode cX9_number 23 = .ok (.istore 4, 2) := by decide +kernel
theorem dX9_number_25 : decode cX9_number 25 = .ok (.aload_n 0, 1) := by decide +kernel
theorem dX9_number_26 : decode cX9_number 26 = .ok (.getfield 76, 3) := by decide +kernel
theorem dX9_number_29 : decode cX9_number 29 = .ok (.aload_n 0, 1) := by decide +kernel
theorem dX9_number_30 : decode cX9_number 30 = .ok (.getfield 62, 3) := by decide +kernel
theorem dX9_number_33 : decode cX9_number 33 = .ok (.if_icmp .ge 73, 3) := by decide +kernel
theorem dX9_number_36 : decode cX9_number 36 = .ok (.aload_n 0, 1) := by decide +kernel
theorem dX9_number_37 : decode cX9_number 37 = .ok (.getfield 13, 3) := by decide +kernel
theorem dX9_number_40 : decode cX9_number 40 = .ok (.aload_n 0, 1) := by decide +kernel
theorem dX9_number_41 : decode cX9_number 41 = .ok (.getfield 76, 3) := by decide +kernel
theorem dX9_number_44 : decode cX9_number 44 = .ok (.iaload, 1) := by decide +kernel
theorem dX9_number_45 : decode cX9_number 45 = .ok (.bipush 48, 2) := by decide +kernel
theorem dX9_number_47 : decode cX9_number 47 = .ok (.bipush 57, 2) := by decide +kernel
theorem dX9_number_49 : decode cX9_number 49 = .ok (.invokestatic 54, 3) := by decide +kernel
theorem dX9_number_52 : decode cX9_number 52 = .ok (.ifCond .eq 54, 3) := by decide +kernel
theorem dX9_number_55 : decode cX9_number 55 = .ok (.aload_n 0, 1) := by decide +kernel
theorem dX9_number_56 : decode cX9_number 56 = .ok (.getfield 76, 3) := by decide +kernel
theorem dX9_number_59 : decode cX9_number 59 = .ok (.aload_n 0, 1) := by decide +kernel
theorem dX9_number_60 : decode cX9_number 60 = .ok (.getfield 83, 3) := by decide +kernel
theorem dX9_number_63 : decode cX9_number 63 = .ok (.isub, 1) := by decide +kernel
theorem dX9_number_64 : decode cX9_number 64 = .ok (.iconst 3, 1) := by decide +kernel
theorem dX9_number_65 : decode cX9_number 65 = .ok (.if_icmp .ge 24, 3) := by decide +kernel
theorem dX9_number_68 : decode cX9_number 68 = .ok (.bipush 10, 2) := by decide +kernel
theorem dX9_number_70 : decode cX9_number 70 = .ok (.iload 4, 2) := by decide +kernel
theorem dX9_number_72 : decode cX9_number 72 = .ok (.imul, 1) := by decide +kernel
theorem dX9_number_73 : decode cX9_number 73 = .ok (.aload_n 0, 1) := by decide +kernel
theorem dX9_number_74 : decode cX9_number 74 = .ok (.getfield 13, 3) := by decide +kernel
theorem dX9_number_77 : decode cX9_number 77 = .ok (.aload_n 0, 1) := by decide +kernel
theorem dX9_number_78 : decode cX9_number 78 = .ok (.getfield 76, 3) := by decide +kernel
theorem dX9_number_81 : decode cX9_number 81 = .ok (.iaload, 1) := by decide +kernel
theorem dX9_number_82 : decode cX9_number 82 = .ok (.iadd, 1) := by decide +kernel
theorem dX9_number_83 : decode cX9_number 83 = .ok (.bipush 48, 2) := by decide +kernel
theorem dX9_number_85 : decode cX9_number 85 = .ok (.isub, 1) := by decide +kernel
theorem dX9_number_86 : decode cX9_number 86 = .ok (.goto 5, 3) := by decide +kernel
theorem dX9_number_89 : decode cX9_number 89 = .ok (.iload 4, 2) := by decide +kernel
theorem dX9_number_91 : decode cX9_number 91 = .ok (.istore 4, 2) := by decide +kernel
theorem dX9_number_93 : decode cX9_number 93 = .ok (.aload_n 0, 1) := by decide +kernel
theorem dX9_number_94 : decode cX9_number 94 = .ok (.dup, 1) := by decide +kernel
theorem dX9_number_95 : decode cX9_number 95 = .ok (.getfield 76, 3) := by decide +kernel
theorem dX9_number_98 : decode cX9_number 98 = .ok (.iconst 1, 1) := by decide +kernel
theorem dX9_number_99 : decode cX9_number 99 = .ok (.iadd, 1) := by decide +kernel
theorem dX9_number_100 : decode cX9_number 100 = .ok (.putfield 76, 3) := by decide +kernel
theorem dX9_number_103 : decode cX9_number 103 = .ok (.goto (-78), 3) := by decide +kernel
theorem dX9_number_106 : decode cX9_number 106 = .ok (.iload_n 3, 1) := by decide +kernel
theorem dX9_number_107 : decode cX9_number 107 = .ok (.bipush 48, 2) := by decide +kernel
theorem dX9_number_109 : decode cX9_number 109 = .ok (.bipush 57, 2) := by decide +kernel
theorem dX9_number_111 : decode cX9_number 111 = .ok (.invokestatic 54, 3) := by decide +kernel
theorem dX9_number_114 : decode cX9_number 114 = .ok (.ifCond .ne 15, 3) := by decide +kernel
theorem dX9_number_117 : decode cX9_number 117 = .ok (.aload_n 0, 1) := by decide +kernel
theorem dX9_number_118 : decode cX9_number 118 = .ok (.iconst 1, 1) := by decide +kernel
theorem dX9_number_119 : decode cX9_number 119 = .ok (.aload_n 0, 1) := by decide +kernel
theorem dX9_number_120 : decode cX9_number 120 = .ok (.getfield 83, 3) := by decide +kernel
theorem dX9_number_123 : decode cX9_number 123 = .ok (.invokevirtual 86, 3) := by decide +kernel
theorem dX9_number_126 : decode cX9_number 126 = .ok (.goto 35, 3) := by decide +kernel
theorem dX9_number_129 : decode cX9_number 129 = .ok (.aload_n 0, 1) := by decide +kernel
theorem dX9_number_130 : decode cX9_number 130 = .ok (.getfield 76, 3) := by decide +kernel
theorem dX9_number_133 : decode cX9_number 133 = .ok (.aload_n 0, 1) := by decide +kernel
theorem dX9_number_134 : decode cX9_number 134 = .ok (.getfield 83, 3) := by decide +kernel
theorem dX9_number_137 : decode cX9_number 137 = .ok (.isub, 1) := by decide +kernel
theorem dX9_number_138 : decode cX9_number 138 = .ok (.iconst 3, 1) := by decide +kernel
theorem dX9_number_139 : decode cX9_number 139 = .ok (.if_icmp .gt 13, 3) := by decide +kernel
theorem dX9_number_142 : decode cX9_number 142 = .ok (.iload 4, 2) := by decide +kernel
theorem dX9_number_144 : decode cX9_number 144 = .ok (.iload_n 1, 1) := by decide +kernel
theorem dX9_number_145 : decode cX9_number 145 = .ok (.iload_n 2, 1) := by decide +kernel
theorem dX9_number_146 : decode cX9_number 146 = .ok (.invokestatic 54, 3) := by decide +kernel
theorem dX9_number_149 : decode cX9_number 149 = .ok (.ifCond .ne 12, 3) := by decide +kernel
theorem dX9_number_152 : decode cX9_number 152 = .ok (.aload_n 0, 1) := by decide +kernel
theorem dX9_number_153 : decode cX9_number 153 = .ok (.iconst 2, 1) := by decide +kernel
theorem dX9_number_154 : decode cX9_number 154 = .ok (.aload_n 0, 1) := by decide +kernel
theorem dX9_number_155 : decode cX9_number 155 = .ok (.getfield 83, 3) := by decide +kernel
theorem dX9_number_158 : decode cX9_number 158 = .ok (.invokevirtual 86, 3) := by decide +kernel
theorem dX9_number_161 : decode cX9_number 161 = .ok (.iload 4, 2) := by decide +kernel
theorem dX9_number_163 : decode cX9_number 163 = .ok (.ireturn, 1) := by decide +kernel
theorem dX9_sitterIn_0 : decode cX9_sitterIn 0 = .ok (.iconst 0, 1) := by decide +kernel
theorem dX9_sitterIn_1 : decode cX9_sitterIn 1 = .ok (.istore 4, 2) := by decide +kernel
theorem dX9_sitterIn_3 : decode cX9_sitterIn 3 = .ok (.iload 4, 2) := by decide +kernel
theorem dX9_sitterIn_5 : decode cX9_sitterIn 5 = .ok (.iload_n 2, 1) := by decide +kernel
theorem dX9_sitterIn_6 : decode cX9_sitterIn 6 = .ok (.if_icmp .ge 28, 3) := by decide +kernel
theorem dX9_sitterIn_9 : decode cX9_sitterIn 9 = .ok (.aload_n 0, 1) := by decide +kernel
theorem dX9_sitterIn_10 : decode cX9_sitterIn 10 = .ok (.getfield 7, 3) := by decide +kernel
theorem dX9_sitterIn_13 : decode cX9_sitterIn 13 = .ok (.iload_n 1, 1) := by decide +kernel
theorem dX9_sitterIn_14 : decode cX9_sitterIn 14 = .ok (.bipush 54, 2) := by decide +kernel
theorem dX9_sitterIn_16 : decode cX9_sitterIn 16 = .ok (.iadd, 1) := by decide +kernel
theorem dX9_sitterIn_17 : decode cX9_sitterIn 17 = .ok (.iload 4, 2) := by decide +kernel
theorem dX9_sitterIn_19 : decode cX9_sitterIn 19 = .ok (.iadd, 1) := by decide +kernel
theorem dX9_sitterIn_20 : decode cX9_sitterIn 20 = .ok (.iaload, 1) := by decide +kernel
theorem dX9_sitterIn_21 : decode cX9_sitterIn 21 = .ok (.iload_n 3, 1) := by decide +kernel
theorem dX9_sitterIn_22 : decode cX9_sitterIn 22 = .ok (.if_icmp .ne 6, 3) := by decide +kernel
theorem dX9_sitterIn_25 : decode cX9_sitterIn 25 = .ok (.iload 4, 2) := by decide +kernel
theorem dX9_sitterIn_27 : decode cX9_sitterIn 27 = .ok (.ireturn, 1) := by decide +kernel
theorem dX9_sitterIn_28 : decode cX9_sitterIn 28 = .ok (.iinc 4 1, 3) := by decide +kernel
theorem dX9_sitterIn_31 : decode cX9_sitterIn 31 = .ok (.goto (-28), 3) := by decide +kernel
theorem dX9_sitterIn_34 : decode cX9_sitterIn 34 = .ok (.iconst (-1), 1) := by decide +kernel
theorem dX9_sitterIn_35 : decode cX9_sitterIn 35 = .ok (.ireturn, 1) := by decide +kernel
theorem dX9_placeOfLike_0 : decode cX9_placeOfLike 0 = .ok (.iconst 0, 1) := by decide +kernel
theorem dX9_placeOfLike_1 : decode cX9_placeOfLike 1 = .ok (.istore 4, 2) := by decide +kernel
theorem dX9_placeOfLike_3 : decode cX9_placeOfLike 3 = .ok (.iload 4, 2) := by decide +kernel
theorem dX9_placeOfLike_5 : decode cX9_placeOfLike 5 = .ok (.aload_n 0, 1) := by decide +kernel
theorem dX9_placeOfLike_6 : decode cX9_placeOfLike 6 = .ok (.getfield 7, 3) := by decide +kernel
theorem dX9_placeOfLike_9 : decode cX9_placeOfLike 9 = .ok (.iload_n 1, 1) := by decide +kernel
theorem dX9_placeOfLike_10 : decode cX9_placeOfLike 10 = .ok (.bipush 48, 2) := by decide +kernel
theorem dX9_placeOfLike_12 : decode cX9_placeOfLike 12 = .ok (.iadd, 1) := by decide +kernel
theorem dX9_placeOfLike_13 : decode cX9_placeOfLike 13 = .ok (.iload_n 2, 1) := by decide +kernel
theorem dX9_placeOfLike_14 : decode cX9_placeOfLike 14 = .ok (.iadd, 1) := by decide +kernel
theorem dX9_placeOfLike_15 : decode cX9_placeOfLike 15 = .ok (.iaload, 1) := by decide +kernel
theorem dX9_placeOfLike_16 : decode cX9_placeOfLike 16 = .ok (.if_icmp .ge 30, 3) := by decide +kernel
theorem dX9_placeOfLike_19 : decode cX9_placeOfLike 19 = .ok (.aload_n 0, 1) := by decide +kernel
theorem dX9_placeOfLike_20 : decode cX9_placeOfLike 20 = .ok (.getfield 7, 3) := by decide +kernel
theorem dX9_placeOfLike_23 : decode cX9_placeOfLike 23 = .ok (.iload_n 1, 1) := by decide +kernel
theorem dX9_placeOfLike_24 : decode cX9_placeOfLike 24 = .ok (.bipush 8, 2) := by decide +kernel
theorem dX9_placeOfLike_26 : decode cX9_placeOfLike 26 = .ok (.iload_n 2, 1) := by decide +kernel
theorem dX9_placeOfLike_27 : decode cX9_placeOfLike 27 = .ok (.imul, 1) := by decide +kernel
theorem dX9_placeOfLike_28 : decode cX9_placeOfLike 28 = .ok (.iadd, 1) := by decide +kernel
theorem dX9_placeOfLike_29 : decode cX9_placeOfLike 29 = .ok (.iload 4, 2) := by decide +kernel
theorem dX9_placeOfLike_31 : decode cX9_placeOfLike 31 = .ok (.iadd, 1) := by decide +kernel
theorem dX9_placeOfLike_32 : decode cX9_placeOfLike 32 = .ok (.iaload, 1) := by decide +kernel
theorem dX9_placeOfLike_33 : decode cX9_placeOfLike 33 = .ok (.iload_n 3, 1) := by decide +kernel
theorem dX9_placeOfLike_34 : decode cX9_placeOfLike 34 = .ok (.if_icmp .ne 6, 3) := by decide +kernel
theorem dX9_placeOfLike_37 : decode cX9_placeOfLike 37 = .ok (.iload 4, 2) := by decide +kernel
theorem dX9_placeOfLike_39 : decode cX9_placeOfLike 39 = .ok (.ireturn, 1) := by decide +kernel
theorem dX9_placeOfLike_40 : decode cX9_placeOfLike 40 = .ok (.iinc 4 1, 3) := by decide +kernel
theorem dX9_placeOfLike_43 : decode cX9_placeOfLike 43 = .ok (.goto (-40), 3) := by decide +kernel
theorem dX9_placeOfLike_46 : decode cX9_placeOfLike 46 = .ok (.iconst (-1), 1) := by decide +kernel
theorem dX9_placeOfLike_47 : decode cX9_placeOfLike 47 = .ok (.ireturn, 1) := by decide +kernel
theorem dX9_readLike_0 : decode cX9_readLike 0 = .ok (.aload_n 0, 1) := by decide +kernel
theorem dX9_readLike_1 : decode cX9_readLike 1 = .ok (.iconst 0, 1) := by decide +kernel
theorem dX9_readLike_2 : decode cX9_readLike 2 = .ok (.aload_n 0, 1) := by decide +kernel
theorem dX9_readLike_3 : decode cX9_readLike 3 = .ok (.getfield 90, 3) := by decide +kernel
theorem dX9_readLike_6 : decode cX9_readLike 6 = .ok (.iconst 1, 1) := by decide +kernel
theorem dX9_readLike_7 : decode cX9_readLike 7 = .ok (.isub, 1) := by decide +kernel
theorem dX9_readLike_8 : decode cX9_readLike 8 = .ok (.invokevirtual 93, 3) := by decide +kernel
theorem dX9_readLike_11 : decode cX9_readLike 11 = .ok (.istore_n 2, 1) := by decide +kernel
theorem dX9_readLike_12 : decode cX9_readLike 12 = .ok (.aload_n 0, 1) := by decide +kernel
theorem dX9_readLike_13 : decode cX9_readLike 13 = .ok (.invokevirtual 69, 3) := by decide +kernel
theorem dX9_readLike_16 : decode cX9_readLike 16 = .ok (.ifCond .eq 25, 3) := by decide +kernel
theorem dX9_readLike_19 : decode cX9_readLike 19 = .ok (.aload_n 0, 1) := by decide +kernel
theorem dX9_readLike_20 : decode cX9_readLike 20 = .ok (.sipush 1541, 3) := by decide +kernel
theorem dX9_readLike_23 : decode cX9_readLike 23 = .ok (.iload_n 1, 1) := by decide +kernel
theorem dX9_readLike_24 : decode cX9_readLike 24 = .ok (.iload_n 2, 1) := by decide +kernel
theorem dX9_readLike_25 : decode cX9_readLike 25 = .ok (.invokevirtual 97, 3) := by decide +kernel
theorem dX9_readLike_28 : decode cX9_readLike 28 = .ok (.iconst (-1), 1) := by decide +kernel
theorem dX9_readLike_29 : decode cX9_readLike 29 = .ok (.if_icmp .eq 12, 3) := by decide +kernel
theorem dX9_readLike_32 : decode cX9_readLike 32 = .ok (.aload_n 0, 1) := by decide +kernel
theorem dX9_readLike_33 : decode cX9_readLike 33 = .ok (.iconst 4, 1) := by decide +kernel
theorem dX9_readLike_34 : decode cX9_readLike 34 = .ok (.aload_n 0, 1) := by decide +kernel
theorem dX9_readLike_35 : decode cX9_readLike 35 = .ok (.getfield 83, 3) := by decide +kernel
theorem dX9_readLike_38 : decode cX9_readLike 38 = .ok (.invokevirtual 86, 3) := by decide +kernel
theorem dX9_readLike_41 : decode cX9_readLike 41 = .ok (.aload_n 0, 1) := by decide +kernel
theorem dX9_readLike_42 : decode cX9_readLike 42 = .ok (.invokevirtual 69, 3) := by decide +kernel
theorem dX9_readLike_45 : decode cX9_readLike 45 = .ok (.ifCond .eq 42, 3) := by decide +kernel
theorem dX9_readLike_48 : decode cX9_readLike 48 = .ok (.aload_n 0, 1) := by decide +kernel
theorem dX9_readLike_49 : decode cX9_readLike 49 = .ok (.getfield 7, 3) := by decide +kernel
theorem dX9_readLike_52 : decode cX9_readLike 52 = .ok (.sipush 1541, 3) := by decide +kernel
theorem dX9_readLike_55 : decode cX9_readLike 55 = .ok (.bipush 8, 2) := by decide +kernel
theorem dX9_readLike_57 : decode cX9_readLike 57 = .ok (.iload_n 1, 1) := by decide +kernel
theorem dX9_readLike_58 : decode cX9_readLike 58 = .ok (.imul, 1) := by decide +kernel
theorem dX9_readLike_59 : decode cX9_readLike 59 = .ok (.iadd, 1) := by decide +kernel
theorem dX9_readLike_60 : decode cX9_readLike 60 = .ok (.aload_n 0, 1) := by decide +kernel
theorem dX9_readLike_61 : decode cX9_readLike 61 = .ok (.getfield 7, 3) := by decide +kernel
theorem dX9_readLike_64 : decode cX9_readLike 64 = .ok (.sipush 1589, 3) := by decide +kernel
theorem dX9_readLike_67 : decode cX9_readLike 67 = .ok (.iload_n 1, 1) := by decide +kernel
theorem dX9_readLike_68 : decode cX9_readLike 68 = .ok (.iadd, 1) := by decide +kernel
theorem dX9_readLike_69 : decode cX9_readLike 69 = .ok (.iaload, 1) := by decide +kernel
theorem dX9_readLike_70 : decode cX9_readLike 70 = .ok (.iadd, 1) := by decide +kernel
theorem dX9_readLike_71 : decode cX9_readLike 71 = .ok (.iload_n 2, 1) := by decide +kernel
theorem dX9_readLike_72 : decode cX9_readLike 72 = .ok (.iastore, 1) := by decide +kernel
theorem dX9_readLike_73 : decode cX9_readLike 73 = .ok (.aload_n 0, 1) := by decide +kernel
theorem dX9_readLike_74 : decode cX9_readLike 74 = .ok (.getfield 7, 3) := by decide +kernel
theorem dX9_readLike_77 : decode cX9_readLike 77 = .ok (.sipush 1589, 3) := by decide +kernel
theorem dX9_readLike_80 : decode cX9_readLike 80 = .ok (.iload_n 1, 1) := by decide +kernel
theorem dX9_readLike_81 : decode cX9_readLike 81 = .ok (.iadd, 1) := by decide +kernel
theorem dX9_readLike_82 : decode cX9_readLike 82 = .ok (.dup2, 1) := by decide +kernel
theorem dX9_readLike_83 : decode cX9_readLike 83 = .ok (.iaload, 1) := by decide +kernel
theorem dX9_readLike_84 : decode cX9_readLike 84 = .ok (.iconst 1, 1) := by decide +kernel
theorem dX9_readLike_85 : decode cX9_readLike 85 = .ok (.iadd, 1) := by decide +kernel
theorem dX9_readLike_86 : decode cX9_readLike 86 = .ok (.iastore, 1) := by decide +kernel
theorem dX9_readLike_87 : decode cX9_readLike 87 = .ok (.return_, 1) := by decide +kernel
theorem dX9_readPerson_0 : decode cX9_readPerson 0 = .ok (.aload_n 0, 1) := by decide +kernel
theorem dX9_readPerson_1 : decode cX9_readPerson 1 = .ok (.getfield 101, 3) := by decide +kernel
theorem dX9_readPerson_4 : decode cX9_readPerson 4 = .ok (.istore_n 2, 1) := by decide +kernel
theorem dX9_readPerson_5 : decode cX9_readPerson 5 = .ok (.aload_n 0, 1) := by decide +kernel
theorem dX9_readPerson_6 : decode cX9_readPerson 6 = .ok (.getfield 7, 3) := by decide +kernel
theorem dX9_readPerson_9 : decode cX9_readPerson 9 = .ok (.sipush 1589, 3) := by decide +kernel
theorem dX9_readPerson_12 : decode cX9_readPerson 12 = .ok (.iload_n 2, 1) := by decide +kernel
theorem dX9_readPerson_13 : decode cX9_readPerson 13 = .ok (.iadd, 1) := by decide +kernel
theorem dX9_readPerson_14 : decode cX9_readPerson 14 = .ok (.iconst 0, 1) := by decide +kernel
theorem dX9_readPerson_15 : decode cX9_readPerson 15 = .ok (.iastore, 1) := by decide +kernel
theorem dX9_readPerson_16 : decode cX9_readPerson 16 = .ok (.aload_n 0, 1) := by decide +kernel
theorem dX9_readPerson_17 : decode cX9_readPerson 17 = .ok (.getfield 7, 3) := by decide +kernel
theorem dX9_readPerson_20 : decode cX9_readPerson 20 = .ok (.sipush 1595, 3) := by decide +kernel
theorem dX9_readPerson_23 : decode cX9_readPerson 23 = .ok (.iload_n 2, 1) := by decide +kernel
theorem dX9_readPerson_24 : decode cX9_readPerson 24 = .ok (.iadd, 1) := by decide +kernel
theorem dX9_readPerson_25 : decode cX9_readPerson 25 = .ok (.iconst (-1), 1) := by decide +kernel
theorem dX9_readPerson_26 : decode cX9_readPerson 26 = .ok (.iastore, 1) := by decide +kernel
theorem dX9_readPerson_27 : decode cX9_readPerson 27 = .ok (.iload_n 1, 1) := by decide +kernel
theorem dX9_readPerson_28 : decode cX9_readPerson 28 = .ok (.bipush 116, 2) := by decide +kernel
theorem dX9_readPerson_30 : decode cX9_readPerson 30 = .ok (.if_icmp .ne 58, 3) := by decide +kernel
theorem dX9_readPerson_33 : decode cX9_readPerson 33 = .ok (.aload_n 0, 1) := by decide +kernel
theorem dX9_readPerson_34 : decode cX9_readPerson 34 = .ok (.iconst 0, 1) := by decide +kernel
theorem dX9_readPerson_35 : decode cX9_readPerson 35 = .ok (.aload_n 0, 1) := by decide +kernel
theorem dX9_readPerson_36 : decode cX9_readPerson 36 = .ok (.getfield 90, 3) := by decide +kernel
theorem dX9_readPerson_39 : decode cX9_readPerson 39 = .ok (.iconst 1, 1) := by decide +kernel
theorem dX9_readPerson_40 : decode cX9_readPerson 40 = .ok (.isub, 1) := by decide +kernel
theorem dX9_readPerson_41 : decode cX9_readPerson 41 = .ok (.invokevirtual 93, 3) := by decide +kernel
theorem dX9_readPerson_44 : decode cX9_readPerson 44 = .ok (.istore_n 3, 1) := by decide +kernel
theorem dX9_readPerson_45 : decode cX9_readPerson 45 = .ok (.aload_n 0, 1) := by decide +kernel
theorem dX9_readPerson_46 : decode cX9_readPerson 46 = .ok (.invokevirtual 69, 3) := by decide +kernel
theorem dX9_readPerson_49 : decode cX9_readPerson 49 = .ok (.ifCond .eq 25, 3) := by decide +kernel
theorem dX9_readPerson_52 : decode cX9_readPerson 52 = .ok (.aload_n 0, 1) := by decide +kernel
theorem dX9_readPerson_53 : decode cX9_readPerson 53 = .ok (.sipush 1541, 3) := by decide +kernel
theorem dX9_readPerson_56 : decode cX9_readPerson 56 = .ok (.iload_n 2, 1) := by decide +kernel
theorem dX9_readPerson_57 : decode cX9_readPerson 57 = .ok (.iload_n 3, 1) := by decide +kernel
theorem dX9_readPerson_58 : decode cX9_readPerson 58 = .ok (.invokevirtual 104, 3) := by decide +kernel
theorem dX9_readPerson_61 : decode cX9_readPerson 61 = .ok (.iconst (-1), 1) := by decide +kernel
theorem dX9_readPerson_62 : decode cX9_readPerson 62 = .ok (.if_icmp .eq 12, 3) := by decide +kernel
theorem dX9_readPerson_65 : decode cX9_readPerson 65 = .ok (.aload_n 0, 1) := by decide +kernel
theorem dX9_readPerson_66 : decode cX9_readPerson 66 = .ok (.iconst 4, 1) := by decide +kernel
theorem dX9_readPerson_67 : decode cX9_readPerson 67 = .ok (.aload_n 0, 1) := by decide +kernel
theorem dX9_readPerson_68 : decode cX9_readPerson 68 = .ok (.getfield 83, 3) := by decide +kernel
theorem dX9_readPerson_71 : decode cX9_readPerson 71 = .ok (.invokevirtual 86, 3) := by decide +kernel
theorem dX9_readPerson_74 : decode cX9_readPerson 74 = .ok (.aload_n 0, 1) := by decide +kernel
theorem dX9_readPerson_75 : decode cX9_readPerson 75 = .ok (.getfield 7, 3) := by decide +kernel
theorem dX9_readPerson_78 : decode cX9_readPerson 78 = .ok (.sipush 1595, 3) := by decide +kernel
theorem dX9_readPerson_81 : decode cX9_readPerson 81 = .ok (.iload_n 2, 1) := by decide +kernel
theorem dX9_readPerson_82 : decode cX9_readPerson 82 = .ok (.iadd, 1) := by decide +kernel
theorem dX9_readPerson_83 : decode cX9_readPerson 83 = .ok (.iload_n 3, 1) := by decide +kernel
theorem dX9_readPerson_84 : decode cX9_readPerson 84 = .ok (.iastore, 1) := by decide +kernel
theorem dX9_readPerson_85 : decode cX9_readPerson 85 = .ok (.goto 8, 3) := by decide +kernel
theorem dX9_readPerson_88 : decode cX9_readPerson 88 = .ok (.aload_n 0, 1) := by decide +kernel
theorem dX9_readPerson_89 : decode cX9_readPerson 89 = .ok (.iload_n 2, 1) := by decide +kernel
theorem dX9_readPerson_90 : decode cX9_readPerson 90 = .ok (.invokevirtual 107, 3) := by decide +kernel
theorem dX9_readPerson_93 : decode cX9_readPerson 93 = .ok (.aload_n 0, 1) := by decide +kernel
theorem dX9_readPerson_94 : decode cX9_readPerson 94 = .ok (.invokevirtual 69, 3) := by decide +kernel
theorem dX9_readPerson_97 : decode cX9_readPerson 97 = .ok (.ifCond .eq 30, 3) := by decide +kernel
theorem dX9_readPerson_100 : decode cX9_readPerson 100 = .ok (.aload_n 0, 1) := by decide +kernel
theorem dX9_readPerson_101 : decode cX9_readPerson 101 = .ok (.invokevirtual 79, 3) := by decide +kernel
theorem dX9_readPerson_104 : decode cX9_readPerson 104 = .ok (.bipush 44, 2) := by decide +kernel
theorem dX9_readPerson_106 : decode cX9_readPerson 106 = .ok (.if_icmp .ne 21, 3) := by decide +kernel
theorem dX9_readPerson_109 : decode cX9_readPerson 109 = .ok (.aload_n 0, 1) := by decide +kernel
theorem dX9_readPerson_110 : decode cX9_readPerson 110 = .ok (.dup, 1) := by decide +kernel
theorem dX9_readPerson_111 : decode cX9_readPerson 111 = .ok (.getfield 76, 3) := by decide +kernel
theorem dX9_readPerson_114 : decode cX9_readPerson 114 = .ok (.iconst 1, 1) := by decide +kernel
theorem dX9_readPerson_115 : decode cX9_readPerson 115 = .ok (.iadd, 1) := by decide +kernel
theorem dX9_readPerson_116 : decode cX9_readPerson 116 = .ok (.putfield 76, 3) := by decide +kernel
theorem dX9_readPerson_119 : decode cX9_readPerson 119 = .ok (.aload_n 0, 1) := by decide +kernel
theorem dX9_readPerson_120 : decode cX9_readPerson 120 = .ok (.iload_n 2, 1) := by decide +kernel
theorem dX9_readPerson_121 : decode cX9_readPerson 121 = .ok (.invokevirtual 107, 3) := by decide +kernel
theorem dX9_readPerson_124 : decode cX9_readPerson 124 = .ok (.goto (-31), 3) := by decide +kernel
theorem dX9_readPerson_127 : decode cX9_readPerson 127 = .ok (.aload_n 0, 1) := by decide +kernel
theorem dX9_readPerson_128 : decode cX9_readPerson 128 = .ok (.dup, 1) := by decide +kernel
theorem dX9_readPerson_129 : decode cX9_readPerson 129 = .ok (.getfield 101, 3) := by decide +kernel
theorem dX9_readPerson_132 : decode cX9_readPerson 132 = .ok (.iconst 1, 1) := by decide +kernel
theorem dX9_readPerson_133 : decode cX9_readPerson 133 = .ok (.iadd, 1) := by decide +kernel
theorem dX9_readPerson_134 : decode cX9_readPerson 134 = .ok (.putfield 101, 3) := by decide +kernel
theorem dX9_readPerson_137 : decode cX9_readPerson 137 = .ok (.return_, 1) := by decide +kernel
theorem dX9_readClause_0 : decode cX9_readClause 0 = .ok (.aload_n 0, 1) := by decide +kernel
theorem dX9_readClause_1 : decode cX9_readClause 1 = .ok (.invokevirtual 79, 3) := by decide +kernel
theorem dX9_readClause_4 : decode cX9_readClause 4 = .ok (.istore_n 1, 1) := by decide +kernel
theorem dX9_readClause_5 : decode cX9_readClause 5 = .ok (.aload_n 0, 1) := by decide +kernel
theorem dX9_readClause_6 : decode cX9_readClause 6 = .ok (.getfield 76, 3) := by decide +kernel
theorem dX9_readClause_9 : decode cX9_readClause 9 = .ok (.istore_n 2, 1) := by decide +kernel
theorem dX9_readClause_10 : decode cX9_readClause 10 = .ok (.aload_n 0, 1) := by decide +kernel
theorem dX9_readClause_11 : decode cX9_readClause 11 = .ok (.dup, 1) := by decide +kernel
theorem dX9_readClause_12 : decode cX9_readClause 12 = .ok (.getfield 76, 3) := by decide +kernel
theorem dX9_readClause_15 : decode cX9_readClause 15 = .ok (.iconst 1, 1) := by decide +kernel
theorem dX9_readClause_16 : decode cX9_readClause 16 = .ok (.iadd, 1) := by decide +kernel
theorem dX9_readClause_17 : decode cX9_readClause 17 = .ok (.putfield 76, 3) := by decide +kernel
theorem dX9_readClause_20 : decode cX9_readClause 20 = .ok (.iload_n 1, 1) := by decide +kernel
theorem dX9_readClause_21 : decode cX9_readClause 21 = .ok (.bipush 114, 2) := by decide +kernel
theorem dX9_readClause_23 : decode cX9_readClause 23 = .ok (.if_icmp .eq 15, 3) := by decide +kernel
theorem dX9_readClause_26 : decode cX9_readClause 26 = .ok (.iload_n 1, 1) := by decide +kernel
theorem dX9_readClause_27 : decode cX9_readClause 27 = .ok (.bipush 116, 2) := by decide +kernel
theorem dX9_readClause_29 : decode cX9_readClause 29 = .ok (.if_icmp .eq 9, 3) := by decide +kernel
theorem dX9_readClause_32 : decode cX9_readClause 32 = .ok (.iload_n 1, 1) := by decide +kernel
theorem dX9_readClause_33 : decode cX9_readClause 33 = .ok (.bipush 110, 2) := by decide +kernel
theorem dX9_readClause_35 : decode cX9_readClause 35 = .ok (.if_icmp .ne 7, 3) := by decide +kernel
theorem dX9_readClause_38 : decode cX9_readClause 38 = .ok (.iconst 1, 1) := by decide +kernel
theorem dX9_readClause_39 : decode cX9_readClause 39 = .ok (.goto 4, 3) := by decide +kernel
theorem dX9_readClause_42 : decode cX9_readClause 42 = .ok (.iconst 0, 1) := by decide +kernel
theorem dX9_readClause_43 : decode cX9_readClause 43 = .ok (.istore_n 3, 1) := by decide +kernel
theorem dX9_readClause_44 : decode cX9_readClause 44 = .ok (.iload_n 3, 1) := by decide +kernel
theorem dX9_readClause_45 : decode cX9_readClause 45 = .ok (.ifCond .eq 16, 3) := by decide +kernel
theorem dX9_readClause_48 : decode cX9_readClause 48 = .ok (.iload_n 1, 1) := by decide +kernel
theorem dX9_readClause_49 : decode cX9_readClause 49 = .ok (.bipush 114, 2) := by decide +kernel
theorem dX9_readClause_51 : decode cX9_readClause 51 = .ok (.if_icmp .eq 19, 3) := by decide +kernel
theorem dX9_readClause_54 : decode cX9_readClause 54 = .ok (.aload_n 0, 1) := by decide +kernel
theorem dX9_readClause_55 : decode cX9_readClause 55 = .ok (.getfield 90, 3) := by decide +kernel
theorem dX9_readClause_58 : decode cX9_readClause 58 = .ok (.ifCond .ne 12, 3) := by decide +kernel
theorem dX9_readClause_61 : decode cX9_readClause 61 = .ok (.aload_n 0, 1) := by decide +kernel
theorem dX9_readClause_62 : decode cX9_readClause 62 = .ok (.iconst 1, 1) := by decide +kernel
theorem dX9_readClause_63 : decode cX9_readClause 63 = .ok (.iload_n 2, 1) := by decide +kernel
theorem dX9_readClause_64 : decode cX9_readClause 64 = .ok (.invokevirtual 86, 3) := by decide +kernel
theorem dX9_readClause_67 : decode cX9_readClause 67 = .ok (.goto 65, 3) := by decide +kernel
theorem dX9_readClause_70 : decode cX9_readClause 70 = .ok (.iload_n 1, 1) := by decide +kernel
theorem dX9_readClause_71 : decode cX9_readClause 71 = .ok (.bipush 114, 2) := by decide +kernel
theorem dX9_readClause_73 : decode cX9_readClause 73 = .ok (.if_icmp .ne 10, 3) := by decide +kernel
theorem dX9_readClause_76 : decode cX9_readClause 76 = .ok (.aload_n 0, 1) := by decide +kernel
theorem dX9_readClause_77 : decode cX9_readClause 77 = .ok (.getfield 90, 3) := by decide +kernel
theorem dX9_readClause_80 : decode cX9_readClause 80 = .ok (.ifCond .gt 18, 3) := by decide +kernel
theorem dX9_readClause_83 : decode cX9_readClause 83 = .ok (.iload_n 1, 1) := by decide +kernel
theorem dX9_readClause_84 : decode cX9_readClause 84 = .ok (.bipush 114, 2) := by decide +kernel
theorem dX9_readClause_86 : decode cX9_readClause 86 = .ok (.if_icmp .eq 21, 3) := by decide +kernel
theorem dX9_readClause_89 : decode cX9_readClause 89 = .ok (.aload_n 0, 1) := by decide +kernel
theorem dX9_readClause_90 : decode cX9_readClause 90 = .ok (.getfield 101, 3) := by decide +kernel
theorem dX9_readClause_93 : decode cX9_readClause 93 = .ok (.bipush 6, 2) := by decide +kernel
theorem dX9_readClause_95 : decode cX9_readClause 95 = .ok (.if_icmp .ne 12, 3) := by decide +kernel
theorem dX9_readClause_98 : decode cX9_readClause 98 = .ok (.aload_n 0, 1) := by decide +kernel
theorem dX9_readClause_99 : decode cX9_readClause 99 = .ok (.iconst 3, 1) := by decide +kernel
theorem dX9_readClause_100 : decode cX9_readClause 100 = .ok (.iload_n 2, 1) := by decide +kernel
theorem dX9_readClause_101 : decode cX9_readClause 101 = .ok (.invokevirtual 86, 3) := by decide +kernel
theorem dX9_readClause_104 : decode cX9_readClause 104 = .ok (.goto 28, 3) := by decide +kernel
theorem dX9_readClause_107 : decode cX9_readClause 107 = .ok (.iload_n 1, 1) := by decide +kernel
theorem dX9_readClause_108 : decode cX9_readClause 108 = .ok (.bipush 114, 2) := by decide +kernel
theorem dX9_readClause_110 : decode cX9_readClause 110 = .ok (.if_icmp .ne 17, 3) := by decide +kernel
theorem dX9_readClause_113 : decode cX9_readClause 113 = .ok (.aload_n 0, 1) := by decide +kernel
theorem dX9_readClause_114 : decode cX9_readClause 114 = .ok (.aload_n 0, 1) := by decide +kernel
theorem dX9_readClause_115 : decode cX9_readClause 115 = .ok (.iconst 1, 1) := by decide +kernel
theorem dX9_readClause_116 : decode cX9_readClause 116 = .ok (.bipush 8, 2) := by decide +kernel
theorem dX9_readClause_118 : decode cX9_readClause 118 = .ok (.invokevirtual 93, 3) := by decide +kernel
theorem dX9_readClause_121 : decode cX9_readClause 121 = .ok (.putfield 90, 3) := by decide +kernel
theorem dX9_readClause_124 : decode cX9_readClause 124 = .ok (.goto 8, 3) := by decide +kernel
theorem dX9_readClause_127 : decode cX9_readClause 127 = .ok (.aload_n 0, 1) := by decide +kernel
theorem dX9_readClause_128 : decode cX9_readClause 128 = .ok (.iload_n 1, 1) := by decide +kernel
theorem dX9_readClause_129 : decode cX9_readClause 129 = .ok (.invokevirtual 110, 3) := by decide +kernel
theorem dX9_readClause_132 : decode cX9_readClause 132 = .ok (.aload_n 0, 1) := by decide +kernel
theorem dX9_readClause_133 : decode cX9_readClause 133 = .ok (.invokevirtual 69, 3) := by decide +kernel
theorem dX9_readClause_136 : decode cX9_readClause 136 = .ok (.ifCond .eq 31, 3) := by decide +kernel
