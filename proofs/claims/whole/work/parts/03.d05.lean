theorem dX9_readClause_139 : decode cX9_readClause 139 = .ok (.aload_n 0, 1) := by decide +kernel
theorem dX9_readClause_140 : decode cX9_readClause 140 = .ok (.invokevirtual 79, 3) := by decide +kernel
theorem dX9_readClause_143 : decode cX9_readClause 143 = .ok (.bipush 59, 2) := by decide +kernel
theorem dX9_readClause_145 : decode cX9_readClause 145 = .ok (.if_icmp .eq 12, 3) := by decide +kernel
theorem dX9_readClause_148 : decode cX9_readClause 148 = .ok (.aload_n 0, 1) := by decide +kernel
theorem dX9_readClause_149 : decode cX9_readClause 149 = .ok (.iconst 1, 1) := by decide +kernel
theorem dX9_readClause_150 : decode cX9_readClause 150 = .ok (.aload_n 0, 1) := by decide +kernel
theorem dX9_readClause_151 : decode cX9_readClause 151 = .ok (.getfield 76, 3) := by decide +kernel
theorem dX9_readClause_154 : decode cX9_readClause 154 = .ok (.invokevirtual 86, 3) := by decide +kernel
theorem dX9_readClause_157 : decode cX9_readClause 157 = .ok (.aload_n 0, 1) := by decide +kernel
theorem dX9_readClause_158 : decode cX9_readClause 158 = .ok (.dup, 1) := by decide +kernel
theorem dX9_readClause_159 : decode cX9_readClause 159 = .ok (.getfield 76, 3) := by decide +kernel
theorem dX9_readClause_162 : decode cX9_readClause 162 = .ok (.iconst 1, 1) := by decide +kernel
theorem dX9_readClause_163 : decode cX9_readClause 163 = .ok (.iadd, 1) := by decide +kernel
theorem dX9_readClause_164 : decode cX9_readClause 164 = .ok (.putfield 76, 3) := by decide +kernel
theorem dX9_readClause_167 : decode cX9_readClause 167 = .ok (.return_, 1) := by decide +kernel
theorem dX9_hostel_0 : decode cX9_hostel 0 = .ok (.aload_n 0, 1) := by decide +kernel
theorem dX9_hostel_1 : decode cX9_hostel 1 = .ok (.iconst 0, 1) := by decide +kernel
theorem dX9_hostel_2 : decode cX9_hostel 2 = .ok (.putfield 76, 3) := by decide +kernel
theorem dX9_hostel_5 : decode cX9_hostel 5 = .ok (.aload_n 0, 1) := by decide +kernel
theorem dX9_hostel_6 : decode cX9_hostel 6 = .ok (.iconst 0, 1) := by decide +kernel
theorem dX9_hostel_7 : decode cX9_hostel 7 = .ok (.putfield 66, 3) := by decide +kernel
theorem dX9_hostel_10 : decode cX9_hostel 10 = .ok (.aload_n 0, 1) := by decide +kernel
theorem dX9_hostel_11 : decode cX9_hostel 11 = .ok (.iconst (-1), 1) := by decide +kernel
theorem dX9_hostel_12 : decode cX9_hostel 12 = .ok (.putfield 16, 3) := by decide +kernel
theorem dX9_hostel_15 : decode cX9_hostel 15 = .ok (.aload_n 0, 1) := by decide +kernel
theorem dX9_hostel_16 : decode cX9_hostel 16 = .ok (.iconst 0, 1) := by decide +kernel
theorem dX9_hostel_17 : decode cX9_hostel 17 = .ok (.putfield 90, 3) := by decide +kernel
theorem dX9_hostel_20 : decode cX9_hostel 20 = .ok (.aload_n 0, 1) := by decide +kernel
theorem dX9_hostel_21 : decode cX9_hostel 21 = .ok (.iconst 0, 1) := by decide +kernel
theorem dX9_hostel_22 : decode cX9_hostel 22 = .ok (.putfield 101, 3) := by decide +kernel
theorem dX9_hostel_25 : decode cX9_hostel 25 = .ok (.aload_n 0, 1) := by decide +kernel
theorem dX9_hostel_26 : decode cX9_hostel 26 = .ok (.invokevirtual 79, 3) := by decide +kernel
theorem dX9_hostel_29 : decode cX9_hostel 29 = .ok (.istore_n 1, 1) := by decide +kernel
theorem dX9_hostel_30 : decode cX9_hostel 30 = .ok (.aload_n 0, 1) := by decide +kernel
theorem dX9_hostel_31 : decode cX9_hostel 31 = .ok (.invokevirtual 69, 3) := by decide +kernel
theorem dX9_hostel_34 : decode cX9_hostel 34 = .ok (.ifCond .eq 26, 3) := by decide +kernel
theorem dX9_hostel_37 : decode cX9_hostel 37 = .ok (.aload_n 0, 1) := by decide +kernel
theorem dX9_hostel_38 : decode cX9_hostel 38 = .ok (.getfield 76, 3) := by decide +kernel
theorem dX9_hostel_41 : decode cX9_hostel 41 = .ok (.aload_n 0, 1) := by decide +kernel
theorem dX9_hostel_42 : decode cX9_hostel 42 = .ok (.getfield 62, 3) := by decide +kernel
theorem dX9_hostel_45 : decode cX9_hostel 45 = .ok (.if_icmp .ge 15, 3) := by decide +kernel
theorem dX9_hostel_48 : decode cX9_hostel 48 = .ok (.aload_n 0, 1) := by decide +kernel
theorem dX9_hostel_49 : decode cX9_hostel 49 = .ok (.invokevirtual 113, 3) := by decide +kernel
theorem dX9_hostel_52 : decode cX9_hostel 52 = .ok (.aload_n 0, 1) := by decide +kernel
theorem dX9_hostel_53 : decode cX9_hostel 53 = .ok (.invokevirtual 79, 3) := by decide +kernel
theorem dX9_hostel_56 : decode cX9_hostel 56 = .ok (.istore_n 1, 1) := by decide +kernel
theorem dX9_hostel_57 : decode cX9_hostel 57 = .ok (.goto (-27), 3) := by decide +kernel
theorem dX9_hostel_60 : decode cX9_hostel 60 = .ok (.aload_n 0, 1) := by decide +kernel
theorem dX9_hostel_61 : decode cX9_hostel 61 = .ok (.iconst 0, 1) := by decide +kernel
theorem dX9_hostel_62 : decode cX9_hostel 62 = .ok (.putfield 62, 3) := by decide +kernel
theorem dX9_hostel_65 : decode cX9_hostel 65 = .ok (.aload_n 0, 1) := by decide +kernel
theorem dX9_hostel_66 : decode cX9_hostel 66 = .ok (.invokevirtual 69, 3) := by decide +kernel
theorem dX9_hostel_69 : decode cX9_hostel 69 = .ok (.ifCond .ne 19, 3) := by decide +kernel
theorem dX9_hostel_72 : decode cX9_hostel 72 = .ok (.aload_n 0, 1) := by decide +kernel
theorem dX9_hostel_73 : decode cX9_hostel 73 = .ok (.aload_n 0, 1) := by decide +kernel
theorem dX9_hostel_74 : decode cX9_hostel 74 = .ok (.getfield 73, 3) := by decide +kernel
theorem dX9_hostel_77 : decode cX9_hostel 77 = .ok (.putfield 16, 3) := by decide +kernel
theorem dX9_hostel_80 : decode cX9_hostel 80 = .ok (.bipush (-10), 2) := by decide +kernel
theorem dX9_hostel_82 : decode cX9_hostel 82 = .ok (.aload_n 0, 1) := by decide +kernel
theorem dX9_hostel_83 : decode cX9_hostel 83 = .ok (.getfield 66, 3) := by decide +kernel
theorem dX9_hostel_86 : decode cX9_hostel 86 = .ok (.isub, 1) := by decide +kernel
theorem dX9_hostel_87 : decode cX9_hostel 87 = .ok (.ireturn, 1) := by decide +kernel
theorem dX9_hostel_88 : decode cX9_hostel 88 = .ok (.aload_n 0, 1) := by decide +kernel
theorem dX9_hostel_89 : decode cX9_hostel 89 = .ok (.sipush 1541, 3) := by decide +kernel
theorem dX9_hostel_92 : decode cX9_hostel 92 = .ok (.invokevirtual 47, 3) := by decide +kernel
theorem dX9_hostel_95 : decode cX9_hostel 95 = .ok (.aload_n 0, 1) := by decide +kernel
theorem dX9_hostel_96 : decode cX9_hostel 96 = .ok (.getfield 7, 3) := by decide +kernel
theorem dX9_hostel_99 : decode cX9_hostel 99 = .ok (.sipush 1607, 3) := by decide +kernel
theorem dX9_hostel_102 : decode cX9_hostel 102 = .ok (.aload_n 0, 1) := by decide +kernel
theorem dX9_hostel_103 : decode cX9_hostel 103 = .ok (.getfield 7, 3) := by decide +kernel
theorem dX9_hostel_106 : decode cX9_hostel 106 = .ok (.bipush 66, 2) := by decide +kernel
theorem dX9_hostel_108 : decode cX9_hostel 108 = .ok (.iaload, 1) := by decide +kernel
theorem dX9_hostel_109 : decode cX9_hostel 109 = .ok (.iastore, 1) := by decide +kernel
theorem dX9_hostel_110 : decode cX9_hostel 110 = .ok (.aload_n 0, 1) := by decide +kernel
theorem dX9_hostel_111 : decode cX9_hostel 111 = .ok (.sipush 1541, 3) := by decide +kernel
theorem dX9_hostel_114 : decode cX9_hostel 114 = .ok (.iconst 0, 1) := by decide +kernel
theorem dX9_hostel_115 : decode cX9_hostel 115 = .ok (.invokevirtual 116, 3) := by decide +kernel
theorem dX9_hostel_118 : decode cX9_hostel 118 = .ok (.aload_n 0, 1) := by decide +kernel
theorem dX9_hostel_119 : decode cX9_hostel 119 = .ok (.aload_n 0, 1) := by decide +kernel
theorem dX9_hostel_120 : decode cX9_hostel 120 = .ok (.getfield 90, 3) := by decide +kernel
theorem dX9_hostel_123 : decode cX9_hostel 123 = .ok (.putfield 58, 3) := by decide +kernel
theorem dX9_hostel_126 : decode cX9_hostel 126 = .ok (.aload_n 0, 1) := by decide +kernel
theorem dX9_hostel_127 : decode cX9_hostel 127 = .ok (.aload_n 0, 1) := by decide +kernel
theorem dX9_hostel_128 : decode cX9_hostel 128 = .ok (.getfield 101, 3) := by decide +kernel
theorem dX9_hostel_131 : decode cX9_hostel 131 = .ok (.putfield 51, 3) := by decide +kernel
theorem dX9_hostel_134 : decode cX9_hostel 134 = .ok (.aload_n 0, 1) := by decide +kernel
theorem dX9_hostel_135 : decode cX9_hostel 135 = .ok (.iconst 0, 1) := by decide +kernel
theorem dX9_hostel_136 : decode cX9_hostel 136 = .ok (.putfield 119, 3) := by decide +kernel
theorem dX9_hostel_139 : decode cX9_hostel 139 = .ok (.aload_n 0, 1) := by decide +kernel
theorem dX9_hostel_140 : decode cX9_hostel 140 = .ok (.iconst 0, 1) := by decide +kernel
theorem dX9_hostel_141 : decode cX9_hostel 141 = .ok (.putfield 122, 3) := by decide +kernel
theorem dX9_hostel_144 : decode cX9_hostel 144 = .ok (.aload_n 0, 1) := by decide +kernel
theorem dX9_hostel_145 : decode cX9_hostel 145 = .ok (.iconst 0, 1) := by decide +kernel
theorem dX9_hostel_146 : decode cX9_hostel 146 = .ok (.putfield 125, 3) := by decide +kernel
theorem dX9_hostel_149 : decode cX9_hostel 149 = .ok (.aload_n 0, 1) := by decide +kernel
theorem dX9_hostel_150 : decode cX9_hostel 150 = .ok (.iconst 0, 1) := by decide +kernel
theorem dX9_hostel_151 : decode cX9_hostel 151 = .ok (.putfield 128, 3) := by decide +kernel
theorem dX9_hostel_154 : decode cX9_hostel 154 = .ok (.aload_n 0, 1) := by decide +kernel
theorem dX9_hostel_155 : decode cX9_hostel 155 = .ok (.getfield 51, 3) := by decide +kernel
theorem dX9_hostel_158 : decode cX9_hostel 158 = .ok (.ireturn, 1) := by decide +kernel
theorem dX9_fault_0 : decode cX9_fault 0 = .ok (.aload_n 0, 1) := by decide +kernel
theorem dX9_fault_1 : decode cX9_fault 1 = .ok (.getfield 16, 3) := by decide +kernel
theorem dX9_fault_4 : decode cX9_fault 4 = .ok (.ireturn, 1) := by decide +kernel
theorem dX9_layWants_0 : decode cX9_layWants 0 = .ok (.iconst 0, 1) := by decide +kernel
theorem dX9_layWants_1 : decode cX9_layWants 1 = .ok (.istore_n 3, 1) := by decide +kernel
theorem dX9_layWants_2 : decode cX9_layWants 2 = .ok (.aload_n 0, 1) := by decide +kernel
theorem dX9_layWants_3 : decode cX9_layWants 3 = .ok (.getfield 7, 3) := by decide +kernel
theorem dX9_layWants_6 : decode cX9_layWants 6 = .ok (.iload_n 1, 1) := by decide +kernel
theorem dX9_layWants_7 : decode cX9_layWants 7 = .ok (.bipush 54, 2) := by decide +kernel
theorem dX9_layWants_9 : decode cX9_layWants 9 = .ok (.iadd, 1) := by decide +kernel
theorem dX9_layWants_10 : decode cX9_layWants 10 = .ok (.iload_n 2, 1) := by decide +kernel
theorem dX9_layWants_11 : decode cX9_layWants 11 = .ok (.iadd, 1) := by decide +kernel
theorem dX9_layWants_12 : decode cX9_layWants 12 = .ok (.iaload, 1) := by decide +kernel
theorem dX9_layWants_13 : decode cX9_layWants 13 = .ok (.istore 4, 2) := by decide +kernel
theorem dX9_layWants_15 : decode cX9_layWants 15 = .ok (.iconst 1, 1) := by decide +kernel
theorem dX9_layWants_16 : decode cX9_layWants 16 = .ok (.istore 5, 2) := by decide +kernel
theorem dX9_layWants_18 : decode cX9_layWants 18 = .ok (.iconst 0, 1) := by decide +kernel
theorem dX9_layWants_19 : decode cX9_layWants 19 = .ok (.istore 6, 2) := by decide +kernel
theorem dX9_layWants_21 : decode cX9_layWants 21 = .ok (.iload 6, 2) := by decide +kernel
theorem dX9_layWants_23 : decode cX9_layWants 23 = .ok (.aload_n 0, 1) := by decide +kernel
theorem dX9_layWants_24 : decode cX9_layWants 24 = .ok (.getfield 7, 3) := by decide +kernel
theorem dX9_layWants_27 : decode cX9_layWants 27 = .ok (.iload_n 1, 1) := by decide +kernel
theorem dX9_layWants_28 : decode cX9_layWants 28 = .ok (.bipush 48, 2) := by decide +kernel
theorem dX9_layWants_30 : decode cX9_layWants 30 = .ok (.iadd, 1) := by decide +kernel
theorem dX9_layWants_31 : decode cX9_layWants 31 = .ok (.iload_n 2, 1) := by decide +kernel
theorem dX9_layWants_32 : decode cX9_layWants 32 = .ok (.iadd, 1) := by decide +kernel
theorem dX9_layWants_33 : decode cX9_layWants 33 = .ok (.iaload, 1) := by decide +kernel
theorem dX9_layWants_34 : decode cX9_layWants 34 = .ok (.if_icmp .ge 55, 3) := by decide +kernel
theorem dX9_layWants_37 : decode cX9_layWants 37 = .ok (.iload 5, 2) := by decide +kernel
theorem dX9_layWants_39 : decode cX9_layWants 39 = .ok (.ifCond .eq 50, 3) := by decide +kernel
theorem dX9_layWants_42 : decode cX9_layWants 42 = .ok (.aload_n 0, 1) := by decide +kernel
theorem dX9_layWants_43 : decode cX9_layWants 43 = .ok (.getfield 29, 3) := by decide +kernel
theorem dX9_layWants_46 : decode cX9_layWants 46 = .ok (.iload_n 3, 1) := by decide +kernel
theorem dX9_layWants_47 : decode cX9_layWants 47 = .ok (.aload_n 0, 1) := by decide +kernel
theorem dX9_layWants_48 : decode cX9_layWants 48 = .ok (.getfield 7, 3) := by decide +kernel
theorem dX9_layWants_51 : decode cX9_layWants 51 = .ok (.iload_n 1, 1) := by decide +kernel
theorem dX9_layWants_52 : decode cX9_layWants 52 = .ok (.bipush 8, 2) := by decide +kernel
theorem dX9_layWants_54 : decode cX9_layWants 54 = .ok (.iload_n 2, 1) := by decide +kernel
theorem dX9_layWants_55 : decode cX9_layWants 55 = .ok (.imul, 1) := by decide +kernel
theorem dX9_layWants_56 : decode cX9_layWants 56 = .ok (.iadd, 1) := by decide +kernel
theorem dX9_layWants_57 : decode cX9_layWants 57 = .ok (.iload 6, 2) := by decide +kernel
theorem dX9_layWants_59 : decode cX9_layWants 59 = .ok (.iadd, 1) := by decide +kernel
theorem dX9_layWants_60 : decode cX9_layWants 60 = .ok (.iaload, 1) := by decide +kernel
theorem dX9_layWants_61 : decode cX9_layWants 61 = .ok (.iastore, 1) := by decide +kernel
theorem dX9_layWants_62 : decode cX9_layWants 62 = .ok (.aload_n 0, 1) := by decide +kernel
theorem dX9_layWants_63 : decode cX9_layWants 63 = .ok (.getfield 29, 3) := by decide +kernel
theorem dX9_layWants_66 : decode cX9_layWants 66 = .ok (.iload_n 3, 1) := by decide +kernel
theorem dX9_layWants_67 : decode cX9_layWants 67 = .ok (.iaload, 1) := by decide +kernel
theorem dX9_layWants_68 : decode cX9_layWants 68 = .ok (.iload 4, 2) := by decide +kernel
theorem dX9_layWants_70 : decode cX9_layWants 70 = .ok (.if_icmp .eq 7, 3) := by decide +kernel
theorem dX9_layWants_73 : decode cX9_layWants 73 = .ok (.iconst 1, 1) := by decide +kernel
theorem dX9_layWants_74 : decode cX9_layWants 74 = .ok (.goto 4, 3) := by decide +kernel
theorem dX9_layWants_77 : decode cX9_layWants 77 = .ok (.iconst 0, 1) := by decide +kernel
theorem dX9_layWants_78 : decode cX9_layWants 78 = .ok (.istore 5, 2) := by decide +kernel
theorem dX9_layWants_80 : decode cX9_layWants 80 = .ok (.iinc 3 1, 3) := by decide +kernel
theorem dX9_layWants_83 : decode cX9_layWants 83 = .ok (.iinc 6 1, 3) := by decide +kernel
theorem dX9_layWants_86 : decode cX9_layWants 86 = .ok (.goto (-65), 3) := by decide +kernel
theorem dX9_layWants_89 : decode cX9_layWants 89 = .ok (.iload 5, 2) := by decide +kernel
theorem dX9_layWants_91 : decode cX9_layWants 91 = .ok (.ifCond .eq 20, 3) := by decide +kernel
theorem dX9_layWants_94 : decode cX9_layWants 94 = .ok (.iload 4, 2) := by decide +kernel
theorem dX9_layWants_96 : decode cX9_layWants 96 = .ok (.iconst (-1), 1) := by decide +kernel
theorem dX9_layWants_97 : decode cX9_layWants 97 = .ok (.if_icmp .eq 14, 3) := by decide +kernel
theorem dX9_layWants_100 : decode cX9_layWants 100 = .ok (.aload_n 0, 1) := by decide +kernel
theorem dX9_layWants_101 : decode cX9_layWants 101 = .ok (.getfield 29, 3) := by decide +kernel
theorem dX9_layWants_104 : decode cX9_layWants 104 = .ok (.iload_n 3, 1) := by decide +kernel
theorem dX9_layWants_105 : decode cX9_layWants 105 = .ok (.iload 4, 2) := by decide +kernel
theorem dX9_layWants_107 : decode cX9_layWants 107 = .ok (.iastore, 1) := by decide +kernel
theorem dX9_layWants_108 : decode cX9_layWants 108 = .ok (.iinc 3 1, 3) := by decide +kernel
theorem dX9_layWants_111 : decode cX9_layWants 111 = .ok (.iload_n 3, 1) := by decide +kernel
theorem dX9_layWants_112 : decode cX9_layWants 112 = .ok (.ireturn, 1) := by decide +kernel
theorem dX9_rankOf_0 : decode cX9_rankOf 0 = .ok (.aload_n 0, 1) := by decide +kernel
theorem dX9_rankOf_1 : decode cX9_rankOf 1 = .ok (.iload_n 1, 1) := by decide +kernel
theorem dX9_rankOf_2 : decode cX9_rankOf 2 = .ok (.iload_n 2, 1) := by decide +kernel
theorem dX9_rankOf_3 : decode cX9_rankOf 3 = .ok (.invokevirtual 131, 3) := by decide +kernel
theorem dX9_rankOf_6 : decode cX9_rankOf 6 = .ok (.istore 4, 2) := by decide +kernel
theorem dX9_rankOf_8 : decode cX9_rankOf 8 = .ok (.iconst 0, 1) := by decide +kernel
theorem dX9_rankOf_9 : decode cX9_rankOf 9 = .ok (.istore 5, 2) := by decide +kernel
theorem dX9_rankOf_11 : decode cX9_rankOf 11 = .ok (.iload 5, 2) := by decide +kernel
theorem dX9_rankOf_13 : decode cX9_rankOf 13 = .ok (.iload 4, 2) := by decide +kernel
theorem dX9_rankOf_15 : decode cX9_rankOf 15 = .ok (.if_icmp .ge 23, 3) := by decide +kernel
theorem dX9_rankOf_18 : decode cX9_rankOf 18 = .ok (.aload_n 0, 1) := by decide +kernel
theorem dX9_rankOf_19 : decode cX9_rankOf 19 = .ok (.getfield 29, 3) := by decide +kernel
theorem dX9_rankOf_22 : decode cX9_rankOf 22 = .ok (.iload 5, 2) := by decide +kernel
theorem dX9_rankOf_24 : decode cX9_rankOf 24 = .ok (.iaload, 1) := by decide +kernel
theorem dX9_rankOf_25 : decode cX9_rankOf 25 = .ok (.iload_n 3, 1) := by decide +kernel
theorem dX9_rankOf_26 : decode cX9_rankOf 26 = .ok (.if_icmp .ne 6, 3) := by decide +kernel
theorem dX9_rankOf_29 : decode cX9_rankOf 29 = .ok (.iload 5, 2) := by decide +kernel
theorem dX9_rankOf_31 : decode cX9_rankOf 31 = .ok (.ireturn, 1) := by decide +kernel
theorem dX9_rankOf_32 : decode cX9_rankOf 32 = .ok (.iinc 5 1, 3) := by decide +kernel
theorem dX9_rankOf_35 : decode cX9_rankOf 35 = .ok (.goto (-24), 3) := by decide +kernel
theorem dX9_rankOf_38 : decode cX9_rankOf 38 = .ok (.bipush 99, 2) := by decide +kernel
theorem dX9_rankOf_40 : decode cX9_rankOf 40 = .ok (.ireturn, 1) := by decide +kernel
theorem dX9_mostOf_0 : decode cX9_mostOf 0 = .ok (.aload_n 0, 1) := by decide +kernel
theorem dX9_mostOf_1 : decode cX9_mostOf 1 = .ok (.iload_n 1, 1) := by decide +kernel
theorem dX9_mostOf_2 : decode cX9_mostOf 2 = .ok (.iload_n 2, 1) := by decide +kernel
theorem dX9_mostOf_3 : decode cX9_mostOf 3 = .ok (.invokevirtual 131, 3) := by decide +kernel
theorem dX9_mostOf_6 : decode cX9_mostOf 6 = .ok (.istore 4, 2) := by decide +kernel
theorem dX9_mostOf_8 : decode cX9_mostOf 8 = .ok (.iconst 0, 1) := by decide +kernel
theorem dX9_mostOf_9 : decode cX9_mostOf 9 = .ok (.istore 5, 2) := by decide +kernel
theorem dX9_mostOf_11 : decode cX9_mostOf 11 = .ok (.iload 5, 2) := by decide +kernel
theorem dX9_mostOf_13 : decode cX9_mostOf 13 = .ok (.iload 4, 2) := by decide +kernel
theorem dX9_mostOf_15 : decode cX9_mostOf 15 = .ok (.if_icmp .ge 31, 3) := by decide +kernel
theorem dX9_mostOf_18 : decode cX9_mostOf 18 = .ok (.iload_n 3, 1) := by decide +kernel
theorem dX9_mostOf_19 : decode cX9_mostOf 19 = .ok (.aload_n 0, 1) := by decide +kernel
theorem dX9_mostOf_20 : decode cX9_mostOf 20 = .ok (.getfield 29, 3) := by decide +kernel
theorem dX9_mostOf_23 : decode cX9_mostOf 23 = .ok (.iload 5, 2) := by decide +kernel
theorem dX9_mostOf_25 : decode cX9_mostOf 25 = .ok (.iaload, 1) := by decide +kernel
theorem dX9_mostOf_26 : decode cX9_mostOf 26 = .ok (.invokestatic 134, 3) := by decide +kernel
theorem dX9_mostOf_29 : decode cX9_mostOf 29 = .ok (.ifCond .eq 11, 3) := by decide +kernel
theorem dX9_mostOf_32 : decode cX9_mostOf 32 = .ok (.aload_n 0, 1) := by decide +kernel
theorem dX9_mostOf_33 : decode cX9_mostOf 33 = .ok (.getfield 29, 3) := by decide +kernel
theorem dX9_mostOf_36 : decode cX9_mostOf 36 = .ok (.iload 5, 2) := by decide +kernel
theorem dX9_mostOf_38 : decode cX9_mostOf 38 = .ok (.iaload, 1) := by decide +kernel
theorem dX9_mostOf_39 : decode cX9_mostOf 39 = .ok (.ireturn, 1) := by decide +kernel
theorem dX9_mostOf_40 : decode cX9_mostOf 40 = .ok (.iinc 5 1, 3) := by decide +kernel
theorem dX9_mostOf_43 : decode cX9_mostOf 43 = .ok (.goto (-32), 3) := by decide +kernel
theorem dX9_mostOf_46 : decode cX9_mostOf 46 = .ok (.iconst (-1), 1) := by decide +kernel
theorem dX9_mostOf_47 : decode cX9_mostOf 47 = .ok (.ireturn, 1) := by decide +kernel
theorem dX9_firstByLots_0 : decode cX9_firstByLots 0 = .ok (.iconst 0, 1) := by decide +kernel
theorem dX9_firstByLots_1 : decode cX9_firstByLots 1 = .ok (.istore_n 2, 1) := by decide +kernel
theorem dX9_firstByLots_2 : decode cX9_firstByLots 2 = .ok (.iload_n 2, 1) := by decide +kernel
theorem dX9_firstByLots_3 : decode cX9_firstByLots 3 = .ok (.aload_n 0, 1) := by decide +kernel
theorem dX9_firstByLots_4 : decode cX9_firstByLots 4 = .ok (.getfield 51, 3) := by decide +kernel
theorem dX9_firstByLots_7 : decode cX9_firstByLots 7 = .ok (.if_icmp .ge 42, 3) := by decide +kernel
theorem dX9_firstByLots_10 : decode cX9_firstByLots 10 = .ok (.aload_n 0, 1) := by decide +kernel
theorem dX9_firstByLots_11 : decode cX9_firstByLots 11 = .ok (.getfield 138, 3) := by decide +kernel
theorem dX9_firstByLots_14 : decode cX9_firstByLots 14 = .ok (.aload_n 0, 1) := by decide +kernel
theorem dX9_firstByLots_15 : decode cX9_firstByLots 15 = .ok (.getfield 7, 3) := by decide +kernel
theorem dX9_firstByLots_18 : decode cX9_firstByLots 18 = .ok (.iload_n 1, 1) := by decide +kernel
theorem dX9_firstByLots_19 : decode cX9_firstByLots 19 = .ok (.bipush 60, 2) := by decide +kernel
theorem dX9_firstByLots_21 : decode cX9_firstByLots 21 = .ok (.iadd, 1) := by decide +kernel
theorem dX9_firstByLots_22 : decode cX9_firstByLots 22 = .ok (.iload_n 2, 1) := by decide +kernel
theorem dX9_firstByLots_23 : decode cX9_firstByLots 23 = .ok (.iadd, 1) := by decide +kernel
theorem dX9_firstByLots_24 : decode cX9_firstByLots 24 = .ok (.iaload, 1) := by decide +kernel
theorem dX9_firstByLots_25 : decode cX9_firstByLots 25 = .ok (.invokestatic 134, 3) := by decide +kernel
theorem dX9_firstByLots_28 : decode cX9_firstByLots 28 = .ok (.ifCond .eq 15, 3) := by decide +kernel
theorem dX9_firstByLots_31 : decode cX9_firstByLots 31 = .ok (.aload_n 0, 1) := by decide +kernel
theorem dX9_firstByLots_32 : decode cX9_firstByLots 32 = .ok (.getfield 7, 3) := by decide +kernel
theorem dX9_firstByLots_35 : decode cX9_firstByLots 35 = .ok (.iload_n 1, 1) := by decide +kernel
theorem dX9_firstByLots_36 : decode cX9_firstByLots 36 = .ok (.bipush 60, 2) := by decide +kernel
theorem dX9_firstByLots_38 : decode cX9_firstByLots 38 = .ok (.iadd, 1) := by decide +kernel
theorem dX9_firstByLots_39 : decode cX9_firstByLots 39 = .ok (.iload_n 2, 1) := by decide +kernel
theorem dX9_firstByLots_40 : decode cX9_firstByLots 40 = .ok (.iadd, 1) := by decide +kernel
theorem dX9_firstByLots_41 : decode cX9_firstByLots 41 = .ok (.iaload, 1) := by decide +kernel
theorem dX9_firstByLots_42 : decode cX9_firstByLots 42 = .ok (.ireturn, 1) := by decide +kernel
theorem dX9_firstByLots_43 : decode cX9_firstByLots 43 = .ok (.iinc 2 1, 3) := by decide +kernel
theorem dX9_firstByLots_46 : decode cX9_firstByLots 46 = .ok (.goto (-44), 3) := by decide +kernel
theorem dX9_firstByLots_49 : decode cX9_firstByLots 49 = .ok (.iconst (-1), 1) := by decide +kernel
theorem dX9_firstByLots_50 : decode cX9_firstByLots 50 = .ok (.ireturn, 1) := by decide +kernel
theorem dX9_pointsAt_0 : decode cX9_pointsAt 0 = .ok (.aload_n 0, 1) := by decide +kernel
theorem dX9_pointsAt_1 : decode cX9_pointsAt 1 = .ok (.iload_n 1, 1) := by decide +kernel
theorem dX9_pointsAt_2 : decode cX9_pointsAt 2 = .ok (.aload_n 0, 1) := by decide +kernel
theorem dX9_pointsAt_3 : decode cX9_pointsAt 3 = .ok (.getfield 51, 3) := by decide +kernel
theorem dX9_pointsAt_6 : decode cX9_pointsAt 6 = .ok (.iload_n 2, 1) := by decide +kernel
theorem dX9_pointsAt_7 : decode cX9_pointsAt 7 = .ok (.invokevirtual 104, 3) := by decide +kernel
theorem dX9_pointsAt_10 : decode cX9_pointsAt 10 = .ok (.istore_n 3, 1) := by decide +kernel
theorem dX9_pointsAt_11 : decode cX9_pointsAt 11 = .ok (.iload_n 3, 1) := by decide +kernel
theorem dX9_pointsAt_12 : decode cX9_pointsAt 12 = .ok (.iconst (-1), 1) := by decide +kernel
theorem dX9_pointsAt_13 : decode cX9_pointsAt 13 = .ok (.if_icmp .eq 18, 3) := by decide +kernel
theorem dX9_pointsAt_16 : decode cX9_pointsAt 16 = .ok (.aload_n 0, 1) := by decide +kernel
theorem dX9_pointsAt_17 : decode cX9_pointsAt 17 = .ok (.getfield 138, 3) := by decide +kernel
theorem dX9_pointsAt_20 : decode cX9_pointsAt 20 = .ok (.iload_n 3, 1) := by decide +kernel
theorem dX9_pointsAt_21 : decode cX9_pointsAt 21 = .ok (.invokestatic 134, 3) := by decide +kernel
theorem dX9_pointsAt_24 : decode cX9_pointsAt 24 = .ok (.ifCond .eq 7, 3) := by decide +kernel
theorem dX9_pointsAt_27 : decode cX9_pointsAt 27 = .ok (.iload_n 3, 1) := by decide +kernel
theorem dX9_pointsAt_28 : decode cX9_pointsAt 28 = .ok (.goto 8, 3) := by decide +kernel
theorem dX9_pointsAt_31 : decode cX9_pointsAt 31 = .ok (.aload_n 0, 1) := by decide +kernel
theorem dX9_pointsAt_32 : decode cX9_pointsAt 32 = .ok (.iload_n 1, 1) := by decide +kernel
theorem dX9_pointsAt_33 : decode cX9_pointsAt 33 = .ok (.invokevirtual 141, 3) := by decide +kernel
theorem dX9_pointsAt_36 : decode cX9_pointsAt 36 = .ok (.ireturn, 1) := by decide +kernel
theorem dX9_next_0 : decode cX9_next 0 = .ok (.aload_n 0, 1) := by decide +kernel
theorem dX9_next_1 : decode cX9_next 1 = .ok (.iload_n 1, 1) := by decide +kernel
theorem dX9_next_2 : decode cX9_next 2 = .ok (.aload_n 0, 1) := by decide +kernel
theorem dX9_next_3 : decode cX9_next 3 = .ok (.iload_n 1, 1) := by decide +kernel
theorem dX9_next_4 : decode cX9_next 4 = .ok (.iload_n 2, 1) := by decide +kernel
theorem dX9_next_5 : decode cX9_next 5 = .ok (.aload_n 0, 1) := by decide +kernel
theorem dX9_next_6 : decode cX9_next 6 = .ok (.getfield 145, 3) := by decide +kernel
theorem dX9_next_9 : decode cX9_next 9 = .ok (.invokevirtual 148, 3) := by decide +kernel
theorem dX9_next_12 : decode cX9_next 12 = .ok (.invokevirtual 151, 3) := by decide +kernel
theorem dX9_next_15 : decode cX9_next 15 = .ok (.ireturn, 1) := by decide +kernel
theorem dX9_dropThoseWithout_0 : decode cX9_dropThoseWithout 0 = .ok (.aload_n 0, 1) := by decide +kernel
theorem dX9_dropThoseWithout_1 : decode cX9_dropThoseWithout 1 = .ok (.getfield 138, 3) := by decide +kernel
theorem dX9_dropThoseWithout_4 : decode cX9_dropThoseWithout 4 = .ok (.istore_n 2, 1) := by decide +kernel
theorem dX9_dropThoseWithout_5 : decode cX9_dropThoseWithout 5 = .ok (.iconst 0, 1) := by decide +kernel
theorem dX9_dropThoseWithout_6 : decode cX9_dropThoseWithout 6 = .ok (.istore_n 3, 1) := by decide +kernel
theorem dX9_dropThoseWithout_7 : decode cX9_dropThoseWithout 7 = .ok (.iload_n 3, 1) := by decide +kernel
theorem dX9_dropThoseWithout_8 : decode cX9_dropThoseWithout 8 = .ok (.aload_n 0, 1) := by decide +kernel
theorem dX9_dropThoseWithout_9 : decode cX9_dropThoseWithout 9 = .ok (.getfield 51, 3) := by decide +kernel
theorem dX9_dropThoseWithout_12 : decode cX9_dropThoseWithout 12 = .ok (.if_icmp .ge 71, 3) := by decide +kernel
theorem dX9_dropThoseWithout_15 : decode cX9_dropThoseWithout 15 = .ok (.iload_n 2, 1) := by decide +kernel
theorem dX9_dropThoseWithout_16 : decode cX9_dropThoseWithout 16 = .ok (.iload_n 3, 1) := by decide +kernel
theorem dX9_dropThoseWithout_17 : decode cX9_dropThoseWithout 17 = .ok (.invokestatic 134, 3) := by decide +kernel
theorem dX9_dropThoseWithout_20 : decode cX9_dropThoseWithout 20 = .ok (.ifCond .eq 57, 3) := by decide +kernel
theorem dX9_dropThoseWithout_23 : decode cX9_dropThoseWithout 23 = .ok (.aload_n 0, 1) := by decide +kernel
theorem dX9_dropThoseWithout_24 : decode cX9_dropThoseWithout 24 = .ok (.iload_n 1, 1) := by decide +kernel
theorem dX9_dropThoseWithout_25 : decode cX9_dropThoseWithout 25 = .ok (.iload_n 3, 1) := by decide +kernel
theorem dX9_dropThoseWithout_26 : decode cX9_dropThoseWithout 26 = .ok (.aload_n 0, 1) := by decide +kernel
theorem dX9_dropThoseWithout_27 : decode cX9_dropThoseWithout 27 = .ok (.getfield 145, 3) := by decide +kernel
theorem dX9_dropThoseWithout_30 : decode cX9_dropThoseWithout 30 = .ok (.invokevirtual 148, 3) := by decide +kernel
theorem dX9_dropThoseWithout_33 : decode cX9_dropThoseWithout 33 = .ok (.iconst (-1), 1) := by decide +kernel
theorem dX9_dropThoseWithout_34 : decode cX9_dropThoseWithout 34 = .ok (.if_icmp .ne 43, 3) := by decide +kernel
theorem dX9_dropThoseWithout_37 : decode cX9_dropThoseWithout 37 = .ok (.aload_n 0, 1) := by decide +kernel
theorem dX9_dropThoseWithout_38 : decode cX9_dropThoseWithout 38 = .ok (.dup, 1) := by decide +kernel
theorem dX9_dropThoseWithout_39 : decode cX9_dropThoseWithout 39 = .ok (.getfield 138, 3) := by decide +kernel
theorem dX9_dropThoseWithout_42 : decode cX9_dropThoseWithout 42 = .ok (.iconst 1, 1) := by decide +kernel
theorem dX9_dropThoseWithout_43 : decode cX9_dropThoseWithout 43 = .ok (.iload_n 3, 1) := by decide +kernel
theorem dX9_dropThoseWithout_44 : decode cX9_dropThoseWithout 44 = .ok (.ishl, 1) := by decide +kernel
theorem dX9_dropThoseWithout_45 : decode cX9_dropThoseWithout 45 = .ok (.iconst (-1), 1) := by decide +kernel
theorem dX9_dropThoseWithout_46 : decode cX9_dropThoseWithout 46 = .ok (.ixor, 1) := by decide +kernel
theorem dX9_dropThoseWithout_47 : decode cX9_dropThoseWithout 47 = .ok (.iand, 1) := by decide +kernel
theorem dX9_dropThoseWithout_48 : decode cX9_dropThoseWithout 48 = .ok (.putfield 138, 3) := by decide +kernel
theorem dX9_dropThoseWithout_51 : decode cX9_dropThoseWithout 51 = .ok (.aload_n 0, 1) := by decide +kernel
theorem dX9_dropThoseWithout_52 : decode cX9_dropThoseWithout 52 = .ok (.getfield 20, 3) := by decide +kernel
theorem dX9_dropThoseWithout_55 : decode cX9_dropThoseWithout 55 = .ok (.iload_n 3, 1) := by decide +kernel
theorem dX9_dropThoseWithout_56 : decode cX9_dropThoseWithout 56 = .ok (.iconst (-1), 1) := by decide +kernel
theorem dX9_dropThoseWithout_57 : decode cX9_dropThoseWithout 57 = .ok (.iastore, 1) := by decide +kernel
theorem dX9_dropThoseWithout_58 : decode cX9_dropThoseWithout 58 = .ok (.aload_n 0, 1) := by decide +kernel
theorem dX9_dropThoseWithout_59 : decode cX9_dropThoseWithout 59 = .ok (.getfield 23, 3) := by decide +kernel
theorem dX9_dropThoseWithout_62 : decode cX9_dropThoseWithout 62 = .ok (.iload_n 3, 1) := by decide +kernel
theorem dX9_dropThoseWithout_63 : decode cX9_dropThoseWithout 63 = .ok (.aload_n 0, 1) := by decide +kernel
theorem dX9_dropThoseWithout_64 : decode cX9_dropThoseWithout 64 = .ok (.getfield 154, 3) := by decide +kernel
theorem dX9_dropThoseWithout_67 : decode cX9_dropThoseWithout 67 = .ok (.iastore, 1) := by decide +kernel
theorem dX9_dropThoseWithout_68 : decode cX9_dropThoseWithout 68 = .ok (.aload_n 0, 1) := by decide +kernel
theorem dX9_dropThoseWithout_69 : decode cX9_dropThoseWithout 69 = .ok (.getfield 26, 3) := by decide +kernel
theorem dX9_dropThoseWithout_72 : decode cX9_dropThoseWithout 72 = .ok (.iload_n 3, 1) := by decide +kernel
theorem dX9_dropThoseWithout_73 : decode cX9_dropThoseWithout 73 = .ok (.iconst 1, 1) := by decide +kernel
theorem dX9_dropThoseWithout_74 : decode cX9_dropThoseWithout 74 = .ok (.iload_n 3, 1) := by decide +kernel
theorem dX9_dropThoseWithout_75 : decode cX9_dropThoseWithout 75 = .ok (.ishl, 1) := by decide +kernel
theorem dX9_dropThoseWithout_76 : decode cX9_dropThoseWithout 76 = .ok (.iastore, 1) := by decide +kernel
theorem dX9_dropThoseWithout_77 : decode cX9_dropThoseWithout 77 = .ok (.iinc 3 1, 3) := by decide +kernel
theorem dX9_dropThoseWithout_80 : decode cX9_dropThoseWithout 80 = .ok (.goto (-73), 3) := by decide +kernel
theorem dX9_dropThoseWithout_83 : decode cX9_dropThoseWithout 83 = .ok (.return_, 1) := by decide +kernel
theorem dX9_ringFrom_0 : decode cX9_ringFrom 0 = .ok (.iconst 0, 1) := by decide +kernel
theorem dX9_ringFrom_1 : decode cX9_ringFrom 1 = .ok (.istore_n 3, 1) := by decide +kernel
theorem dX9_ringFrom_2 : decode cX9_ringFrom 2 = .ok (.iload_n 2, 1) := by decide +kernel
theorem dX9_ringFrom_3 : decode cX9_ringFrom 3 = .ok (.istore 4, 2) := by decide +kernel
theorem dX9_ringFrom_5 : decode cX9_ringFrom 5 = .ok (.iconst 0, 1) := by decide +kernel
theorem dX9_ringFrom_6 : decode cX9_ringFrom 6 = .ok (.istore 5, 2) := by decide +kernel
theorem dX9_ringFrom_8 : decode cX9_ringFrom 8 = .ok (.iload 5, 2) := by decide +kernel
theorem dX9_ringFrom_10 : decode cX9_ringFrom 10 = .ok (.aload_n 0, 1) := by decide +kernel
theorem dX9_ringFrom_11 : decode cX9_ringFrom 11 = .ok (.getfield 51, 3) := by decide +kernel
theorem dX9_ringFrom_14 : decode cX9_ringFrom 14 = .ok (.if_icmp .ge 33, 3) := by decide +kernel
theorem dX9_ringFrom_17 : decode cX9_ringFrom 17 = .ok (.iload_n 3, 1) := by decide +kernel
theorem dX9_ringFrom_18 : decode cX9_ringFrom 18 = .ok (.iconst 1, 1) := by decide +kernel
theorem dX9_ringFrom_19 : decode cX9_ringFrom 19 = .ok (.iload 4, 2) := by decide +kernel
theorem dX9_ringFrom_21 : decode cX9_ringFrom 21 = .ok (.ishl, 1) := by decide +kernel
theorem dX9_ringFrom_22 : decode cX9_ringFrom 22 = .ok (.ior, 1) := by decide +kernel
theorem dX9_ringFrom_23 : decode cX9_ringFrom 23 = .ok (.istore_n 3, 1) := by decide +kernel
theorem dX9_ringFrom_24 : decode cX9_ringFrom 24 = .ok (.aload_n 0, 1) := by decide +kernel
theorem dX9_ringFrom_25 : decode cX9_ringFrom 25 = .ok (.iload_n 1, 1) := by decide +kernel
theorem dX9_ringFrom_26 : decode cX9_ringFrom 26 = .ok (.iload 4, 2) := by decide +kernel
theorem dX9_ringFrom_28 : decode cX9_ringFrom 28 = .ok (.invokevirtual 157, 3) := by decide +kernel
theorem dX9_ringFrom_31 : decode cX9_ringFrom 31 = .ok (.istore 4, 2) := by decide +kernel
theorem dX9_ringFrom_33 : decode cX9_ringFrom 33 = .ok (.iload 4, 2) := by decide +kernel
theorem dX9_ringFrom_35 : decode cX9_ringFrom 35 = .ok (.iload_n 2, 1) := by decide +kernel
theorem dX9_ringFrom_36 : decode cX9_ringFrom 36 = .ok (.if_icmp .ne 5, 3) := by decide +kernel
theorem dX9_ringFrom_39 : decode cX9_ringFrom 39 = .ok (.iload_n 3, 1) := by decide +kernel
theorem dX9_ringFrom_40 : decode cX9_ringFrom 40 = .ok (.ireturn, 1) := by decide +kernel
theorem dX9_ringFrom_41 : decode cX9_ringFrom 41 = .ok (.iinc 5 1, 3) := by decide +kernel
theorem dX9_ringFrom_44 : decode cX9_ringFrom 44 = .ok (.goto (-36), 3) := by decide +kernel
theorem dX9_ringFrom_47 : decode cX9_ringFrom 47 = .ok (.iconst 0, 1) := by decide +kernel
theorem dX9_ringFrom_48 : decode cX9_ringFrom 48 = .ok (.ireturn, 1) := by decide +kernel
theorem dX9_giveRings_0 : decode cX9_giveRings 0 = .ok (.iconst 0, 1) := by decide +kernel
theorem dX9_giveRings_1 : decode cX9_giveRings 1 = .ok (.istore_n 2, 1) := by decide +kernel
theorem dX9_giveRings_2 : decode cX9_giveRings 2 = .ok (.iconst 0, 1) := by decide +kernel
theorem dX9_giveRings_3 : decode cX9_giveRings 3 = .ok (.istore_n 3, 1) := by decide +kernel
theorem dX9_giveRings_4 : decode cX9_giveRings 4 = .ok (.iconst 0, 1) := by decide +kernel
theorem dX9_giveRings_5 : decode cX9_giveRings 5 = .ok (.istore 4, 2) := by decide +kernel
theorem dX9_giveRings_7 : decode cX9_giveRings 7 = .ok (.iload 4, 2) := by decide +kernel
theorem dX9_giveRings_9 : decode cX9_giveRings 9 = .ok (.aload_n 0, 1) := by decide +kernel
theorem dX9_giveRings_10 : decode cX9_giveRings 10 = .ok (.getfield 51, 3) := by decide +kernel
theorem dX9_giveRings_13 : decode cX9_giveRings 13 = .ok (.if_icmp .ge 96, 3) := by decide +kernel
theorem dX9_giveRings_16 : decode cX9_giveRings 16 = .ok (.aload_n 0, 1) := by decide +kernel
theorem dX9_giveRings_17 : decode cX9_giveRings 17 = .ok (.getfield 138, 3) := by decide +kernel
theorem dX9_giveRings_20 : decode cX9_giveRings 20 = .ok (.iload 4, 2) := by decide +kernel
theorem dX9_giveRings_22 : decode cX9_giveRings 22 = .ok (.invokestatic 134, 3) := by decide +kernel
theorem dX9_giveRings_25 : decode cX9_giveRings 25 = .ok (.ifCond .eq 13, 3) := by decide +kernel
theorem dX9_giveRings_28 : decode cX9_giveRings 28 = .ok (.aload_n 0, 1) := by decide +kernel
theorem dX9_giveRings_29 : decode cX9_giveRings 29 = .ok (.iload_n 1, 1) := by decide +kernel
theorem dX9_giveRings_30 : decode cX9_giveRings 30 = .ok (.iload 4, 2) := by decide +kernel
theorem dX9_giveRings_32 : decode cX9_giveRings 32 = .ok (.invokevirtual 160, 3) := by decide +kernel
theorem dX9_giveRings_35 : decode cX9_giveRings 35 = .ok (.goto 4, 3) := by decide +kernel
theorem dX9_giveRings_38 : decode cX9_giveRings 38 = .ok (.iconst 0, 1) := by decide +kernel
theorem dX9_giveRings_39 : decode cX9_giveRings 39 = .ok (.istore 5, 2) := by decide +kernel
theorem dX9_giveRings_41 : decode cX9_giveRings 41 = .ok (.iload 5, 2) := by decide +kernel
theorem dX9_giveRings_43 : decode cX9_giveRings 43 = .ok (.ifCond .eq 60, 3) := by decide +kernel
theorem dX9_giveRings_46 : decode cX9_giveRings 46 = .ok (.aload_n 0, 1) := by decide +kernel
theorem dX9_giveRings_47 : decode cX9_giveRings 47 = .ok (.getfield 20, 3) := by decide +kernel
theorem dX9_giveRings_50 : decode cX9_giveRings 50 = .ok (.iload 4, 2) := by decide +kernel
theorem dX9_giveRings_52 : decode cX9_giveRings 52 = .ok (.aload_n 0, 1) := by decide +kernel
theorem dX9_giveRings_53 : decode cX9_giveRings 53 = .ok (.iload_n 1, 1) := by decide +kernel
theorem dX9_giveRings_54 : decode cX9_giveRings 54 = .ok (.iload 4, 2) := by decide +kernel
theorem dX9_giveRings_56 : decode cX9_giveRings 56 = .ok (.aload_n 0, 1) := by decide +kernel
theorem dX9_giveRings_57 : decode cX9_giveRings 57 = .ok (.getfield 145, 3) := by decide +kernel
theorem dX9_giveRings_60 : decode cX9_giveRings 60 = .ok (.invokevirtual 148, 3) := by decide +kernel
theorem dX9_giveRings_63 : decode cX9_giveRings 63 = .ok (.iastore, 1) := by decide +kernel
theorem dX9_giveRings_64 : decode cX9_giveRings 64 = .ok (.aload_n 0, 1) := by decide +kernel
theorem dX9_giveRings_65 : decode cX9_giveRings 65 = .ok (.getfield 23, 3) := by decide +kernel
theorem dX9_giveRings_68 : decode cX9_giveRings 68 = .ok (.iload 4, 2) := by decide +kernel
theorem dX9_giveRings_70 : decode cX9_giveRings 70 = .ok (.aload_n 0, 1) := by decide +kernel
theorem dX9_giveRings_71 : decode cX9_giveRings 71 = .ok (.getfield 154, 3) := by decide +kernel
theorem dX9_giveRings_74 : decode cX9_giveRings 74 = .ok (.iastore, 1) := by decide +kernel
theorem dX9_giveRings_75 : decode cX9_giveRings 75 = .ok (.aload_n 0, 1) := by decide +kernel
theorem dX9_giveRings_76 : decode cX9_giveRings 76 = .ok (.getfield 26, 3) := by decide +kernel
theorem dX9_giveRings_79 : decode cX9_giveRings 79 = .ok (.iload 4, 2) := by decide +kernel
theorem dX9_giveRings_81 : decode cX9_giveRings 81 = .ok (.iload 5, 2) := by decide +kernel
theorem dX9_giveRings_83 : decode cX9_giveRings 83 = .ok (.iastore, 1) := by decide +kernel
theorem dX9_giveRings_84 : decode cX9_giveRings 84 = .ok (.iload_n 2, 1) := by decide +kernel
theorem dX9_giveRings_85 : decode cX9_giveRings 85 = .ok (.iconst 1, 1) := by decide +kernel
theorem dX9_giveRings_86 : decode cX9_giveRings 86 = .ok (.iload 4, 2) := by decide +kernel
theorem dX9_giveRings_88 : decode cX9_giveRings 88 = .ok (.ishl, 1) := by decide +kernel
theorem dX9_giveRings_89 : decode cX9_giveRings 89 = .ok (.ior, 1) := by decide +kernel
theorem dX9_giveRings_90 : decode cX9_giveRings 90 = .ok (.istore_n 2, 1) := by decide +kernel
theorem dX9_giveRings_91 : decode cX9_giveRings 91 = .ok (.iload_n 3, 1) := by decide +kernel
theorem dX9_giveRings_92 : decode cX9_giveRings 92 = .ok (.iconst 1, 1) := by decide +kernel
theorem dX9_giveRings_93 : decode cX9_giveRings 93 = .ok (.aload_n 0, 1) := by decide +kernel
theorem dX9_giveRings_94 : decode cX9_giveRings 94 = .ok (.getfield 20, 3) := by decide +kernel
theorem dX9_giveRings_97 : decode cX9_giveRings 97 = .ok (.iload 4, 2) := by decide +kernel
theorem dX9_giveRings_99 : decode cX9_giveRings 99 = .ok (.iaload, 1) := by decide +kernel
theorem dX9_giveRings_100 : decode cX9_giveRings 100 = .ok (.ishl, 1) := by decide +kernel
theorem dX9_giveRings_101 : decode cX9_giveRings 101 = .ok (.ior, 1) := by decide +kernel
theorem dX9_giveRings_102 : decode cX9_giveRings 102 = .ok (.istore_n 3, 1) := by decide +kernel
theorem dX9_giveRings_103 : decode cX9_giveRings 103 = .ok (.iinc 4 1, 3) := by decide +kernel
theorem dX9_giveRings_106 : decode cX9_giveRings 106 = .ok (.goto (-99), 3) := by decide +kernel
theorem dX9_giveRings_109 : decode cX9_giveRings 109 = .ok (.aload_n 0, 1) := by decide +kernel
theorem dX9_giveRings_110 : decode cX9_giveRings 110 = .ok (.dup, 1) := by decide +kernel
theorem dX9_giveRings_111 : decode cX9_giveRings 111 = .ok (.getfield 138, 3) := by decide +kernel
theorem dX9_giveRings_114 : decode cX9_giveRings 114 = .ok (.iload_n 2, 1) := by decide +kernel
theorem dX9_giveRings_115 : decode cX9_giveRings 115 = .ok (.iconst (-1), 1) := by decide +kernel
theorem dX9_giveRings_116 : decode cX9_giveRings 116 = .ok (.ixor, 1) := by decide +kernel
theorem dX9_giveRings_117 : decode cX9_giveRings 117 = .ok (.iand, 1) := by decide +kernel
theorem dX9_giveRings_118 : decode cX9_giveRings 118 = .ok (.putfield 138, 3) := by decide +kernel
theorem dX9_giveRings_121 : decode cX9_giveRings 121 = .ok (.aload_n 0, 1) := by decide +kernel
theorem dX9_giveRings_122 : decode cX9_giveRings 122 = .ok (.dup, 1) := by decide +kernel
theorem dX9_giveRings_123 : decode cX9_giveRings 123 = .ok (.getfield 145, 3) := by decide +kernel
theorem dX9_giveRings_126 : decode cX9_giveRings 126 = .ok (.iload_n 3, 1) := by decide +kernel
theorem dX9_giveRings_127 : decode cX9_giveRings 127 = .ok (.iconst (-1), 1) := by decide +kernel
theorem dX9_giveRings_128 : decode cX9_giveRings 128 = .ok (.ixor, 1) := by decide +kernel
theorem dX9_giveRings_129 : decode cX9_giveRings 129 = .ok (.iand, 1) := by decide +kernel
theorem dX9_giveRings_130 : decode cX9_giveRings 130 = .ok (.putfield 145, 3) := by decide +kernel
theorem dX9_giveRings_133 : decode cX9_giveRings 133 = .ok (.return_, 1) := by decide +kernel
theorem dX9_giveOut_0 : decode cX9_giveOut 0 = .ok (.aload_n 0, 1) := by decide +kernel
theorem dX9_giveOut_1 : decode cX9_giveOut 1 = .ok (.iconst 1, 1) := by decide +kernel
theorem dX9_giveOut_2 : decode cX9_giveOut 2 = .ok (.aload_n 0, 1) := by decide +kernel
theorem dX9_giveOut_3 : decode cX9_giveOut 3 = .ok (.getfield 51, 3) := by decide +kernel
theorem dX9_giveOut_6 : decode cX9_giveOut 6 = .ok (.ishl, 1) := by decide +kernel
theorem dX9_giveOut_7 : decode cX9_giveOut 7 = .ok (.iconst 1, 1) := by decide +kernel
theorem dX9_giveOut_8 : decode cX9_giveOut 8 = .ok (.isub, 1) := by decide +kernel
theorem dX9_giveOut_9 : decode cX9_giveOut 9 = .ok (.putfield 138, 3) := by decide +kernel
theorem dX9_giveOut_12 : decode cX9_giveOut 12 = .ok (.aload_n 0, 1) := by decide +kernel
theorem dX9_giveOut_13 : decode cX9_giveOut 13 = .ok (.iconst 1, 1) := by decide +kernel
theorem dX9_giveOut_14 : decode cX9_giveOut 14 = .ok (.aload_n 0, 1) := by decide +kernel
theorem dX9_giveOut_15 : decode cX9_giveOut 15 = .ok (.getfield 58, 3) := by decide +kernel
theorem dX9_giveOut_18 : decode cX9_giveOut 18 = .ok (.ishl, 1) := by decide +kernel
theorem dX9_giveOut_19 : decode cX9_giveOut 19 = .ok (.iconst 1, 1) := by decide +kernel
theorem dX9_giveOut_20 : decode cX9_giveOut 20 = .ok (.isub, 1) := by decide +kernel
theorem dX9_giveOut_21 : decode cX9_giveOut 21 = .ok (.putfield 145, 3) := by decide +kernel
theorem dX9_giveOut_24 : decode cX9_giveOut 24 = .ok (.aload_n 0, 1) := by decide +kernel
theorem dX9_giveOut_25 : decode cX9_giveOut 25 = .ok (.iconst 0, 1) := by decide +kernel
theorem dX9_giveOut_26 : decode cX9_giveOut 26 = .ok (.putfield 154, 3) := by decide +kernel
theorem dX9_giveOut_29 : decode cX9_giveOut 29 = .ok (.aload_n 0, 1) := by decide +kernel
theorem dX9_giveOut_30 : decode cX9_giveOut 30 = .ok (.getfield 138, 3) := by decide +kernel
theorem dX9_giveOut_33 : decode cX9_giveOut 33 = .ok (.ifCond .eq 33, 3) := by decide +kernel
theorem dX9_giveOut_36 : decode cX9_giveOut 36 = .ok (.aload_n 0, 1) := by decide +kernel
theorem dX9_giveOut_37 : decode cX9_giveOut 37 = .ok (.iload_n 1, 1) := by decide +kernel
theorem dX9_giveOut_38 : decode cX9_giveOut 38 = .ok (.invokevirtual 163, 3) := by decide +kernel
theorem dX9_giveOut_41 : decode cX9_giveOut 41 = .ok (.aload_n 0, 1) := by decide +kernel
theorem dX9_giveOut_42 : decode cX9_giveOut 42 = .ok (.getfield 138, 3) := by decide +kernel
theorem dX9_giveOut_45 : decode cX9_giveOut 45 = .ok (.ifCond .eq 8, 3) := by decide +kernel
theorem dX9_giveOut_48 : decode cX9_giveOut 48 = .ok (.aload_n 0, 1) := by decide +kernel
theorem dX9_giveOut_49 : decode cX9_giveOut 49 = .ok (.iload_n 1, 1) := by decide +kernel
theorem dX9_giveOut_50 : decode cX9_giveOut 50 = .ok (.invokevirtual 166, 3) := by decide +kernel
theorem dX9_giveOut_53 : decode cX9_giveOut 53 = .ok (.aload_n 0, 1) := by decide +kernel
theorem dX9_giveOut_54 : decode cX9_giveOut 54 = .ok (.dup, 1) := by decide +kernel
theorem dX9_giveOut_55 : decode cX9_giveOut 55 = .ok (.getfield 154, 3) := by decide +kernel
theorem dX9_giveOut_58 : decode cX9_giveOut 58 = .ok (.iconst 1, 1) := by decide +kernel
theorem dX9_giveOut_59 : decode cX9_giveOut 59 = .ok (.iadd, 1) := by decide +kernel
theorem dX9_giveOut_60 : decode cX9_giveOut 60 = .ok (.putfield 154, 3) := by decide +kernel
theorem dX9_giveOut_63 : decode cX9_giveOut 63 = .ok (.goto (-34), 3) := by decide +kernel
theorem dX9_giveOut_66 : decode cX9_giveOut 66 = .ok (.return_, 1) := by decide +kernel
theorem dX9_whoGets_0 : decode cX9_whoGets 0 = .ok (.iconst 0, 1) := by decide +kernel
theorem dX9_whoGets_1 : decode cX9_whoGets 1 = .ok (.istore_n 2, 1) := by decide +kernel
theorem dX9_whoGets_2 : decode cX9_whoGets 2 = .ok (.iload_n 2, 1) := by decide +kernel
theorem dX9_whoGets_3 : decode cX9_whoGets 3 = .ok (.aload_n 0, 1) := by decide +kernel
theorem dX9_whoGets_4 : decode cX9_whoGets 4 = .ok (.getfield 51, 3) := by decide +kernel
theorem dX9_whoGets_7 : decode cX9_whoGets 7 = .ok (.if_icmp .ge 21, 3) := by decide +kernel
theorem dX9_whoGets_10 : decode cX9_whoGets 10 = .ok (.aload_n 0, 1) := by decide +kernel
theorem dX9_whoGets_11 : decode cX9_whoGets 11 = .ok (.getfield 20, 3) := by decide +kernel
theorem dX9_whoGets_14 : decode cX9_whoGets 14 = .ok (.iload_n 2, 1) := by decide +kernel
theorem dX9_whoGets_15 : decode cX9_whoGets 15 = .ok (.iaload, 1) := by decide +kernel
theorem dX9_whoGets_16 : decode cX9_whoGets 16 = .ok (.iload_n 1, 1) := by decide +kernel
theorem dX9_whoGets_17 : decode cX9_whoGets 17 = .ok (.if_icmp .ne 5, 3) := by decide +kernel
theorem dX9_whoGets_20 : decode cX9_whoGets 20 = .ok (.iload_n 2, 1) := by decide +kernel
theorem dX9_whoGets_21 : decode cX9_whoGets 21 = .ok (.ireturn, 1) := by decide +kernel
theorem dX9_whoGets_22 : decode cX9_whoGets 22 = .ok (.iinc 2 1, 3) := by decide +kernel
theorem dX9_whoGets_25 : decode cX9_whoGets 25 = .ok (.goto (-23), 3) := by decide +kernel
theorem dX9_whoGets_28 : decode cX9_whoGets 28 = .ok (.iconst (-1), 1) := by decide +kernel
theorem dX9_whoGets_29 : decode cX9_whoGets 29 = .ok (.ireturn, 1) := by decide +kernel
theorem dX9_without_0 : decode cX9_without 0 = .ok (.iconst 0, 1) := by decide +kernel
theorem dX9_without_1 : decode cX9_without 1 = .ok (.istore_n 1, 1) := by decide +kernel
theorem dX9_without_2 : decode cX9_without 2 = .ok (.iconst 0, 1) := by decide +kernel
theorem dX9_without_3 : decode cX9_without 3 = .ok (.istore_n 2, 1) := by decide +kernel
theorem dX9_without_4 : decode cX9_without 4 = .ok (.iload_n 2, 1) := by decide +kernel
theorem dX9_without_5 : decode cX9_without 5 = .ok (.aload_n 0, 1) := by decide +kernel
theorem dX9_without_6 : decode cX9_without 6 = .ok (.getfield 51, 3) := by decide +kernel
theorem dX9_without_9 : decode cX9_without 9 = .ok (.if_icmp .ge 29, 3) := by decide +kernel
theorem dX9_without_12 : decode cX9_without 12 = .ok (.iload_n 1, 1) := by decide +kernel
theorem dX9_without_13 : decode cX9_without 13 = .ok (.aload_n 0, 1) := by decide +kernel
theorem dX9_without_14 : decode cX9_without 14 = .ok (.getfield 20, 3) := by decide +kernel
theorem dX9_without_17 : decode cX9_without 17 = .ok (.iload_n 2, 1) := by decide +kernel
theorem dX9_without_18 : decode cX9_without 18 = .ok (.iaload, 1) := by decide +kernel
theorem dX9_without_19 : decode cX9_without 19 = .ok (.iconst (-1), 1) := by decide +kernel
theorem dX9_without_20 : decode cX9_without 20 = .ok (.if_icmp .ne 9, 3) := by decide +kernel
theorem dX9_without_23 : decode cX9_without 23 = .ok (.iconst 1, 1) := by decide +kernel
theorem dX9_without_24 : decode cX9_without 24 = .ok (.iload_n 2, 1) := by decide +kernel
theorem dX9_without_25 : decode cX9_without 25 = .ok (.ishl, 1) := by decide +kernel
theorem dX9_without_26 : decode cX9_without 26 = .ok (.goto 4, 3) := by decide +kernel
theorem dX9_without_29 : decode cX9_without 29 = .ok (.iconst 0, 1) := by decide +kernel
theorem dX9_without_30 : decode cX9_without 30 = .ok (.ior, 1) := by decide +kernel
theorem dX9_without_31 : decode cX9_without 31 = .ok (.istore_n 1, 1) := by decide +kernel
theorem dX9_without_32 : decode cX9_without 32 = .ok (.iinc 2 1, 3) := by decide +kernel
theorem dX9_without_35 : decode cX9_without 35 = .ok (.goto (-31), 3) := by decide +kernel
theorem dX9_without_38 : decode cX9_without 38 = .ok (.iload_n 1, 1) := by decide +kernel
theorem dX9_without_39 : decode cX9_without 39 = .ok (.ireturn, 1) := by decide +kernel
theorem dX9_roomsLeft_0 : decode cX9_roomsLeft 0 = .ok (.iconst 0, 1) := by decide +kernel
theorem dX9_roomsLeft_1 : decode cX9_roomsLeft 1 = .ok (.istore_n 2, 1) := by decide +kernel
theorem dX9_roomsLeft_2 : decode cX9_roomsLeft 2 = .ok (.iconst 0, 1) := by decide +kernel
theorem dX9_roomsLeft_3 : decode cX9_roomsLeft 3 = .ok (.istore_n 3, 1) := by decide +kernel
theorem dX9_roomsLeft_4 : decode cX9_roomsLeft 4 = .ok (.iload_n 3, 1) := by decide +kernel
theorem dX9_roomsLeft_5 : decode cX9_roomsLeft 5 = .ok (.aload_n 0, 1) := by decide +kernel
theorem dX9_roomsLeft_6 : decode cX9_roomsLeft 6 = .ok (.getfield 58, 3) := by decide +kernel
theorem dX9_roomsLeft_9 : decode cX9_roomsLeft 9 = .ok (.if_icmp .ge 66, 3) := by decide +kernel
theorem dX9_roomsLeft_12 : decode cX9_roomsLeft 12 = .ok (.iload_n 1, 1) := by decide +kernel
theorem dX9_roomsLeft_13 : decode cX9_roomsLeft 13 = .ok (.ifCond .ne 25, 3) := by decide +kernel
theorem dX9_roomsLeft_16 : decode cX9_roomsLeft 16 = .ok (.aload_n 0, 1) := by decide +kernel
theorem dX9_roomsLeft_17 : decode cX9_roomsLeft 17 = .ok (.iconst 0, 1) := by decide +kernel
theorem dX9_roomsLeft_18 : decode cX9_roomsLeft 18 = .ok (.aload_n 0, 1) := by decide +kernel
theorem dX9_roomsLeft_19 : decode cX9_roomsLeft 19 = .ok (.getfield 51, 3) := by decide +kernel
theorem dX9_roomsLeft_22 : decode cX9_roomsLeft 22 = .ok (.iload_n 3, 1) := by decide +kernel
theorem dX9_roomsLeft_23 : decode cX9_roomsLeft 23 = .ok (.invokevirtual 104, 3) := by decide +kernel
theorem dX9_roomsLeft_26 : decode cX9_roomsLeft 26 = .ok (.iconst (-1), 1) := by decide +kernel
theorem dX9_roomsLeft_27 : decode cX9_roomsLeft 27 = .ok (.if_icmp .eq 7, 3) := by decide +kernel
theorem dX9_roomsLeft_30 : decode cX9_roomsLeft 30 = .ok (.iconst 1, 1) := by decide +kernel
theorem dX9_roomsLeft_31 : decode cX9_roomsLeft 31 = .ok (.goto 21, 3) := by decide +kernel
theorem dX9_roomsLeft_34 : decode cX9_roomsLeft 34 = .ok (.iconst 0, 1) := by decide +kernel
theorem dX9_roomsLeft_35 : decode cX9_roomsLeft 35 = .ok (.goto 17, 3) := by decide +kernel
theorem dX9_roomsLeft_38 : decode cX9_roomsLeft 38 = .ok (.aload_n 0, 1) := by decide +kernel
theorem dX9_roomsLeft_39 : decode cX9_roomsLeft 39 = .ok (.iload_n 3, 1) := by decide +kernel
theorem dX9_roomsLeft_40 : decode cX9_roomsLeft 40 = .ok (.invokevirtual 169, 3) := by decide +kernel
theorem dX9_roomsLeft_43 : decode cX9_roomsLeft 43 = .ok (.iconst (-1), 1) := by decide +kernel
theorem dX9_roomsLeft_44 : decode cX9_roomsLeft 44 = .ok (.if_icmp .eq 7, 3) := by decide +kernel
theorem dX9_roomsLeft_47 : decode cX9_roomsLeft 47 = .ok (.iconst 1, 1) := by decide +kernel
theorem dX9_roomsLeft_48 : decode cX9_roomsLeft 48 = .ok (.goto 4, 3) := by decide +kernel
theorem dX9_roomsLeft_51 : decode cX9_roomsLeft 51 = .ok (.iconst 0, 1) := by decide +kernel
theorem dX9_roomsLeft_52 : decode cX9_roomsLeft 52 = .ok (.istore 4, 2) := by decide +kernel
theorem dX9_roomsLeft_54 : decode cX9_roomsLeft 54 = .ok (.iload_n 2, 1) := by decide +kernel
theorem dX9_roomsLeft_55 : decode cX9_roomsLeft 55 = .ok (.iload 4, 2) := by decide +kernel
theorem dX9_roomsLeft_57 : decode cX9_roomsLeft 57 = .ok (.ifCond .eq 7, 3) := by decide +kernel
theorem dX9_roomsLeft_60 : decode cX9_roomsLeft 60 = .ok (.iconst 0, 1) := by decide +kernel
theorem dX9_roomsLeft_61 : decode cX9_roomsLeft 61 = .ok (.goto 6, 3) := by decide +kernel
theorem dX9_roomsLeft_64 : decode cX9_roomsLeft 64 = .ok (.iconst 1, 1) := by decide +kernel
theorem dX9_roomsLeft_65 : decode cX9_roomsLeft 65 = .ok (.iload_n 3, 1) := by decide +kernel
theorem dX9_roomsLeft_66 : decode cX9_roomsLeft 66 = .ok (.ishl, 1) := by decide +kernel
theorem dX9_roomsLeft_67 : decode cX9_roomsLeft 67 = .ok (.ior, 1) := by decide +kernel
theorem dX9_roomsLeft_68 : decode cX9_roomsLeft 68 = .ok (.istore_n 2, 1) := by decide +kernel
theorem dX9_roomsLeft_69 : decode cX9_roomsLeft 69 = .ok (.iinc 3 1, 3) := by decide +kernel
theorem dX9_roomsLeft_72 : decode cX9_roomsLeft 72 = .ok (.goto (-68), 3) := by decide +kernel
theorem dX9_roomsLeft_75 : decode cX9_roomsLeft 75 = .ok (.iload_n 2, 1) := by decide +kernel
theorem dX9_roomsLeft_76 : decode cX9_roomsLeft 76 = .ok (.ireturn, 1) := by decide +kernel
theorem dX9_partings_0 : decode cX9_partings 0 = .ok (.iconst 0, 1) := by decide +kernel
theorem dX9_partings_1 : decode cX9_partings 1 = .ok (.istore_n 2, 1) := by decide +kernel
theorem dX9_partings_2 : decode cX9_partings 2 = .ok (.iload_n 2, 1) := by decide +kernel
theorem dX9_partings_3 : decode cX9_partings 3 = .ok (.bipush 64, 2) := by decide +kernel
theorem dX9_partings_5 : decode cX9_partings 5 = .ok (.if_icmp .ge 16, 3) := by decide +kernel
theorem dX9_partings_8 : decode cX9_partings 8 = .ok (.aload_n 0, 1) := by decide +kernel
theorem dX9_partings_9 : decode cX9_partings 9 = .ok (.getfield 44, 3) := by decide +kernel
theorem dX9_partings_12 : decode cX9_partings 12 = .ok (.iload_n 2, 1) := by decide +kernel
theorem dX9_partings_13 : decode cX9_partings 13 = .ok (.iconst 0, 1) := by decide +kernel
theorem dX9_partings_14 : decode cX9_partings 14 = .ok (.iastore, 1) := by decide +kernel
theorem dX9_partings_15 : decode cX9_partings 15 = .ok (.iinc 2 1, 3) := by decide +kernel
theorem dX9_partings_18 : decode cX9_partings 18 = .ok (.goto (-16), 3) := by decide +kernel
theorem dX9_partings_21 : decode cX9_partings 21 = .ok (.aload_n 0, 1) := by decide +kernel
theorem dX9_partings_22 : decode cX9_partings 22 = .ok (.getfield 44, 3) := by decide +kernel
theorem dX9_partings_25 : decode cX9_partings 25 = .ok (.iconst 0, 1) := by decide +kernel
theorem dX9_partings_26 : decode cX9_partings 26 = .ok (.iconst 1, 1) := by decide +kernel
theorem dX9_partings_27 : decode cX9_partings 27 = .ok (.iastore, 1) := by decide +kernel
theorem dX9_partings_28 : decode cX9_partings 28 = .ok (.iconst 0, 1) := by decide +kernel
theorem dX9_partings_29 : decode cX9_partings 29 = .ok (.istore_n 2, 1) := by decide +kernel
theorem dX9_partings_30 : decode cX9_partings 30 = .ok (.iload_n 2, 1) := by decide +kernel
theorem dX9_partings_31 : decode cX9_partings 31 = .ok (.bipush 64, 2) := by decide +kernel
theorem dX9_partings_33 : decode cX9_partings 33 = .ok (.if_icmp .ge 147, 3) := by decide +kernel
theorem dX9_partings_36 : decode cX9_partings 36 = .ok (.iload_n 1, 1) := by decide +kernel
theorem dX9_partings_37 : decode cX9_partings 37 = .ok (.iload_n 2, 1) := by decide +kernel
theorem dX9_partings_38 : decode cX9_partings 38 = .ok (.invokestatic 172, 3) := by decide +kernel
theorem dX9_partings_41 : decode cX9_partings 41 = .ok (.invokestatic 175, 3) := by decide +kernel
theorem dX9_partings_44 : decode cX9_partings 44 = .ok (.istore_n 3, 1) := by decide +kernel
theorem dX9_partings_45 : decode cX9_partings 45 = .ok (.iconst 0, 1) := by decide +kernel
theorem dX9_partings_46 : decode cX9_partings 46 = .ok (.istore 4, 2) := by decide +kernel
theorem dX9_partings_48 : decode cX9_partings 48 = .ok (.iload 4, 2) := by decide +kernel
theorem dX9_partings_50 : decode cX9_partings 50 = .ok (.aload_n 0, 1) := by decide +kernel
theorem dX9_partings_51 : decode cX9_partings 51 = .ok (.getfield 51, 3) := by decide +kernel
theorem dX9_partings_54 : decode cX9_partings 54 = .ok (.if_icmp .ge 120, 3) := by decide +kernel
theorem dX9_partings_57 : decode cX9_partings 57 = .ok (.iload_n 3, 1) := by decide +kernel
theorem dX9_partings_58 : decode cX9_partings 58 = .ok (.iconst (-1), 1) := by decide +kernel
theorem dX9_partings_59 : decode cX9_partings 59 = .ok (.if_icmp .eq 115, 3) := by decide +kernel
theorem dX9_partings_62 : decode cX9_partings 62 = .ok (.aload_n 0, 1) := by decide +kernel
theorem dX9_partings_63 : decode cX9_partings 63 = .ok (.getfield 44, 3) := by decide +kernel
theorem dX9_partings_66 : decode cX9_partings 66 = .ok (.iload_n 2, 1) := by decide +kernel
theorem dX9_partings_67 : decode cX9_partings 67 = .ok (.iaload, 1) := by decide +kernel
theorem dX9_partings_68 : decode cX9_partings 68 = .ok (.ifCond .le 106, 3) := by decide +kernel
theorem dX9_partings_71 : decode cX9_partings 71 = .ok (.iload_n 1, 1) := by decide +kernel
theorem dX9_partings_72 : decode cX9_partings 72 = .ok (.iload 4, 2) := by decide +kernel
theorem dX9_partings_74 : decode cX9_partings 74 = .ok (.invokestatic 134, 3) := by decide +kernel
theorem dX9_partings_77 : decode cX9_partings 77 = .ok (.ifCond .eq 50, 3) := by decide +kernel
theorem dX9_partings_80 : decode cX9_partings 80 = .ok (.iload_n 2, 1) := by decide +kernel
theorem dX9_partings_81 : decode cX9_partings 81 = .ok (.iload 4, 2) := by decide +kernel
theorem dX9_partings_83 : decode cX9_partings 83 = .ok (.invokestatic 134, 3) := by decide +kernel
theorem dX9_partings_86 : decode cX9_partings 86 = .ok (.ifCond .ne 41, 3) := by decide +kernel
theorem dX9_partings_89 : decode cX9_partings 89 = .ok (.aload_n 0, 1) := by decide +kernel
theorem dX9_partings_90 : decode cX9_partings 90 = .ok (.iconst 0, 1) := by decide +kernel
theorem dX9_partings_91 : decode cX9_partings 91 = .ok (.iload_n 3, 1) := by decide +kernel
theorem dX9_partings_92 : decode cX9_partings 92 = .ok (.aload_n 0, 1) := by decide +kernel
theorem dX9_partings_93 : decode cX9_partings 93 = .ok (.getfield 7, 3) := by decide +kernel
theorem dX9_partings_96 : decode cX9_partings 96 = .ok (.bipush 54, 2) := by decide +kernel
theorem dX9_partings_98 : decode cX9_partings 98 = .ok (.iload 4, 2) := by decide +kernel
theorem dX9_partings_100 : decode cX9_partings 100 = .ok (.iadd, 1) := by decide +kernel
theorem dX9_partings_101 : decode cX9_partings 101 = .ok (.iaload, 1) := by decide +kernel
theorem dX9_partings_102 : decode cX9_partings 102 = .ok (.invokevirtual 178, 3) := by decide +kernel
theorem dX9_partings_105 : decode cX9_partings 105 = .ok (.aload_n 0, 1) := by decide +kernel
theorem dX9_partings_106 : decode cX9_partings 106 = .ok (.iconst 0, 1) := by decide +kernel
theorem dX9_partings_107 : decode cX9_partings 107 = .ok (.iload_n 3, 1) := by decide +kernel
theorem dX9_partings_108 : decode cX9_partings 108 = .ok (.aload_n 0, 1) := by decide +kernel
theorem dX9_partings_109 : decode cX9_partings 109 = .ok (.getfield 7, 3) := by decide +kernel
theorem dX9_partings_112 : decode cX9_partings 112 = .ok (.bipush 54, 2) := by decide +kernel
theorem dX9_partings_114 : decode cX9_partings 114 = .ok (.iload_n 3, 1) := by decide +kernel
theorem dX9_partings_115 : decode cX9_partings 115 = .ok (.iadd, 1) := by decide +kernel
theorem dX9_partings_116 : decode cX9_partings 116 = .ok (.iaload, 1) := by decide +kernel
theorem dX9_partings_117 : decode cX9_partings 117 = .ok (.invokevirtual 178, 3) := by decide +kernel
theorem dX9_partings_120 : decode cX9_partings 120 = .ok (.if_icmp .gt 7, 3) := by decide +kernel
theorem dX9_partings_123 : decode cX9_partings 123 = .ok (.iconst 1, 1) := by decide +kernel
theorem dX9_partings_124 : decode cX9_partings 124 = .ok (.goto 4, 3) := by decide +kernel
theorem dX9_partings_127 : decode cX9_partings 127 = .ok (.iconst 0, 1) := by decide +kernel
theorem dX9_partings_128 : decode cX9_partings 128 = .ok (.istore 5, 2) := by decide +kernel
theorem dX9_partings_130 : decode cX9_partings 130 = .ok (.aload_n 0, 1) := by decide +kernel
theorem dX9_partings_131 : decode cX9_partings 131 = .ok (.getfield 44, 3) := by decide +kernel
theorem dX9_partings_134 : decode cX9_partings 134 = .ok (.iload 5, 2) := by decide +kernel
theorem dX9_partings_136 : decode cX9_partings 136 = .ok (.ifCond .eq 12, 3) := by decide +kernel
theorem dX9_partings_139 : decode cX9_partings 139 = .ok (.iload_n 2, 1) := by decide +kernel
theorem dX9_partings_140 : decode cX9_partings 140 = .ok (.iconst 1, 1) := by decide +kernel
theorem dX9_partings_141 : decode cX9_partings 141 = .ok (.iload 4, 2) := by decide +kernel
theorem dX9_partings_143 : decode cX9_partings 143 = .ok (.ishl, 1) := by decide +kernel
theorem dX9_partings_144 : decode cX9_partings 144 = .ok (.ior, 1) := by decide +kernel
theorem dX9_partings_145 : decode cX9_partings 145 = .ok (.goto 4, 3) := by decide +kernel
theorem dX9_partings_148 : decode cX9_partings 148 = .ok (.iconst 0, 1) := by decide +kernel
theorem dX9_partings_149 : decode cX9_partings 149 = .ok (.dup2, 1) := by decide +kernel
theorem dX9_partings_150 : decode cX9_partings 150 = .ok (.iaload, 1) := by decide +kernel
theorem dX9_partings_151 : decode cX9_partings 151 = .ok (.iload 5, 2) := by decide +kernel
theorem dX9_partings_153 : decode cX9_partings 153 = .ok (.ifCond .eq 12, 3) := by decide +kernel
theorem dX9_partings_156 : decode cX9_partings 156 = .ok (.aload_n 0, 1) := by decide +kernel
theorem dX9_partings_157 : decode cX9_partings 157 = .ok (.getfield 44, 3) := by decide +kernel
theorem dX9_partings_160 : decode cX9_partings 160 = .ok (.iload_n 2, 1) := by decide +kernel
theorem dX9_partings_161 : decode cX9_partings 161 = .ok (.iaload, 1) := by decide +kernel
theorem dX9_partings_162 : decode cX9_partings 162 = .ok (.goto 4, 3) := by decide +kernel
theorem dX9_partings_165 : decode cX9_partings 165 = .ok (.iconst 0, 1) := by decide +kernel
theorem dX9_partings_166 : decode cX9_partings 166 = .ok (.iadd, 1) := by decide +kernel
theorem dX9_partings_167 : decode cX9_partings 167 = .ok (.iastore, 1) := by decide +kernel
theorem dX9_partings_168 : decode cX9_partings 168 = .ok (.iinc 4 1, 3) := by decide +kernel
theorem dX9_partings_171 : decode cX9_partings 171 = .ok (.goto (-123), 3) := by decide +kernel
theorem dX9_partings_174 : decode cX9_partings 174 = .ok (.iinc 2 1, 3) := by decide +kernel
theorem dX9_partings_177 : decode cX9_partings 177 = .ok (.goto (-147), 3) := by decide +kernel
theorem dX9_partings_180 : decode cX9_partings 180 = .ok (.aload_n 0, 1) := by decide +kernel
theorem dX9_partings_181 : decode cX9_partings 181 = .ok (.getfield 44, 3) := by decide +kernel
theorem dX9_partings_184 : decode cX9_partings 184 = .ok (.iload_n 1, 1) := by decide +kernel
theorem dX9_partings_185 : decode cX9_partings 185 = .ok (.iaload, 1) := by decide +kernel
theorem dX9_partings_186 : decode cX9_partings 186 = .ok (.ireturn, 1) := by decide +kernel
theorem dX9_personAt_0 : decode cX9_personAt 0 = .ok (.iload_n 1, 1) := by decide +kernel
theorem dX9_personAt_1 : decode cX9_personAt 1 = .ok (.istore_n 2, 1) := by decide +kernel
theorem dX9_personAt_2 : decode cX9_personAt 2 = .ok (.iconst 0, 1) := by decide +kernel
theorem dX9_personAt_3 : decode cX9_personAt 3 = .ok (.istore_n 3, 1) := by decide +kernel
theorem dX9_personAt_4 : decode cX9_personAt 4 = .ok (.iload_n 3, 1) := by decide +kernel
theorem dX9_personAt_5 : decode cX9_personAt 5 = .ok (.bipush 6, 2) := by decide +kernel
theorem dX9_personAt_7 : decode cX9_personAt 7 = .ok (.if_icmp .ge 26, 3) := by decide +kernel
theorem dX9_personAt_10 : decode cX9_personAt 10 = .ok (.iload_n 0, 1) := by decide +kernel
theorem dX9_personAt_11 : decode cX9_personAt 11 = .ok (.iload_n 3, 1) := by decide +kernel
theorem dX9_personAt_12 : decode cX9_personAt 12 = .ok (.invokestatic 134, 3) := by decide +kernel
theorem dX9_personAt_15 : decode cX9_personAt 15 = .ok (.ifCond .eq 12, 3) := by decide +kernel
theorem dX9_personAt_18 : decode cX9_personAt 18 = .ok (.iload_n 2, 1) := by decide +kernel
theorem dX9_personAt_19 : decode cX9_personAt 19 = .ok (.ifCond .ne 5, 3) := by decide +kernel
theorem dX9_personAt_22 : decode cX9_personAt 22 = .ok (.iload_n 3, 1) := by decide +kernel
theorem dX9_personAt_23 : decode cX9_personAt 23 = .ok (.ireturn, 1) := by decide +kernel
theorem dX9_personAt_24 : decode cX9_personAt 24 = .ok (.iinc 2 (-1), 3) := by decide +kernel
theorem dX9_personAt_27 : decode cX9_personAt 27 = .ok (.iinc 3 1, 3) := by decide +kernel
theorem dX9_personAt_30 : decode cX9_personAt 30 = .ok (.goto (-26), 3) := by decide +kernel
theorem dX9_personAt_33 : decode cX9_personAt 33 = .ok (.iconst (-1), 1) := by decide +kernel
theorem dX9_personAt_34 : decode cX9_personAt 34 = .ok (.ireturn, 1) := by decide +kernel
theorem dX9_sitters_0 : decode cX9_sitters 0 = .ok (.iconst 0, 1) := by decide +kernel
theorem dX9_sitters_1 : decode cX9_sitters 1 = .ok (.istore_n 1, 1) := by decide +kernel
theorem dX9_sitters_2 : decode cX9_sitters 2 = .ok (.iconst 0, 1) := by decide +kernel
theorem dX9_sitters_3 : decode cX9_sitters 3 = .ok (.istore_n 2, 1) := by decide +kernel
