theorem d_Mo_offer_67 : decode c_Mo_offer 67 = .ok (.istore 4, 2) := by decide +kernel
theorem d_Mo_offer_69 : decode c_Mo_offer 69 = .ok (.iload 4, 2) := by decide +kernel
theorem d_Mo_offer_71 : decode c_Mo_offer 71 = .ok (.aload_n 0, 1) := by decide +kernel
theorem d_Mo_offer_72 : decode c_Mo_offer 72 = .ok (.getfield 91, 3) := by decide +kernel
theorem d_Mo_offer_75 : decode c_Mo_offer 75 = .ok (.if_icmp .ge 26, 3) := by decide +kernel
theorem d_Mo_offer_78 : decode c_Mo_offer 78 = .ok (.aload_n 0, 1) := by decide +kernel
theorem d_Mo_offer_79 : decode c_Mo_offer 79 = .ok (.getfield 51, 3) := by decide +kernel
theorem d_Mo_offer_82 : decode c_Mo_offer 82 = .ok (.iload 4, 2) := by decide +kernel
theorem d_Mo_offer_84 : decode c_Mo_offer 84 = .ok (.iaload, 1) := by decide +kernel
theorem d_Mo_offer_85 : decode c_Mo_offer 85 = .ok (.aload_n 0, 1) := by decide +kernel
theorem d_Mo_offer_86 : decode c_Mo_offer 86 = .ok (.getfield 69, 3) := by decide +kernel
theorem d_Mo_offer_89 : decode c_Mo_offer 89 = .ok (.iload 4, 2) := by decide +kernel
theorem d_Mo_offer_91 : decode c_Mo_offer 91 = .ok (.iaload, 1) := by decide +kernel
theorem d_Mo_offer_92 : decode c_Mo_offer 92 = .ok (.if_icmp .ne 9, 3) := by decide +kernel
theorem d_Mo_offer_95 : decode c_Mo_offer 95 = .ok (.iinc 4 1, 3) := by decide +kernel
theorem d_Mo_offer_98 : decode c_Mo_offer 98 = .ok (.goto (-29), 3) := by decide +kernel
theorem d_Mo_offer_101 : decode c_Mo_offer 101 = .ok (.iload 4, 2) := by decide +kernel
theorem d_Mo_offer_103 : decode c_Mo_offer 103 = .ok (.aload_n 0, 1) := by decide +kernel
theorem d_Mo_offer_104 : decode c_Mo_offer 104 = .ok (.getfield 91, 3) := by decide +kernel
theorem d_Mo_offer_107 : decode c_Mo_offer 107 = .ok (.if_icmp .ge 24, 3) := by decide +kernel
theorem d_Mo_offer_110 : decode c_Mo_offer 110 = .ok (.aload_n 0, 1) := by decide +kernel
theorem d_Mo_offer_111 : decode c_Mo_offer 111 = .ok (.getfield 51, 3) := by decide +kernel
theorem d_Mo_offer_114 : decode c_Mo_offer 114 = .ok (.iload 4, 2) := by decide +kernel
theorem d_Mo_offer_116 : decode c_Mo_offer 116 = .ok (.iaload, 1) := by decide +kernel
theorem d_Mo_offer_117 : decode c_Mo_offer 117 = .ok (.aload_n 0, 1) := by decide +kernel
theorem d_Mo_offer_118 : decode c_Mo_offer 118 = .ok (.getfield 69, 3) := by decide +kernel
theorem d_Mo_offer_121 : decode c_Mo_offer 121 = .ok (.iload 4, 2) := by decide +kernel
theorem d_Mo_offer_123 : decode c_Mo_offer 123 = .ok (.iaload, 1) := by decide +kernel
theorem d_Mo_offer_124 : decode c_Mo_offer 124 = .ok (.if_icmp .ge 7, 3) := by decide +kernel
theorem d_Mo_offer_127 : decode c_Mo_offer 127 = .ok (.iconst 1, 1) := by decide +kernel
theorem d_Mo_offer_128 : decode c_Mo_offer 128 = .ok (.goto 4, 3) := by decide +kernel
theorem d_Mo_offer_131 : decode c_Mo_offer 131 = .ok (.iconst 0, 1) := by decide +kernel
theorem d_Mo_offer_132 : decode c_Mo_offer 132 = .ok (.istore_n 3, 1) := by decide +kernel
theorem d_Mo_offer_133 : decode c_Mo_offer 133 = .ok (.iload_n 3, 1) := by decide +kernel
theorem d_Mo_offer_134 : decode c_Mo_offer 134 = .ok (.ifCond .eq 45, 3) := by decide +kernel
theorem d_Mo_offer_137 : decode c_Mo_offer 137 = .ok (.aload_n 0, 1) := by decide +kernel
theorem d_Mo_offer_138 : decode c_Mo_offer 138 = .ok (.iload_n 1, 1) := by decide +kernel
theorem d_Mo_offer_139 : decode c_Mo_offer 139 = .ok (.putfield 223, 3) := by decide +kernel
theorem d_Mo_offer_142 : decode c_Mo_offer 142 = .ok (.aload_n 0, 1) := by decide +kernel
theorem d_Mo_offer_143 : decode c_Mo_offer 143 = .ok (.iload_n 2, 1) := by decide +kernel
theorem d_Mo_offer_144 : decode c_Mo_offer 144 = .ok (.putfield 220, 3) := by decide +kernel
theorem d_Mo_offer_147 : decode c_Mo_offer 147 = .ok (.iconst 0, 1) := by decide +kernel
theorem d_Mo_offer_148 : decode c_Mo_offer 148 = .ok (.istore 4, 2) := by decide +kernel
theorem d_Mo_offer_150 : decode c_Mo_offer 150 = .ok (.iload 4, 2) := by decide +kernel
theorem d_Mo_offer_152 : decode c_Mo_offer 152 = .ok (.aload_n 0, 1) := by decide +kernel
theorem d_Mo_offer_153 : decode c_Mo_offer 153 = .ok (.getfield 91, 3) := by decide +kernel
theorem d_Mo_offer_156 : decode c_Mo_offer 156 = .ok (.if_icmp .ge 23, 3) := by decide +kernel
theorem d_Mo_offer_159 : decode c_Mo_offer 159 = .ok (.aload_n 0, 1) := by decide +kernel
theorem d_Mo_offer_160 : decode c_Mo_offer 160 = .ok (.getfield 69, 3) := by decide +kernel
theorem d_Mo_offer_163 : decode c_Mo_offer 163 = .ok (.iload 4, 2) := by decide +kernel
theorem d_Mo_offer_165 : decode c_Mo_offer 165 = .ok (.aload_n 0, 1) := by decide +kernel
theorem d_Mo_offer_166 : decode c_Mo_offer 166 = .ok (.getfield 51, 3) := by decide +kernel
theorem d_Mo_offer_169 : decode c_Mo_offer 169 = .ok (.iload 4, 2) := by decide +kernel
theorem d_Mo_offer_171 : decode c_Mo_offer 171 = .ok (.iaload, 1) := by decide +kernel
theorem d_Mo_offer_172 : decode c_Mo_offer 172 = .ok (.iastore, 1) := by decide +kernel
theorem d_Mo_offer_173 : decode c_Mo_offer 173 = .ok (.iinc 4 1, 3) := by decide +kernel
theorem d_Mo_offer_176 : decode c_Mo_offer 176 = .ok (.goto (-26), 3) := by decide +kernel
theorem d_Mo_offer_179 : decode c_Mo_offer 179 = .ok (.return_, 1) := by decide +kernel
theorem d_Mo_move_0 : decode c_Mo_move 0 = .ok (.aload_n 0, 1) := by decide +kernel
theorem d_Mo_move_1 : decode c_Mo_move 1 = .ok (.iload_n 3, 1) := by decide +kernel
theorem d_Mo_move_2 : decode c_Mo_move 2 = .ok (.iload 4, 2) := by decide +kernel
theorem d_Mo_move_4 : decode c_Mo_move 4 = .ok (.invokevirtual 226, 3) := by decide +kernel
theorem d_Mo_move_7 : decode c_Mo_move 7 = .ok (.iload_n 2, 1) := by decide +kernel
theorem d_Mo_move_8 : decode c_Mo_move 8 = .ok (.istore 5, 2) := by decide +kernel
theorem d_Mo_move_10 : decode c_Mo_move 10 = .ok (.iload 5, 2) := by decide +kernel
theorem d_Mo_move_12 : decode c_Mo_move 12 = .ok (.aload_n 0, 1) := by decide +kernel
theorem d_Mo_move_13 : decode c_Mo_move 13 = .ok (.getfield 91, 3) := by decide +kernel
theorem d_Mo_move_16 : decode c_Mo_move 16 = .ok (.if_icmp .ge 89, 3) := by decide +kernel
theorem d_Mo_move_19 : decode c_Mo_move 19 = .ok (.iload_n 1, 1) := by decide +kernel
theorem d_Mo_move_20 : decode c_Mo_move 20 = .ok (.ifCond .le 85, 3) := by decide +kernel
theorem d_Mo_move_23 : decode c_Mo_move 23 = .ok (.aload_n 0, 1) := by decide +kernel
theorem d_Mo_move_24 : decode c_Mo_move 24 = .ok (.getfield 51, 3) := by decide +kernel
theorem d_Mo_move_27 : decode c_Mo_move 27 = .ok (.iload 5, 2) := by decide +kernel
theorem d_Mo_move_29 : decode c_Mo_move 29 = .ok (.iaload, 1) := by decide +kernel
theorem d_Mo_move_30 : decode c_Mo_move 30 = .ok (.istore 6, 2) := by decide +kernel
theorem d_Mo_move_32 : decode c_Mo_move 32 = .ok (.iconst 0, 1) := by decide +kernel
theorem d_Mo_move_33 : decode c_Mo_move 33 = .ok (.istore 7, 2) := by decide +kernel
theorem d_Mo_move_35 : decode c_Mo_move 35 = .ok (.iload 7, 2) := by decide +kernel
theorem d_Mo_move_37 : decode c_Mo_move 37 = .ok (.aload_n 0, 1) := by decide +kernel
theorem d_Mo_move_38 : decode c_Mo_move 38 = .ok (.getfield 34, 3) := by decide +kernel
theorem d_Mo_move_41 : decode c_Mo_move 41 = .ok (.if_icmp .ge 49, 3) := by decide +kernel
theorem d_Mo_move_44 : decode c_Mo_move 44 = .ok (.iload 7, 2) := by decide +kernel
theorem d_Mo_move_46 : decode c_Mo_move 46 = .ok (.iload 6, 2) := by decide +kernel
theorem d_Mo_move_48 : decode c_Mo_move 48 = .ok (.if_icmp .eq 36, 3) := by decide +kernel
theorem d_Mo_move_51 : decode c_Mo_move 51 = .ok (.aload_n 0, 1) := by decide +kernel
theorem d_Mo_move_52 : decode c_Mo_move 52 = .ok (.getfield 51, 3) := by decide +kernel
theorem d_Mo_move_55 : decode c_Mo_move 55 = .ok (.iload 5, 2) := by decide +kernel
theorem d_Mo_move_57 : decode c_Mo_move 57 = .ok (.iload 7, 2) := by decide +kernel
theorem d_Mo_move_59 : decode c_Mo_move 59 = .ok (.iastore, 1) := by decide +kernel
theorem d_Mo_move_60 : decode c_Mo_move 60 = .ok (.aload_n 0, 1) := by decide +kernel
theorem d_Mo_move_61 : decode c_Mo_move 61 = .ok (.iload_n 1, 1) := by decide +kernel
theorem d_Mo_move_62 : decode c_Mo_move 62 = .ok (.iconst 1, 1) := by decide +kernel
theorem d_Mo_move_63 : decode c_Mo_move 63 = .ok (.isub, 1) := by decide +kernel
theorem d_Mo_move_64 : decode c_Mo_move 64 = .ok (.iload 5, 2) := by decide +kernel
theorem d_Mo_move_66 : decode c_Mo_move 66 = .ok (.iconst 1, 1) := by decide +kernel
theorem d_Mo_move_67 : decode c_Mo_move 67 = .ok (.iadd, 1) := by decide +kernel
theorem d_Mo_move_68 : decode c_Mo_move 68 = .ok (.iload_n 3, 1) := by decide +kernel
theorem d_Mo_move_69 : decode c_Mo_move 69 = .ok (.aload_n 0, 1) := by decide +kernel
theorem d_Mo_move_70 : decode c_Mo_move 70 = .ok (.getfield 9, 3) := by decide +kernel
theorem d_Mo_move_73 : decode c_Mo_move 73 = .ok (.iload 5, 2) := by decide +kernel
theorem d_Mo_move_75 : decode c_Mo_move 75 = .ok (.iaload, 1) := by decide +kernel
theorem d_Mo_move_76 : decode c_Mo_move 76 = .ok (.iadd, 1) := by decide +kernel
theorem d_Mo_move_77 : decode c_Mo_move 77 = .ok (.iload 4, 2) := by decide +kernel
theorem d_Mo_move_79 : decode c_Mo_move 79 = .ok (.iconst 1, 1) := by decide +kernel
theorem d_Mo_move_80 : decode c_Mo_move 80 = .ok (.iadd, 1) := by decide +kernel
theorem d_Mo_move_81 : decode c_Mo_move 81 = .ok (.invokevirtual 229, 3) := by decide +kernel
theorem d_Mo_move_84 : decode c_Mo_move 84 = .ok (.iinc 7 1, 3) := by decide +kernel
theorem d_Mo_move_87 : decode c_Mo_move 87 = .ok (.goto (-52), 3) := by decide +kernel
theorem d_Mo_move_90 : decode c_Mo_move 90 = .ok (.aload_n 0, 1) := by decide +kernel
theorem d_Mo_move_91 : decode c_Mo_move 91 = .ok (.getfield 51, 3) := by decide +kernel
theorem d_Mo_move_94 : decode c_Mo_move 94 = .ok (.iload 5, 2) := by decide +kernel
theorem d_Mo_move_96 : decode c_Mo_move 96 = .ok (.iload 6, 2) := by decide +kernel
theorem d_Mo_move_98 : decode c_Mo_move 98 = .ok (.iastore, 1) := by decide +kernel
theorem d_Mo_move_99 : decode c_Mo_move 99 = .ok (.iinc 5 1, 3) := by decide +kernel
theorem d_Mo_move_102 : decode c_Mo_move 102 = .ok (.goto (-92), 3) := by decide +kernel
theorem d_Mo_move_105 : decode c_Mo_move 105 = .ok (.return_, 1) := by decide +kernel
theorem d_Mo_mend_0 : decode c_Mo_mend 0 = .ok (.iload_n 1, 1) := by decide +kernel
theorem d_Mo_mend_1 : decode c_Mo_mend 1 = .ok (.iconst 0, 1) := by decide +kernel
theorem d_Mo_mend_2 : decode c_Mo_mend 2 = .ok (.iconst 2, 1) := by decide +kernel
theorem d_Mo_mend_3 : decode c_Mo_mend 3 = .ok (.invokestatic 87, 3) := by decide +kernel
theorem d_Mo_mend_6 : decode c_Mo_mend 6 = .ok (.ifCond .ne 5, 3) := by decide +kernel
theorem d_Mo_mend_9 : decode c_Mo_mend 9 = .ok (.iconst (-1), 1) := by decide +kernel
theorem d_Mo_mend_10 : decode c_Mo_mend 10 = .ok (.ireturn, 1) := by decide +kernel
theorem d_Mo_mend_11 : decode c_Mo_mend 11 = .ok (.aload_n 0, 1) := by decide +kernel
theorem d_Mo_mend_12 : decode c_Mo_mend 12 = .ok (.getfield 91, 3) := by decide +kernel
theorem d_Mo_mend_15 : decode c_Mo_mend 15 = .ok (.ifCond .ne 6, 3) := by decide +kernel
theorem d_Mo_mend_18 : decode c_Mo_mend 18 = .ok (.bipush (-5), 2) := by decide +kernel
theorem d_Mo_mend_20 : decode c_Mo_mend 20 = .ok (.ireturn, 1) := by decide +kernel
theorem d_Mo_mend_21 : decode c_Mo_mend 21 = .ok (.aload_n 0, 1) := by decide +kernel
theorem d_Mo_mend_22 : decode c_Mo_mend 22 = .ok (.iconst (-1), 1) := by decide +kernel
theorem d_Mo_mend_23 : decode c_Mo_mend 23 = .ok (.putfield 220, 3) := by decide +kernel
theorem d_Mo_mend_26 : decode c_Mo_mend 26 = .ok (.aload_n 0, 1) := by decide +kernel
theorem d_Mo_mend_27 : decode c_Mo_mend 27 = .ok (.iload_n 1, 1) := by decide +kernel
theorem d_Mo_mend_28 : decode c_Mo_mend 28 = .ok (.iconst 0, 1) := by decide +kernel
theorem d_Mo_mend_29 : decode c_Mo_mend 29 = .ok (.iconst 0, 1) := by decide +kernel
theorem d_Mo_mend_30 : decode c_Mo_mend 30 = .ok (.iconst 0, 1) := by decide +kernel
theorem d_Mo_mend_31 : decode c_Mo_mend 31 = .ok (.invokevirtual 229, 3) := by decide +kernel
theorem d_Mo_mend_34 : decode c_Mo_mend 34 = .ok (.aload_n 0, 1) := by decide +kernel
theorem d_Mo_mend_35 : decode c_Mo_mend 35 = .ok (.getfield 220, 3) := by decide +kernel
theorem d_Mo_mend_38 : decode c_Mo_mend 38 = .ok (.ifCond .ge 6, 3) := by decide +kernel
theorem d_Mo_mend_41 : decode c_Mo_mend 41 = .ok (.bipush (-6), 2) := by decide +kernel
theorem d_Mo_mend_43 : decode c_Mo_mend 43 = .ok (.ireturn, 1) := by decide +kernel
theorem d_Mo_mend_44 : decode c_Mo_mend 44 = .ok (.iconst 0, 1) := by decide +kernel
theorem d_Mo_mend_45 : decode c_Mo_mend 45 = .ok (.istore_n 2, 1) := by decide +kernel
theorem d_Mo_mend_46 : decode c_Mo_mend 46 = .ok (.iload_n 2, 1) := by decide +kernel
theorem d_Mo_mend_47 : decode c_Mo_mend 47 = .ok (.aload_n 0, 1) := by decide +kernel
theorem d_Mo_mend_48 : decode c_Mo_mend 48 = .ok (.getfield 91, 3) := by decide +kernel
theorem d_Mo_mend_51 : decode c_Mo_mend 51 = .ok (.if_icmp .ge 21, 3) := by decide +kernel
theorem d_Mo_mend_54 : decode c_Mo_mend 54 = .ok (.aload_n 0, 1) := by decide +kernel
theorem d_Mo_mend_55 : decode c_Mo_mend 55 = .ok (.getfield 51, 3) := by decide +kernel
theorem d_Mo_mend_58 : decode c_Mo_mend 58 = .ok (.iload_n 2, 1) := by decide +kernel
theorem d_Mo_mend_59 : decode c_Mo_mend 59 = .ok (.aload_n 0, 1) := by decide +kernel
theorem d_Mo_mend_60 : decode c_Mo_mend 60 = .ok (.getfield 69, 3) := by decide +kernel
theorem d_Mo_mend_63 : decode c_Mo_mend 63 = .ok (.iload_n 2, 1) := by decide +kernel
theorem d_Mo_mend_64 : decode c_Mo_mend 64 = .ok (.iaload, 1) := by decide +kernel
theorem d_Mo_mend_65 : decode c_Mo_mend 65 = .ok (.iastore, 1) := by decide +kernel
theorem d_Mo_mend_66 : decode c_Mo_mend 66 = .ok (.iinc 2 1, 3) := by decide +kernel
theorem d_Mo_mend_69 : decode c_Mo_mend 69 = .ok (.goto (-23), 3) := by decide +kernel
theorem d_Mo_mend_72 : decode c_Mo_mend 72 = .ok (.aload_n 0, 1) := by decide +kernel
theorem d_Mo_mend_73 : decode c_Mo_mend 73 = .ok (.getfield 223, 3) := by decide +kernel
theorem d_Mo_mend_76 : decode c_Mo_mend 76 = .ok (.ireturn, 1) := by decide +kernel
theorem d_Integer_compare_7cf53_0 : decode c_Integer_compare_7cf53 0 = .ok (.iload_n 0, 1) := by decide +kernel
theorem d_Integer_compare_7cf53_1 : decode c_Integer_compare_7cf53 1 = .ok (.iload_n 1, 1) := by decide +kernel
theorem d_Integer_compare_7cf53_2 : decode c_Integer_compare_7cf53 2 = .ok (.if_icmp .ge 7, 3) := by decide +kernel
theorem d_Integer_compare_7cf53_5 : decode c_Integer_compare_7cf53 5 = .ok (.iconst (-1), 1) := by decide +kernel
theorem d_Integer_compare_7cf53_6 : decode c_Integer_compare_7cf53 6 = .ok (.goto 13, 3) := by decide +kernel
theorem d_Integer_compare_7cf53_9 : decode c_Integer_compare_7cf53 9 = .ok (.iload_n 0, 1) := by decide +kernel
theorem d_Integer_compare_7cf53_10 : decode c_Integer_compare_7cf53 10 = .ok (.iload_n 1, 1) := by decide +kernel
theorem d_Integer_compare_7cf53_11 : decode c_Integer_compare_7cf53 11 = .ok (.if_icmp .ne 7, 3) := by decide +kernel
theorem d_Integer_compare_7cf53_14 : decode c_Integer_compare_7cf53 14 = .ok (.iconst 0, 1) := by decide +kernel
theorem d_Integer_compare_7cf53_15 : decode c_Integer_compare_7cf53 15 = .ok (.goto 4, 3) := by decide +kernel
theorem d_Integer_compare_7cf53_18 : decode c_Integer_compare_7cf53 18 = .ok (.iconst 1, 1) := by decide +kernel
theorem d_Integer_compare_7cf53_19 : decode c_Integer_compare_7cf53 19 = .ok (.ireturn, 1) := by decide +kernel
theorem d_Integer_bitCount_0f7a4_0 : decode c_Integer_bitCount_0f7a4 0 = .ok (.iload_n 0, 1) := by decide +kernel
theorem d_Integer_bitCount_0f7a4_1 : decode c_Integer_bitCount_0f7a4 1 = .ok (.iload_n 0, 1) := by decide +kernel
theorem d_Integer_bitCount_0f7a4_2 : decode c_Integer_bitCount_0f7a4 2 = .ok (.iconst 1, 1) := by decide +kernel
theorem d_Integer_bitCount_0f7a4_3 : decode c_Integer_bitCount_0f7a4 3 = .ok (.iushr, 1) := by decide +kernel
theorem d_Integer_bitCount_0f7a4_4 : decode c_Integer_bitCount_0f7a4 4 = .ok (.ldc_w 265, 3) := by decide +kernel
theorem d_Integer_bitCount_0f7a4_7 : decode c_Integer_bitCount_0f7a4 7 = .ok (.iand, 1) := by decide +kernel
theorem d_Integer_bitCount_0f7a4_8 : decode c_Integer_bitCount_0f7a4 8 = .ok (.isub, 1) := by decide +kernel
theorem d_Integer_bitCount_0f7a4_9 : decode c_Integer_bitCount_0f7a4 9 = .ok (.istore_n 0, 1) := by decide +kernel
theorem d_Integer_bitCount_0f7a4_10 : decode c_Integer_bitCount_0f7a4 10 = .ok (.iload_n 0, 1) := by decide +kernel
theorem d_Integer_bitCount_0f7a4_11 : decode c_Integer_bitCount_0f7a4 11 = .ok (.ldc_w 266, 3) := by decide +kernel
theorem d_Integer_bitCount_0f7a4_14 : decode c_Integer_bitCount_0f7a4 14 = .ok (.iand, 1) := by decide +kernel
theorem d_Integer_bitCount_0f7a4_15 : decode c_Integer_bitCount_0f7a4 15 = .ok (.iload_n 0, 1) := by decide +kernel
theorem d_Integer_bitCount_0f7a4_16 : decode c_Integer_bitCount_0f7a4 16 = .ok (.iconst 2, 1) := by decide +kernel
theorem d_Integer_bitCount_0f7a4_17 : decode c_Integer_bitCount_0f7a4 17 = .ok (.iushr, 1) := by decide +kernel
theorem d_Integer_bitCount_0f7a4_18 : decode c_Integer_bitCount_0f7a4 18 = .ok (.ldc_w 266, 3) := by decide +kernel
theorem d_Integer_bitCount_0f7a4_21 : decode c_Integer_bitCount_0f7a4 21 = .ok (.iand, 1) := by decide +kernel
theorem d_Integer_bitCount_0f7a4_22 : decode c_Integer_bitCount_0f7a4 22 = .ok (.iadd, 1) := by decide +kernel
theorem d_Integer_bitCount_0f7a4_23 : decode c_Integer_bitCount_0f7a4 23 = .ok (.istore_n 0, 1) := by decide +kernel
theorem d_Integer_bitCount_0f7a4_24 : decode c_Integer_bitCount_0f7a4 24 = .ok (.iload_n 0, 1) := by decide +kernel
theorem d_Integer_bitCount_0f7a4_25 : decode c_Integer_bitCount_0f7a4 25 = .ok (.iload_n 0, 1) := by decide +kernel
theorem d_Integer_bitCount_0f7a4_26 : decode c_Integer_bitCount_0f7a4 26 = .ok (.iconst 4, 1) := by decide +kernel
theorem d_Integer_bitCount_0f7a4_27 : decode c_Integer_bitCount_0f7a4 27 = .ok (.iushr, 1) := by decide +kernel
theorem d_Integer_bitCount_0f7a4_28 : decode c_Integer_bitCount_0f7a4 28 = .ok (.iadd, 1) := by decide +kernel
theorem d_Integer_bitCount_0f7a4_29 : decode c_Integer_bitCount_0f7a4 29 = .ok (.ldc_w 267, 3) := by decide +kernel
theorem d_Integer_bitCount_0f7a4_32 : decode c_Integer_bitCount_0f7a4 32 = .ok (.iand, 1) := by decide +kernel
theorem d_Integer_bitCount_0f7a4_33 : decode c_Integer_bitCount_0f7a4 33 = .ok (.istore_n 0, 1) := by decide +kernel
theorem d_Integer_bitCount_0f7a4_34 : decode c_Integer_bitCount_0f7a4 34 = .ok (.iload_n 0, 1) := by decide +kernel
theorem d_Integer_bitCount_0f7a4_35 : decode c_Integer_bitCount_0f7a4 35 = .ok (.iload_n 0, 1) := by decide +kernel
theorem d_Integer_bitCount_0f7a4_36 : decode c_Integer_bitCount_0f7a4 36 = .ok (.bipush 8, 2) := by decide +kernel
theorem d_Integer_bitCount_0f7a4_38 : decode c_Integer_bitCount_0f7a4 38 = .ok (.iushr, 1) := by decide +kernel
theorem d_Integer_bitCount_0f7a4_39 : decode c_Integer_bitCount_0f7a4 39 = .ok (.iadd, 1) := by decide +kernel
theorem d_Integer_bitCount_0f7a4_40 : decode c_Integer_bitCount_0f7a4 40 = .ok (.istore_n 0, 1) := by decide +kernel
theorem d_Integer_bitCount_0f7a4_41 : decode c_Integer_bitCount_0f7a4 41 = .ok (.iload_n 0, 1) := by decide +kernel
theorem d_Integer_bitCount_0f7a4_42 : decode c_Integer_bitCount_0f7a4 42 = .ok (.iload_n 0, 1) := by decide +kernel
theorem d_Integer_bitCount_0f7a4_43 : decode c_Integer_bitCount_0f7a4 43 = .ok (.bipush 16, 2) := by decide +kernel
theorem d_Integer_bitCount_0f7a4_45 : decode c_Integer_bitCount_0f7a4 45 = .ok (.iushr, 1) := by decide +kernel
theorem d_Integer_bitCount_0f7a4_46 : decode c_Integer_bitCount_0f7a4 46 = .ok (.iadd, 1) := by decide +kernel
theorem d_Integer_bitCount_0f7a4_47 : decode c_Integer_bitCount_0f7a4 47 = .ok (.istore_n 0, 1) := by decide +kernel
theorem d_Integer_bitCount_0f7a4_48 : decode c_Integer_bitCount_0f7a4 48 = .ok (.iload_n 0, 1) := by decide +kernel
theorem d_Integer_bitCount_0f7a4_49 : decode c_Integer_bitCount_0f7a4 49 = .ok (.bipush 63, 2) := by decide +kernel
theorem d_Integer_bitCount_0f7a4_51 : decode c_Integer_bitCount_0f7a4 51 = .ok (.iand, 1) := by decide +kernel
theorem d_Integer_bitCount_0f7a4_52 : decode c_Integer_bitCount_0f7a4 52 = .ok (.ireturn, 1) := by decide +kernel
theorem d_Math_abs_0f7a4_0 : decode c_Math_abs_0f7a4 0 = .ok (.iload_n 0, 1) := by decide +kernel
theorem d_Math_abs_0f7a4_1 : decode c_Math_abs_0f7a4 1 = .ok (.ifCond .ge 8, 3) := by decide +kernel
theorem d_Math_abs_0f7a4_4 : decode c_Math_abs_0f7a4 4 = .ok (.iload_n 0, 1) := by decide +kernel
theorem d_Math_abs_0f7a4_5 : decode c_Math_abs_0f7a4 5 = .ok (.ineg, 1) := by decide +kernel
theorem d_Math_abs_0f7a4_6 : decode c_Math_abs_0f7a4 6 = .ok (.goto 4, 3) := by decide +kernel
theorem d_Math_abs_0f7a4_9 : decode c_Math_abs_0f7a4 9 = .ok (.iload_n 0, 1) := by decide +kernel
theorem d_Math_abs_0f7a4_10 : decode c_Math_abs_0f7a4 10 = .ok (.ireturn, 1) := by decide +kernel
theorem d_Math_max_7cf53_0 : decode c_Math_max_7cf53 0 = .ok (.iload_n 0, 1) := by decide +kernel
theorem d_Math_max_7cf53_1 : decode c_Math_max_7cf53 1 = .ok (.iload_n 1, 1) := by decide +kernel
theorem d_Math_max_7cf53_2 : decode c_Math_max_7cf53 2 = .ok (.if_icmp .lt 7, 3) := by decide +kernel
theorem d_Math_max_7cf53_5 : decode c_Math_max_7cf53 5 = .ok (.iload_n 0, 1) := by decide +kernel
theorem d_Math_max_7cf53_6 : decode c_Math_max_7cf53 6 = .ok (.goto 4, 3) := by decide +kernel
theorem d_Math_max_7cf53_9 : decode c_Math_max_7cf53 9 = .ok (.iload_n 1, 1) := by decide +kernel
theorem d_Math_max_7cf53_10 : decode c_Math_max_7cf53 10 = .ok (.ireturn, 1) := by decide +kernel
theorem d_Math_min_7cf53_0 : decode c_Math_min_7cf53 0 = .ok (.iload_n 0, 1) := by decide +kernel
theorem d_Math_min_7cf53_1 : decode c_Math_min_7cf53 1 = .ok (.iload_n 1, 1) := by decide +kernel
theorem d_Math_min_7cf53_2 : decode c_Math_min_7cf53 2 = .ok (.if_icmp .gt 7, 3) := by decide +kernel
theorem d_Math_min_7cf53_5 : decode c_Math_min_7cf53 5 = .ok (.iload_n 0, 1) := by decide +kernel
theorem d_Math_min_7cf53_6 : decode c_Math_min_7cf53 6 = .ok (.goto 4, 3) := by decide +kernel
theorem d_Math_min_7cf53_9 : decode c_Math_min_7cf53 9 = .ok (.iload_n 1, 1) := by decide +kernel
theorem d_Math_min_7cf53_10 : decode c_Math_min_7cf53 10 = .ok (.ireturn, 1) := by decide +kernel
theorem d_Arrays_fill_53178_0 : decode c_Arrays_fill_53178 0 = .ok (.iconst 0, 1) := by decide +kernel
theorem d_Arrays_fill_53178_1 : decode c_Arrays_fill_53178 1 = .ok (.istore_n 2, 1) := by decide +kernel
theorem d_Arrays_fill_53178_2 : decode c_Arrays_fill_53178 2 = .ok (.aload_n 0, 1) := by decide +kernel
theorem d_Arrays_fill_53178_3 : decode c_Arrays_fill_53178 3 = .ok (.arraylength, 1) := by decide +kernel
theorem d_Arrays_fill_53178_4 : decode c_Arrays_fill_53178 4 = .ok (.istore_n 3, 1) := by decide +kernel
theorem d_Arrays_fill_53178_5 : decode c_Arrays_fill_53178 5 = .ok (.iload_n 2, 1) := by decide +kernel
theorem d_Arrays_fill_53178_6 : decode c_Arrays_fill_53178 6 = .ok (.iload_n 3, 1) := by decide +kernel
theorem d_Arrays_fill_53178_7 : decode c_Arrays_fill_53178 7 = .ok (.if_icmp .ge 13, 3) := by decide +kernel
theorem d_Arrays_fill_53178_10 : decode c_Arrays_fill_53178 10 = .ok (.aload_n 0, 1) := by decide +kernel
theorem d_Arrays_fill_53178_11 : decode c_Arrays_fill_53178 11 = .ok (.iload_n 2, 1) := by decide +kernel
theorem d_Arrays_fill_53178_12 : decode c_Arrays_fill_53178 12 = .ok (.iload_n 1, 1) := by decide +kernel
theorem d_Arrays_fill_53178_13 : decode c_Arrays_fill_53178 13 = .ok (.iastore, 1) := by decide +kernel
theorem d_Arrays_fill_53178_14 : decode c_Arrays_fill_53178 14 = .ok (.iinc 2 1, 3) := by decide +kernel
theorem d_Arrays_fill_53178_17 : decode c_Arrays_fill_53178 17 = .ok (.goto (-12), 3) := by decide +kernel
theorem d_Arrays_fill_53178_20 : decode c_Arrays_fill_53178 20 = .ok (.return_, 1) := by decide +kernel
theorem d_L_law_0 : decode c_L_law 0 = .ok (.new 7, 3) := by decide +kernel
theorem d_L_law_3 : decode c_L_law 3 = .ok (.dup, 1) := by decide +kernel
theorem d_L_law_4 : decode c_L_law 4 = .ok (.invokespecial 9, 3) := by decide +kernel
theorem d_L_law_7 : decode c_L_law 7 = .ok (.astore_n 1, 1) := by decide +kernel
theorem d_L_law_8 : decode c_L_law 8 = .ok (.new 10, 3) := by decide +kernel
theorem d_L_law_11 : decode c_L_law 11 = .ok (.dup, 1) := by decide +kernel
theorem d_L_law_12 : decode c_L_law 12 = .ok (.invokespecial 12, 3) := by decide +kernel
theorem d_L_law_15 : decode c_L_law 15 = .ok (.astore_n 2, 1) := by decide +kernel
theorem d_L_law_16 : decode c_L_law 16 = .ok (.iconst 0, 1) := by decide +kernel
theorem d_L_law_17 : decode c_L_law 17 = .ok (.istore_n 3, 1) := by decide +kernel
theorem d_L_law_18 : decode c_L_law 18 = .ok (.iload_n 3, 1) := by decide +kernel
theorem d_L_law_19 : decode c_L_law 19 = .ok (.aload_n 0, 1) := by decide +kernel
theorem d_L_law_20 : decode c_L_law 20 = .ok (.arraylength, 1) := by decide +kernel
theorem d_L_law_21 : decode c_L_law 21 = .ok (.bipush 6, 2) := by decide +kernel
theorem d_L_law_23 : decode c_L_law 23 = .ok (.isub, 1) := by decide +kernel
theorem d_L_law_24 : decode c_L_law 24 = .ok (.if_icmp .gt 815, 3) := by decide +kernel
theorem d_L_law_27 : decode c_L_law 27 = .ok (.aload_n 0, 1) := by decide +kernel
theorem d_L_law_28 : decode c_L_law 28 = .ok (.iload_n 3, 1) := by decide +kernel
theorem d_L_law_29 : decode c_L_law 29 = .ok (.iaload, 1) := by decide +kernel
theorem d_L_law_30 : decode c_L_law 30 = .ok (.bipush 31, 2) := by decide +kernel
theorem d_L_law_32 : decode c_L_law 32 = .ok (.iand, 1) := by decide +kernel
theorem d_L_law_33 : decode c_L_law 33 = .ok (.tableswitch 800 0 24 #[115, 178, 221, 254, 287, 310, 343, 376, 409, 432, 445, 468, 491, 524, 547, 560, 583, 596, 619, 642, 675, 698, 741, 764, 777], 115) := by decide +kernel
theorem d_L_law_148 : decode c_L_law 148 = .ok (.aload_n 1, 1) := by decide +kernel
theorem d_L_law_149 : decode c_L_law 149 = .ok (.aload_n 0, 1) := by decide +kernel
theorem d_L_law_150 : decode c_L_law 150 = .ok (.iload_n 3, 1) := by decide +kernel
theorem d_L_law_151 : decode c_L_law 151 = .ok (.iconst 1, 1) := by decide +kernel
theorem d_L_law_152 : decode c_L_law 152 = .ok (.iadd, 1) := by decide +kernel
theorem d_L_law_153 : decode c_L_law 153 = .ok (.iaload, 1) := by decide +kernel
theorem d_L_law_154 : decode c_L_law 154 = .ok (.aload_n 0, 1) := by decide +kernel
theorem d_L_law_155 : decode c_L_law 155 = .ok (.iload_n 3, 1) := by decide +kernel
theorem d_L_law_156 : decode c_L_law 156 = .ok (.iconst 2, 1) := by decide +kernel
theorem d_L_law_157 : decode c_L_law 157 = .ok (.iadd, 1) := by decide +kernel
theorem d_L_law_158 : decode c_L_law 158 = .ok (.iaload, 1) := by decide +kernel
theorem d_L_law_159 : decode c_L_law 159 = .ok (.aload_n 0, 1) := by decide +kernel
theorem d_L_law_160 : decode c_L_law 160 = .ok (.iload_n 3, 1) := by decide +kernel
theorem d_L_law_161 : decode c_L_law 161 = .ok (.iconst 3, 1) := by decide +kernel
theorem d_L_law_162 : decode c_L_law 162 = .ok (.iadd, 1) := by decide +kernel
theorem d_L_law_163 : decode c_L_law 163 = .ok (.iaload, 1) := by decide +kernel
theorem d_L_law_164 : decode c_L_law 164 = .ok (.aload_n 0, 1) := by decide +kernel
theorem d_L_law_165 : decode c_L_law 165 = .ok (.iload_n 3, 1) := by decide +kernel
theorem d_L_law_166 : decode c_L_law 166 = .ok (.iconst 4, 1) := by decide +kernel
theorem d_L_law_167 : decode c_L_law 167 = .ok (.iadd, 1) := by decide +kernel
theorem d_L_law_168 : decode c_L_law 168 = .ok (.iaload, 1) := by decide +kernel
theorem d_L_law_169 : decode c_L_law 169 = .ok (.aload_n 0, 1) := by decide +kernel
theorem d_L_law_170 : decode c_L_law 170 = .ok (.iload_n 3, 1) := by decide +kernel
theorem d_L_law_171 : decode c_L_law 171 = .ok (.iconst 5, 1) := by decide +kernel
theorem d_L_law_172 : decode c_L_law 172 = .ok (.iadd, 1) := by decide +kernel
theorem d_L_law_173 : decode c_L_law 173 = .ok (.iaload, 1) := by decide +kernel
theorem d_L_law_174 : decode c_L_law 174 = .ok (.invokevirtual 13, 3) := by decide +kernel
theorem d_L_law_177 : decode c_L_law 177 = .ok (.aload_n 2, 1) := by decide +kernel
theorem d_L_law_178 : decode c_L_law 178 = .ok (.aload_n 0, 1) := by decide +kernel
theorem d_L_law_179 : decode c_L_law 179 = .ok (.iload_n 3, 1) := by decide +kernel
theorem d_L_law_180 : decode c_L_law 180 = .ok (.iconst 1, 1) := by decide +kernel
theorem d_L_law_181 : decode c_L_law 181 = .ok (.iadd, 1) := by decide +kernel
theorem d_L_law_182 : decode c_L_law 182 = .ok (.iaload, 1) := by decide +kernel
theorem d_L_law_183 : decode c_L_law 183 = .ok (.aload_n 0, 1) := by decide +kernel
theorem d_L_law_184 : decode c_L_law 184 = .ok (.iload_n 3, 1) := by decide +kernel
theorem d_L_law_185 : decode c_L_law 185 = .ok (.iconst 2, 1) := by decide +kernel
theorem d_L_law_186 : decode c_L_law 186 = .ok (.iadd, 1) := by decide +kernel
theorem d_L_law_187 : decode c_L_law 187 = .ok (.iaload, 1) := by decide +kernel
theorem d_L_law_188 : decode c_L_law 188 = .ok (.aload_n 0, 1) := by decide +kernel
theorem d_L_law_189 : decode c_L_law 189 = .ok (.iload_n 3, 1) := by decide +kernel
theorem d_L_law_190 : decode c_L_law 190 = .ok (.iconst 3, 1) := by decide +kernel
theorem d_L_law_191 : decode c_L_law 191 = .ok (.iadd, 1) := by decide +kernel
theorem d_L_law_192 : decode c_L_law 192 = .ok (.iaload, 1) := by decide +kernel
theorem d_L_law_193 : decode c_L_law 193 = .ok (.aload_n 0, 1) := by decide +kernel
theorem d_L_law_194 : decode c_L_law 194 = .ok (.iload_n 3, 1) := by decide +kernel
theorem d_L_law_195 : decode c_L_law 195 = .ok (.iconst 4, 1) := by decide +kernel
theorem d_L_law_196 : decode c_L_law 196 = .ok (.iadd, 1) := by decide +kernel
theorem d_L_law_197 : decode c_L_law 197 = .ok (.iaload, 1) := by decide +kernel
theorem d_L_law_198 : decode c_L_law 198 = .ok (.aload_n 0, 1) := by decide +kernel
theorem d_L_law_199 : decode c_L_law 199 = .ok (.iload_n 3, 1) := by decide +kernel
theorem d_L_law_200 : decode c_L_law 200 = .ok (.iconst 5, 1) := by decide +kernel
theorem d_L_law_201 : decode c_L_law 201 = .ok (.iadd, 1) := by decide +kernel
theorem d_L_law_202 : decode c_L_law 202 = .ok (.iaload, 1) := by decide +kernel
theorem d_L_law_203 : decode c_L_law 203 = .ok (.invokevirtual 17, 3) := by decide +kernel
theorem d_L_law_206 : decode c_L_law 206 = .ok (.if_icmp .eq 627, 3) := by decide +kernel
theorem d_L_law_209 : decode c_L_law 209 = .ok (.iconst 0, 1) := by decide +kernel
theorem d_L_law_210 : decode c_L_law 210 = .ok (.ireturn, 1) := by decide +kernel
theorem d_L_law_211 : decode c_L_law 211 = .ok (.aload_n 1, 1) := by decide +kernel
theorem d_L_law_212 : decode c_L_law 212 = .ok (.aload_n 0, 1) := by decide +kernel
theorem d_L_law_213 : decode c_L_law 213 = .ok (.iload_n 3, 1) := by decide +kernel
theorem d_L_law_214 : decode c_L_law 214 = .ok (.iconst 1, 1) := by decide +kernel
theorem d_L_law_215 : decode c_L_law 215 = .ok (.iadd, 1) := by decide +kernel
theorem d_L_law_216 : decode c_L_law 216 = .ok (.iaload, 1) := by decide +kernel
theorem d_L_law_217 : decode c_L_law 217 = .ok (.aload_n 0, 1) := by decide +kernel
theorem d_L_law_218 : decode c_L_law 218 = .ok (.iload_n 3, 1) := by decide +kernel
theorem d_L_law_219 : decode c_L_law 219 = .ok (.iconst 2, 1) := by decide +kernel
theorem d_L_law_220 : decode c_L_law 220 = .ok (.iadd, 1) := by decide +kernel
theorem d_L_law_221 : decode c_L_law 221 = .ok (.iaload, 1) := by decide +kernel
theorem d_L_law_222 : decode c_L_law 222 = .ok (.aload_n 0, 1) := by decide +kernel
theorem d_L_law_223 : decode c_L_law 223 = .ok (.iload_n 3, 1) := by decide +kernel
theorem d_L_law_224 : decode c_L_law 224 = .ok (.iconst 3, 1) := by decide +kernel
theorem d_L_law_225 : decode c_L_law 225 = .ok (.iadd, 1) := by decide +kernel
theorem d_L_law_226 : decode c_L_law 226 = .ok (.iaload, 1) := by decide +kernel
theorem d_L_law_227 : decode c_L_law 227 = .ok (.invokevirtual 18, 3) := by decide +kernel
theorem d_L_law_230 : decode c_L_law 230 = .ok (.aload_n 2, 1) := by decide +kernel
theorem d_L_law_231 : decode c_L_law 231 = .ok (.aload_n 0, 1) := by decide +kernel
theorem d_L_law_232 : decode c_L_law 232 = .ok (.iload_n 3, 1) := by decide +kernel
theorem d_L_law_233 : decode c_L_law 233 = .ok (.iconst 1, 1) := by decide +kernel
theorem d_L_law_234 : decode c_L_law 234 = .ok (.iadd, 1) := by decide +kernel
theorem d_L_law_235 : decode c_L_law 235 = .ok (.iaload, 1) := by decide +kernel
theorem d_L_law_236 : decode c_L_law 236 = .ok (.aload_n 0, 1) := by decide +kernel
theorem d_L_law_237 : decode c_L_law 237 = .ok (.iload_n 3, 1) := by decide +kernel
theorem d_L_law_238 : decode c_L_law 238 = .ok (.iconst 2, 1) := by decide +kernel
theorem d_L_law_239 : decode c_L_law 239 = .ok (.iadd, 1) := by decide +kernel
theorem d_L_law_240 : decode c_L_law 240 = .ok (.iaload, 1) := by decide +kernel
theorem d_L_law_241 : decode c_L_law 241 = .ok (.aload_n 0, 1) := by decide +kernel
theorem d_L_law_242 : decode c_L_law 242 = .ok (.iload_n 3, 1) := by decide +kernel
theorem d_L_law_243 : decode c_L_law 243 = .ok (.iconst 3, 1) := by decide +kernel
theorem d_L_law_244 : decode c_L_law 244 = .ok (.iadd, 1) := by decide +kernel
theorem d_L_law_245 : decode c_L_law 245 = .ok (.iaload, 1) := by decide +kernel
theorem d_L_law_246 : decode c_L_law 246 = .ok (.invokevirtual 22, 3) := by decide +kernel
theorem d_L_law_249 : decode c_L_law 249 = .ok (.if_icmp .eq 584, 3) := by decide +kernel
theorem d_L_law_252 : decode c_L_law 252 = .ok (.iconst 0, 1) := by decide +kernel
theorem d_L_law_253 : decode c_L_law 253 = .ok (.ireturn, 1) := by decide +kernel
theorem d_L_law_254 : decode c_L_law 254 = .ok (.aload_n 1, 1) := by decide +kernel
theorem d_L_law_255 : decode c_L_law 255 = .ok (.aload_n 0, 1) := by decide +kernel
theorem d_L_law_256 : decode c_L_law 256 = .ok (.iload_n 3, 1) := by decide +kernel
theorem d_L_law_257 : decode c_L_law 257 = .ok (.iconst 1, 1) := by decide +kernel
theorem d_L_law_258 : decode c_L_law 258 = .ok (.iadd, 1) := by decide +kernel
theorem d_L_law_259 : decode c_L_law 259 = .ok (.iaload, 1) := by decide +kernel
theorem d_L_law_260 : decode c_L_law 260 = .ok (.aload_n 0, 1) := by decide +kernel
theorem d_L_law_261 : decode c_L_law 261 = .ok (.iload_n 3, 1) := by decide +kernel
theorem d_L_law_262 : decode c_L_law 262 = .ok (.iconst 2, 1) := by decide +kernel
theorem d_L_law_263 : decode c_L_law 263 = .ok (.iadd, 1) := by decide +kernel
theorem d_L_law_264 : decode c_L_law 264 = .ok (.iaload, 1) := by decide +kernel
theorem d_L_law_265 : decode c_L_law 265 = .ok (.invokevirtual 23, 3) := by decide +kernel
theorem d_L_law_268 : decode c_L_law 268 = .ok (.aload_n 2, 1) := by decide +kernel
theorem d_L_law_269 : decode c_L_law 269 = .ok (.aload_n 0, 1) := by decide +kernel
theorem d_L_law_270 : decode c_L_law 270 = .ok (.iload_n 3, 1) := by decide +kernel
theorem d_L_law_271 : decode c_L_law 271 = .ok (.iconst 1, 1) := by decide +kernel
theorem d_L_law_272 : decode c_L_law 272 = .ok (.iadd, 1) := by decide +kernel
theorem d_L_law_273 : decode c_L_law 273 = .ok (.iaload, 1) := by decide +kernel
theorem d_L_law_274 : decode c_L_law 274 = .ok (.aload_n 0, 1) := by decide +kernel
theorem d_L_law_275 : decode c_L_law 275 = .ok (.iload_n 3, 1) := by decide +kernel
theorem d_L_law_276 : decode c_L_law 276 = .ok (.iconst 2, 1) := by decide +kernel
theorem d_L_law_277 : decode c_L_law 277 = .ok (.iadd, 1) := by decide +kernel
theorem d_L_law_278 : decode c_L_law 278 = .ok (.iaload, 1) := by decide +kernel
theorem d_L_law_279 : decode c_L_law 279 = .ok (.invokevirtual 27, 3) := by decide +kernel
theorem d_L_law_282 : decode c_L_law 282 = .ok (.if_icmp .eq 551, 3) := by decide +kernel
theorem d_L_law_285 : decode c_L_law 285 = .ok (.iconst 0, 1) := by decide +kernel
theorem d_L_law_286 : decode c_L_law 286 = .ok (.ireturn, 1) := by decide +kernel
theorem d_L_law_287 : decode c_L_law 287 = .ok (.aload_n 1, 1) := by decide +kernel
theorem d_L_law_288 : decode c_L_law 288 = .ok (.aload_n 0, 1) := by decide +kernel
theorem d_L_law_289 : decode c_L_law 289 = .ok (.iload_n 3, 1) := by decide +kernel
theorem d_L_law_290 : decode c_L_law 290 = .ok (.iconst 1, 1) := by decide +kernel
theorem d_L_law_291 : decode c_L_law 291 = .ok (.iadd, 1) := by decide +kernel
theorem d_L_law_292 : decode c_L_law 292 = .ok (.iaload, 1) := by decide +kernel
theorem d_L_law_293 : decode c_L_law 293 = .ok (.aload_n 0, 1) := by decide +kernel
theorem d_L_law_294 : decode c_L_law 294 = .ok (.iload_n 3, 1) := by decide +kernel
theorem d_L_law_295 : decode c_L_law 295 = .ok (.iconst 2, 1) := by decide +kernel
theorem d_L_law_296 : decode c_L_law 296 = .ok (.iadd, 1) := by decide +kernel
theorem d_L_law_297 : decode c_L_law 297 = .ok (.iaload, 1) := by decide +kernel
theorem d_L_law_298 : decode c_L_law 298 = .ok (.invokevirtual 28, 3) := by decide +kernel
theorem d_L_law_301 : decode c_L_law 301 = .ok (.aload_n 2, 1) := by decide +kernel
theorem d_L_law_302 : decode c_L_law 302 = .ok (.aload_n 0, 1) := by decide +kernel
theorem d_L_law_303 : decode c_L_law 303 = .ok (.iload_n 3, 1) := by decide +kernel
theorem d_L_law_304 : decode c_L_law 304 = .ok (.iconst 1, 1) := by decide +kernel
theorem d_L_law_305 : decode c_L_law 305 = .ok (.iadd, 1) := by decide +kernel
theorem d_L_law_306 : decode c_L_law 306 = .ok (.iaload, 1) := by decide +kernel
theorem d_L_law_307 : decode c_L_law 307 = .ok (.aload_n 0, 1) := by decide +kernel
theorem d_L_law_308 : decode c_L_law 308 = .ok (.iload_n 3, 1) := by decide +kernel
theorem d_L_law_309 : decode c_L_law 309 = .ok (.iconst 2, 1) := by decide +kernel
theorem d_L_law_310 : decode c_L_law 310 = .ok (.iadd, 1) := by decide +kernel
theorem d_L_law_311 : decode c_L_law 311 = .ok (.iaload, 1) := by decide +kernel
theorem d_L_law_312 : decode c_L_law 312 = .ok (.invokevirtual 31, 3) := by decide +kernel
theorem d_L_law_315 : decode c_L_law 315 = .ok (.if_icmp .eq 518, 3) := by decide +kernel
theorem d_L_law_318 : decode c_L_law 318 = .ok (.iconst 0, 1) := by decide +kernel
theorem d_L_law_319 : decode c_L_law 319 = .ok (.ireturn, 1) := by decide +kernel
theorem d_L_law_320 : decode c_L_law 320 = .ok (.aload_n 1, 1) := by decide +kernel
theorem d_L_law_321 : decode c_L_law 321 = .ok (.aload_n 0, 1) := by decide +kernel
theorem d_L_law_322 : decode c_L_law 322 = .ok (.iload_n 3, 1) := by decide +kernel
theorem d_L_law_323 : decode c_L_law 323 = .ok (.iconst 1, 1) := by decide +kernel
theorem d_L_law_324 : decode c_L_law 324 = .ok (.iadd, 1) := by decide +kernel
theorem d_L_law_325 : decode c_L_law 325 = .ok (.iaload, 1) := by decide +kernel
theorem d_L_law_326 : decode c_L_law 326 = .ok (.invokevirtual 32, 3) := by decide +kernel
theorem d_L_law_329 : decode c_L_law 329 = .ok (.aload_n 2, 1) := by decide +kernel
theorem d_L_law_330 : decode c_L_law 330 = .ok (.aload_n 0, 1) := by decide +kernel
theorem d_L_law_331 : decode c_L_law 331 = .ok (.iload_n 3, 1) := by decide +kernel
theorem d_L_law_332 : decode c_L_law 332 = .ok (.iconst 1, 1) := by decide +kernel
theorem d_L_law_333 : decode c_L_law 333 = .ok (.iadd, 1) := by decide +kernel
theorem d_L_law_334 : decode c_L_law 334 = .ok (.iaload, 1) := by decide +kernel
theorem d_L_law_335 : decode c_L_law 335 = .ok (.invokevirtual 36, 3) := by decide +kernel
theorem d_L_law_338 : decode c_L_law 338 = .ok (.if_icmp .eq 495, 3) := by decide +kernel
theorem d_L_law_341 : decode c_L_law 341 = .ok (.iconst 0, 1) := by decide +kernel
theorem d_L_law_342 : decode c_L_law 342 = .ok (.ireturn, 1) := by decide +kernel
theorem d_L_law_343 : decode c_L_law 343 = .ok (.aload_n 1, 1) := by decide +kernel
theorem d_L_law_344 : decode c_L_law 344 = .ok (.aload_n 0, 1) := by decide +kernel
theorem d_L_law_345 : decode c_L_law 345 = .ok (.iload_n 3, 1) := by decide +kernel
theorem d_L_law_346 : decode c_L_law 346 = .ok (.iconst 1, 1) := by decide +kernel
theorem d_L_law_347 : decode c_L_law 347 = .ok (.iadd, 1) := by decide +kernel
theorem d_L_law_348 : decode c_L_law 348 = .ok (.iaload, 1) := by decide +kernel
theorem d_L_law_349 : decode c_L_law 349 = .ok (.aload_n 0, 1) := by decide +kernel
theorem d_L_law_350 : decode c_L_law 350 = .ok (.iload_n 3, 1) := by decide +kernel
theorem d_L_law_351 : decode c_L_law 351 = .ok (.iconst 2, 1) := by decide +kernel
theorem d_L_law_352 : decode c_L_law 352 = .ok (.iadd, 1) := by decide +kernel
theorem d_L_law_353 : decode c_L_law 353 = .ok (.iaload, 1) := by decide +kernel
theorem d_L_law_354 : decode c_L_law 354 = .ok (.invokevirtual 37, 3) := by decide +kernel
theorem d_L_law_357 : decode c_L_law 357 = .ok (.aload_n 2, 1) := by decide +kernel
theorem d_L_law_358 : decode c_L_law 358 = .ok (.aload_n 0, 1) := by decide +kernel
theorem d_L_law_359 : decode c_L_law 359 = .ok (.iload_n 3, 1) := by decide +kernel
theorem d_L_law_360 : decode c_L_law 360 = .ok (.iconst 1, 1) := by decide +kernel
theorem d_L_law_361 : decode c_L_law 361 = .ok (.iadd, 1) := by decide +kernel
theorem d_L_law_362 : decode c_L_law 362 = .ok (.iaload, 1) := by decide +kernel
theorem d_L_law_363 : decode c_L_law 363 = .ok (.aload_n 0, 1) := by decide +kernel
theorem d_L_law_364 : decode c_L_law 364 = .ok (.iload_n 3, 1) := by decide +kernel
theorem d_L_law_365 : decode c_L_law 365 = .ok (.iconst 2, 1) := by decide +kernel
theorem d_L_law_366 : decode c_L_law 366 = .ok (.iadd, 1) := by decide +kernel
theorem d_L_law_367 : decode c_L_law 367 = .ok (.iaload, 1) := by decide +kernel
theorem d_L_law_368 : decode c_L_law 368 = .ok (.invokevirtual 40, 3) := by decide +kernel
theorem d_L_law_371 : decode c_L_law 371 = .ok (.if_icmp .eq 462, 3) := by decide +kernel
theorem d_L_law_374 : decode c_L_law 374 = .ok (.iconst 0, 1) := by decide +kernel
theorem d_L_law_375 : decode c_L_law 375 = .ok (.ireturn, 1) := by decide +kernel
theorem d_L_law_376 : decode c_L_law 376 = .ok (.aload_n 1, 1) := by decide +kernel
theorem d_L_law_377 : decode c_L_law 377 = .ok (.aload_n 0, 1) := by decide +kernel
theorem d_L_law_378 : decode c_L_law 378 = .ok (.iload_n 3, 1) := by decide +kernel
theorem d_L_law_379 : decode c_L_law 379 = .ok (.iconst 1, 1) := by decide +kernel
theorem d_L_law_380 : decode c_L_law 380 = .ok (.iadd, 1) := by decide +kernel
theorem d_L_law_381 : decode c_L_law 381 = .ok (.iaload, 1) := by decide +kernel
theorem d_L_law_382 : decode c_L_law 382 = .ok (.aload_n 0, 1) := by decide +kernel
theorem d_L_law_383 : decode c_L_law 383 = .ok (.iload_n 3, 1) := by decide +kernel
theorem d_L_law_384 : decode c_L_law 384 = .ok (.iconst 2, 1) := by decide +kernel
theorem d_L_law_385 : decode c_L_law 385 = .ok (.iadd, 1) := by decide +kernel
theorem d_L_law_386 : decode c_L_law 386 = .ok (.iaload, 1) := by decide +kernel
theorem d_L_law_387 : decode c_L_law 387 = .ok (.invokevirtual 41, 3) := by decide +kernel
theorem d_L_law_390 : decode c_L_law 390 = .ok (.aload_n 2, 1) := by decide +kernel
theorem d_L_law_391 : decode c_L_law 391 = .ok (.aload_n 0, 1) := by decide +kernel
theorem d_L_law_392 : decode c_L_law 392 = .ok (.iload_n 3, 1) := by decide +kernel
theorem d_L_law_393 : decode c_L_law 393 = .ok (.iconst 1, 1) := by decide +kernel
theorem d_L_law_394 : decode c_L_law 394 = .ok (.iadd, 1) := by decide +kernel
theorem d_L_law_395 : decode c_L_law 395 = .ok (.iaload, 1) := by decide +kernel
theorem d_L_law_396 : decode c_L_law 396 = .ok (.aload_n 0, 1) := by decide +kernel
theorem d_L_law_397 : decode c_L_law 397 = .ok (.iload_n 3, 1) := by decide +kernel
theorem d_L_law_398 : decode c_L_law 398 = .ok (.iconst 2, 1) := by decide +kernel
theorem d_L_law_399 : decode c_L_law 399 = .ok (.iadd, 1) := by decide +kernel
theorem d_L_law_400 : decode c_L_law 400 = .ok (.iaload, 1) := by decide +kernel
theorem d_L_law_401 : decode c_L_law 401 = .ok (.invokevirtual 44, 3) := by decide +kernel
theorem d_L_law_404 : decode c_L_law 404 = .ok (.if_icmp .eq 429, 3) := by decide +kernel
theorem d_L_law_407 : decode c_L_law 407 = .ok (.iconst 0, 1) := by decide +kernel
theorem d_L_law_408 : decode c_L_law 408 = .ok (.ireturn, 1) := by decide +kernel
theorem d_L_law_409 : decode c_L_law 409 = .ok (.aload_n 1, 1) := by decide +kernel
theorem d_L_law_410 : decode c_L_law 410 = .ok (.aload_n 0, 1) := by decide +kernel
theorem d_L_law_411 : decode c_L_law 411 = .ok (.iload_n 3, 1) := by decide +kernel
theorem d_L_law_412 : decode c_L_law 412 = .ok (.iconst 1, 1) := by decide +kernel
theorem d_L_law_413 : decode c_L_law 413 = .ok (.iadd, 1) := by decide +kernel
theorem d_L_law_414 : decode c_L_law 414 = .ok (.iaload, 1) := by decide +kernel
theorem d_L_law_415 : decode c_L_law 415 = .ok (.aload_n 0, 1) := by decide +kernel
theorem d_L_law_416 : decode c_L_law 416 = .ok (.iload_n 3, 1) := by decide +kernel
theorem d_L_law_417 : decode c_L_law 417 = .ok (.iconst 2, 1) := by decide +kernel
theorem d_L_law_418 : decode c_L_law 418 = .ok (.iadd, 1) := by decide +kernel
theorem d_L_law_419 : decode c_L_law 419 = .ok (.iaload, 1) := by decide +kernel
theorem d_L_law_420 : decode c_L_law 420 = .ok (.invokevirtual 45, 3) := by decide +kernel
theorem d_L_law_423 : decode c_L_law 423 = .ok (.aload_n 2, 1) := by decide +kernel
theorem d_L_law_424 : decode c_L_law 424 = .ok (.aload_n 0, 1) := by decide +kernel
theorem d_L_law_425 : decode c_L_law 425 = .ok (.iload_n 3, 1) := by decide +kernel
theorem d_L_law_426 : decode c_L_law 426 = .ok (.iconst 1, 1) := by decide +kernel
theorem d_L_law_427 : decode c_L_law 427 = .ok (.iadd, 1) := by decide +kernel
theorem d_L_law_428 : decode c_L_law 428 = .ok (.iaload, 1) := by decide +kernel
theorem d_L_law_429 : decode c_L_law 429 = .ok (.aload_n 0, 1) := by decide +kernel
theorem d_L_law_430 : decode c_L_law 430 = .ok (.iload_n 3, 1) := by decide +kernel
theorem d_L_law_431 : decode c_L_law 431 = .ok (.iconst 2, 1) := by decide +kernel
theorem d_L_law_432 : decode c_L_law 432 = .ok (.iadd, 1) := by decide +kernel
theorem d_L_law_433 : decode c_L_law 433 = .ok (.iaload, 1) := by decide +kernel
theorem d_L_law_434 : decode c_L_law 434 = .ok (.invokevirtual 48, 3) := by decide +kernel
theorem d_L_law_437 : decode c_L_law 437 = .ok (.if_icmp .eq 396, 3) := by decide +kernel
theorem d_L_law_440 : decode c_L_law 440 = .ok (.iconst 0, 1) := by decide +kernel
theorem d_L_law_441 : decode c_L_law 441 = .ok (.ireturn, 1) := by decide +kernel
theorem d_L_law_442 : decode c_L_law 442 = .ok (.aload_n 1, 1) := by decide +kernel
theorem d_L_law_443 : decode c_L_law 443 = .ok (.aload_n 0, 1) := by decide +kernel
theorem d_L_law_444 : decode c_L_law 444 = .ok (.iload_n 3, 1) := by decide +kernel
theorem d_L_law_445 : decode c_L_law 445 = .ok (.iconst 1, 1) := by decide +kernel
theorem d_L_law_446 : decode c_L_law 446 = .ok (.iadd, 1) := by decide +kernel
theorem d_L_law_447 : decode c_L_law 447 = .ok (.iaload, 1) := by decide +kernel
theorem d_L_law_448 : decode c_L_law 448 = .ok (.invokevirtual 49, 3) := by decide +kernel
theorem d_L_law_451 : decode c_L_law 451 = .ok (.aload_n 2, 1) := by decide +kernel
theorem d_L_law_452 : decode c_L_law 452 = .ok (.aload_n 0, 1) := by decide +kernel
theorem d_L_law_453 : decode c_L_law 453 = .ok (.iload_n 3, 1) := by decide +kernel
theorem d_L_law_454 : decode c_L_law 454 = .ok (.iconst 1, 1) := by decide +kernel
theorem d_L_law_455 : decode c_L_law 455 = .ok (.iadd, 1) := by decide +kernel
theorem d_L_law_456 : decode c_L_law 456 = .ok (.iaload, 1) := by decide +kernel
theorem d_L_law_457 : decode c_L_law 457 = .ok (.invokevirtual 52, 3) := by decide +kernel
theorem d_L_law_460 : decode c_L_law 460 = .ok (.if_icmp .eq 373, 3) := by decide +kernel
theorem d_L_law_463 : decode c_L_law 463 = .ok (.iconst 0, 1) := by decide +kernel
theorem d_L_law_464 : decode c_L_law 464 = .ok (.ireturn, 1) := by decide +kernel
theorem d_L_law_465 : decode c_L_law 465 = .ok (.aload_n 1, 1) := by decide +kernel
theorem d_L_law_466 : decode c_L_law 466 = .ok (.invokevirtual 53, 3) := by decide +kernel
theorem d_L_law_469 : decode c_L_law 469 = .ok (.aload_n 2, 1) := by decide +kernel
theorem d_L_law_470 : decode c_L_law 470 = .ok (.invokevirtual 57, 3) := by decide +kernel
theorem d_L_law_473 : decode c_L_law 473 = .ok (.if_icmp .eq 360, 3) := by decide +kernel
theorem d_L_law_476 : decode c_L_law 476 = .ok (.iconst 0, 1) := by decide +kernel
theorem d_L_law_477 : decode c_L_law 477 = .ok (.ireturn, 1) := by decide +kernel
theorem d_L_law_478 : decode c_L_law 478 = .ok (.aload_n 1, 1) := by decide +kernel
theorem d_L_law_479 : decode c_L_law 479 = .ok (.aload_n 0, 1) := by decide +kernel
theorem d_L_law_480 : decode c_L_law 480 = .ok (.iload_n 3, 1) := by decide +kernel
theorem d_L_law_481 : decode c_L_law 481 = .ok (.iconst 1, 1) := by decide +kernel
theorem d_L_law_482 : decode c_L_law 482 = .ok (.iadd, 1) := by decide +kernel
theorem d_L_law_483 : decode c_L_law 483 = .ok (.iaload, 1) := by decide +kernel
theorem d_L_law_484 : decode c_L_law 484 = .ok (.invokevirtual 58, 3) := by decide +kernel
theorem d_L_law_487 : decode c_L_law 487 = .ok (.aload_n 2, 1) := by decide +kernel
theorem d_L_law_488 : decode c_L_law 488 = .ok (.aload_n 0, 1) := by decide +kernel
theorem d_L_law_489 : decode c_L_law 489 = .ok (.iload_n 3, 1) := by decide +kernel
theorem d_L_law_490 : decode c_L_law 490 = .ok (.iconst 1, 1) := by decide +kernel
theorem d_L_law_491 : decode c_L_law 491 = .ok (.iadd, 1) := by decide +kernel
theorem d_L_law_492 : decode c_L_law 492 = .ok (.iaload, 1) := by decide +kernel
theorem d_L_law_493 : decode c_L_law 493 = .ok (.invokevirtual 61, 3) := by decide +kernel
theorem d_L_law_496 : decode c_L_law 496 = .ok (.if_icmp .eq 337, 3) := by decide +kernel
theorem d_L_law_499 : decode c_L_law 499 = .ok (.iconst 0, 1) := by decide +kernel
theorem d_L_law_500 : decode c_L_law 500 = .ok (.ireturn, 1) := by decide +kernel
theorem d_L_law_501 : decode c_L_law 501 = .ok (.aload_n 1, 1) := by decide +kernel
theorem d_L_law_502 : decode c_L_law 502 = .ok (.aload_n 0, 1) := by decide +kernel
theorem d_L_law_503 : decode c_L_law 503 = .ok (.iload_n 3, 1) := by decide +kernel
theorem d_L_law_504 : decode c_L_law 504 = .ok (.iconst 1, 1) := by decide +kernel
theorem d_L_law_505 : decode c_L_law 505 = .ok (.iadd, 1) := by decide +kernel
theorem d_L_law_506 : decode c_L_law 506 = .ok (.iaload, 1) := by decide +kernel
theorem d_L_law_507 : decode c_L_law 507 = .ok (.invokevirtual 62, 3) := by decide +kernel
theorem d_L_law_510 : decode c_L_law 510 = .ok (.aload_n 2, 1) := by decide +kernel
theorem d_L_law_511 : decode c_L_law 511 = .ok (.aload_n 0, 1) := by decide +kernel
theorem d_L_law_512 : decode c_L_law 512 = .ok (.iload_n 3, 1) := by decide +kernel
theorem d_L_law_513 : decode c_L_law 513 = .ok (.iconst 1, 1) := by decide +kernel
theorem d_L_law_514 : decode c_L_law 514 = .ok (.iadd, 1) := by decide +kernel
theorem d_L_law_515 : decode c_L_law 515 = .ok (.iaload, 1) := by decide +kernel
theorem d_L_law_516 : decode c_L_law 516 = .ok (.invokevirtual 65, 3) := by decide +kernel
theorem d_L_law_519 : decode c_L_law 519 = .ok (.if_icmp .eq 314, 3) := by decide +kernel
theorem d_L_law_522 : decode c_L_law 522 = .ok (.iconst 0, 1) := by decide +kernel
theorem d_L_law_523 : decode c_L_law 523 = .ok (.ireturn, 1) := by decide +kernel
theorem d_L_law_524 : decode c_L_law 524 = .ok (.aload_n 1, 1) := by decide +kernel
theorem d_L_law_525 : decode c_L_law 525 = .ok (.aload_n 0, 1) := by decide +kernel
theorem d_L_law_526 : decode c_L_law 526 = .ok (.iload_n 3, 1) := by decide +kernel
theorem d_L_law_527 : decode c_L_law 527 = .ok (.iconst 1, 1) := by decide +kernel
theorem d_L_law_528 : decode c_L_law 528 = .ok (.iadd, 1) := by decide +kernel
theorem d_L_law_529 : decode c_L_law 529 = .ok (.iaload, 1) := by decide +kernel
theorem d_L_law_530 : decode c_L_law 530 = .ok (.aload_n 0, 1) := by decide +kernel
theorem d_L_law_531 : decode c_L_law 531 = .ok (.iload_n 3, 1) := by decide +kernel
theorem d_L_law_532 : decode c_L_law 532 = .ok (.iconst 2, 1) := by decide +kernel
theorem d_L_law_533 : decode c_L_law 533 = .ok (.iadd, 1) := by decide +kernel
theorem d_L_law_534 : decode c_L_law 534 = .ok (.iaload, 1) := by decide +kernel
theorem d_L_law_535 : decode c_L_law 535 = .ok (.invokevirtual 66, 3) := by decide +kernel
theorem d_L_law_538 : decode c_L_law 538 = .ok (.aload_n 2, 1) := by decide +kernel
theorem d_L_law_539 : decode c_L_law 539 = .ok (.aload_n 0, 1) := by decide +kernel
theorem d_L_law_540 : decode c_L_law 540 = .ok (.iload_n 3, 1) := by decide +kernel
theorem d_L_law_541 : decode c_L_law 541 = .ok (.iconst 1, 1) := by decide +kernel
theorem d_L_law_542 : decode c_L_law 542 = .ok (.iadd, 1) := by decide +kernel
theorem d_L_law_543 : decode c_L_law 543 = .ok (.iaload, 1) := by decide +kernel
theorem d_L_law_544 : decode c_L_law 544 = .ok (.aload_n 0, 1) := by decide +kernel
theorem d_L_law_545 : decode c_L_law 545 = .ok (.iload_n 3, 1) := by decide +kernel
theorem d_L_law_546 : decode c_L_law 546 = .ok (.iconst 2, 1) := by decide +kernel
theorem d_L_law_547 : decode c_L_law 547 = .ok (.iadd, 1) := by decide +kernel
theorem d_L_law_548 : decode c_L_law 548 = .ok (.iaload, 1) := by decide +kernel
theorem d_L_law_549 : decode c_L_law 549 = .ok (.invokevirtual 69, 3) := by decide +kernel
theorem d_L_law_552 : decode c_L_law 552 = .ok (.if_icmp .eq 281, 3) := by decide +kernel
theorem d_L_law_555 : decode c_L_law 555 = .ok (.iconst 0, 1) := by decide +kernel
theorem d_L_law_556 : decode c_L_law 556 = .ok (.ireturn, 1) := by decide +kernel
theorem d_L_law_557 : decode c_L_law 557 = .ok (.aload_n 1, 1) := by decide +kernel
theorem d_L_law_558 : decode c_L_law 558 = .ok (.aload_n 0, 1) := by decide +kernel
theorem d_L_law_559 : decode c_L_law 559 = .ok (.iload_n 3, 1) := by decide +kernel
theorem d_L_law_560 : decode c_L_law 560 = .ok (.iconst 1, 1) := by decide +kernel
theorem d_L_law_561 : decode c_L_law 561 = .ok (.iadd, 1) := by decide +kernel
theorem d_L_law_562 : decode c_L_law 562 = .ok (.iaload, 1) := by decide +kernel
theorem d_L_law_563 : decode c_L_law 563 = .ok (.invokevirtual 70, 3) := by decide +kernel
theorem d_L_law_566 : decode c_L_law 566 = .ok (.aload_n 2, 1) := by decide +kernel
theorem d_L_law_567 : decode c_L_law 567 = .ok (.aload_n 0, 1) := by decide +kernel
theorem d_L_law_568 : decode c_L_law 568 = .ok (.iload_n 3, 1) := by decide +kernel
theorem d_L_law_569 : decode c_L_law 569 = .ok (.iconst 1, 1) := by decide +kernel
theorem d_L_law_570 : decode c_L_law 570 = .ok (.iadd, 1) := by decide +kernel
theorem d_L_law_571 : decode c_L_law 571 = .ok (.iaload, 1) := by decide +kernel
theorem d_L_law_572 : decode c_L_law 572 = .ok (.invokevirtual 73, 3) := by decide +kernel
theorem d_L_law_575 : decode c_L_law 575 = .ok (.if_icmp .eq 258, 3) := by decide +kernel
theorem d_L_law_578 : decode c_L_law 578 = .ok (.iconst 0, 1) := by decide +kernel
theorem d_L_law_579 : decode c_L_law 579 = .ok (.ireturn, 1) := by decide +kernel
theorem d_L_law_580 : decode c_L_law 580 = .ok (.aload_n 1, 1) := by decide +kernel
theorem d_L_law_581 : decode c_L_law 581 = .ok (.invokevirtual 74, 3) := by decide +kernel
theorem d_L_law_584 : decode c_L_law 584 = .ok (.aload_n 2, 1) := by decide +kernel
theorem d_L_law_585 : decode c_L_law 585 = .ok (.invokevirtual 77, 3) := by decide +kernel
theorem d_L_law_588 : decode c_L_law 588 = .ok (.if_icmp .eq 245, 3) := by decide +kernel
theorem d_L_law_591 : decode c_L_law 591 = .ok (.iconst 0, 1) := by decide +kernel
theorem d_L_law_592 : decode c_L_law 592 = .ok (.ireturn, 1) := by decide +kernel
theorem d_L_law_593 : decode c_L_law 593 = .ok (.aload_n 1, 1) := by decide +kernel
theorem d_L_law_594 : decode c_L_law 594 = .ok (.aload_n 0, 1) := by decide +kernel
theorem d_L_law_595 : decode c_L_law 595 = .ok (.iload_n 3, 1) := by decide +kernel
theorem d_L_law_596 : decode c_L_law 596 = .ok (.iconst 1, 1) := by decide +kernel
theorem d_L_law_597 : decode c_L_law 597 = .ok (.iadd, 1) := by decide +kernel
theorem d_L_law_598 : decode c_L_law 598 = .ok (.iaload, 1) := by decide +kernel
theorem d_L_law_599 : decode c_L_law 599 = .ok (.invokevirtual 78, 3) := by decide +kernel
theorem d_L_law_602 : decode c_L_law 602 = .ok (.aload_n 2, 1) := by decide +kernel
theorem d_L_law_603 : decode c_L_law 603 = .ok (.aload_n 0, 1) := by decide +kernel
theorem d_L_law_604 : decode c_L_law 604 = .ok (.iload_n 3, 1) := by decide +kernel
theorem d_L_law_605 : decode c_L_law 605 = .ok (.iconst 1, 1) := by decide +kernel
theorem d_L_law_606 : decode c_L_law 606 = .ok (.iadd, 1) := by decide +kernel
theorem d_L_law_607 : decode c_L_law 607 = .ok (.iaload, 1) := by decide +kernel
theorem d_L_law_608 : decode c_L_law 608 = .ok (.invokevirtual 81, 3) := by decide +kernel
theorem d_L_law_611 : decode c_L_law 611 = .ok (.if_icmp .eq 222, 3) := by decide +kernel
theorem d_L_law_614 : decode c_L_law 614 = .ok (.iconst 0, 1) := by decide +kernel
theorem d_L_law_615 : decode c_L_law 615 = .ok (.ireturn, 1) := by decide +kernel
theorem d_L_law_616 : decode c_L_law 616 = .ok (.aload_n 1, 1) := by decide +kernel
theorem d_L_law_617 : decode c_L_law 617 = .ok (.invokevirtual 82, 3) := by decide +kernel
theorem d_L_law_620 : decode c_L_law 620 = .ok (.aload_n 2, 1) := by decide +kernel
theorem d_L_law_621 : decode c_L_law 621 = .ok (.invokevirtual 85, 3) := by decide +kernel
theorem d_L_law_624 : decode c_L_law 624 = .ok (.if_icmp .eq 209, 3) := by decide +kernel
theorem d_L_law_627 : decode c_L_law 627 = .ok (.iconst 0, 1) := by decide +kernel
theorem d_L_law_628 : decode c_L_law 628 = .ok (.ireturn, 1) := by decide +kernel
theorem d_L_law_629 : decode c_L_law 629 = .ok (.aload_n 1, 1) := by decide +kernel
theorem d_L_law_630 : decode c_L_law 630 = .ok (.aload_n 0, 1) := by decide +kernel
theorem d_L_law_631 : decode c_L_law 631 = .ok (.iload_n 3, 1) := by decide +kernel
theorem d_L_law_632 : decode c_L_law 632 = .ok (.iconst 1, 1) := by decide +kernel
theorem d_L_law_633 : decode c_L_law 633 = .ok (.iadd, 1) := by decide +kernel
theorem d_L_law_634 : decode c_L_law 634 = .ok (.iaload, 1) := by decide +kernel
theorem d_L_law_635 : decode c_L_law 635 = .ok (.invokevirtual 86, 3) := by decide +kernel
theorem d_L_law_638 : decode c_L_law 638 = .ok (.aload_n 2, 1) := by decide +kernel
theorem d_L_law_639 : decode c_L_law 639 = .ok (.aload_n 0, 1) := by decide +kernel
theorem d_L_law_640 : decode c_L_law 640 = .ok (.iload_n 3, 1) := by decide +kernel
theorem d_L_law_641 : decode c_L_law 641 = .ok (.iconst 1, 1) := by decide +kernel
theorem d_L_law_642 : decode c_L_law 642 = .ok (.iadd, 1) := by decide +kernel
theorem d_L_law_643 : decode c_L_law 643 = .ok (.iaload, 1) := by decide +kernel
theorem d_L_law_644 : decode c_L_law 644 = .ok (.invokevirtual 89, 3) := by decide +kernel
theorem d_L_law_647 : decode c_L_law 647 = .ok (.if_icmp .eq 186, 3) := by decide +kernel
theorem d_L_law_650 : decode c_L_law 650 = .ok (.iconst 0, 1) := by decide +kernel
theorem d_L_law_651 : decode c_L_law 651 = .ok (.ireturn, 1) := by decide +kernel
theorem d_L_law_652 : decode c_L_law 652 = .ok (.aload_n 1, 1) := by decide +kernel
theorem d_L_law_653 : decode c_L_law 653 = .ok (.aload_n 0, 1) := by decide +kernel
theorem d_L_law_654 : decode c_L_law 654 = .ok (.iload_n 3, 1) := by decide +kernel
theorem d_L_law_655 : decode c_L_law 655 = .ok (.iconst 1, 1) := by decide +kernel
theorem d_L_law_656 : decode c_L_law 656 = .ok (.iadd, 1) := by decide +kernel
theorem d_L_law_657 : decode c_L_law 657 = .ok (.iaload, 1) := by decide +kernel
theorem d_L_law_658 : decode c_L_law 658 = .ok (.invokevirtual 90, 3) := by decide +kernel
theorem d_L_law_661 : decode c_L_law 661 = .ok (.aload_n 2, 1) := by decide +kernel
theorem d_L_law_662 : decode c_L_law 662 = .ok (.aload_n 0, 1) := by decide +kernel
theorem d_L_law_663 : decode c_L_law 663 = .ok (.iload_n 3, 1) := by decide +kernel
theorem d_L_law_664 : decode c_L_law 664 = .ok (.iconst 1, 1) := by decide +kernel
theorem d_L_law_665 : decode c_L_law 665 = .ok (.iadd, 1) := by decide +kernel
theorem d_L_law_666 : decode c_L_law 666 = .ok (.iaload, 1) := by decide +kernel
theorem d_L_law_667 : decode c_L_law 667 = .ok (.invokevirtual 93, 3) := by decide +kernel
theorem d_L_law_670 : decode c_L_law 670 = .ok (.if_icmp .eq 163, 3) := by decide +kernel
theorem d_L_law_673 : decode c_L_law 673 = .ok (.iconst 0, 1) := by decide +kernel
theorem d_L_law_674 : decode c_L_law 674 = .ok (.ireturn, 1) := by decide +kernel
theorem d_L_law_675 : decode c_L_law 675 = .ok (.aload_n 1, 1) := by decide +kernel
theorem d_L_law_676 : decode c_L_law 676 = .ok (.aload_n 0, 1) := by decide +kernel
theorem d_L_law_677 : decode c_L_law 677 = .ok (.iload_n 3, 1) := by decide +kernel
theorem d_L_law_678 : decode c_L_law 678 = .ok (.iconst 1, 1) := by decide +kernel
theorem d_L_law_679 : decode c_L_law 679 = .ok (.iadd, 1) := by decide +kernel
theorem d_L_law_680 : decode c_L_law 680 = .ok (.iaload, 1) := by decide +kernel
theorem d_L_law_681 : decode c_L_law 681 = .ok (.aload_n 0, 1) := by decide +kernel
theorem d_L_law_682 : decode c_L_law 682 = .ok (.iload_n 3, 1) := by decide +kernel
theorem d_L_law_683 : decode c_L_law 683 = .ok (.iconst 2, 1) := by decide +kernel
theorem d_L_law_684 : decode c_L_law 684 = .ok (.iadd, 1) := by decide +kernel
theorem d_L_law_685 : decode c_L_law 685 = .ok (.iaload, 1) := by decide +kernel
theorem d_L_law_686 : decode c_L_law 686 = .ok (.invokevirtual 94, 3) := by decide +kernel
theorem d_L_law_689 : decode c_L_law 689 = .ok (.aload_n 2, 1) := by decide +kernel
theorem d_L_law_690 : decode c_L_law 690 = .ok (.aload_n 0, 1) := by decide +kernel
theorem d_L_law_691 : decode c_L_law 691 = .ok (.iload_n 3, 1) := by decide +kernel
theorem d_L_law_692 : decode c_L_law 692 = .ok (.iconst 1, 1) := by decide +kernel
theorem d_L_law_693 : decode c_L_law 693 = .ok (.iadd, 1) := by decide +kernel
theorem d_L_law_694 : decode c_L_law 694 = .ok (.iaload, 1) := by decide +kernel
theorem d_L_law_695 : decode c_L_law 695 = .ok (.aload_n 0, 1) := by decide +kernel
theorem d_L_law_696 : decode c_L_law 696 = .ok (.iload_n 3, 1) := by decide +kernel
theorem d_L_law_697 : decode c_L_law 697 = .ok (.iconst 2, 1) := by decide +kernel
theorem d_L_law_698 : decode c_L_law 698 = .ok (.iadd, 1) := by decide +kernel
theorem d_L_law_699 : decode c_L_law 699 = .ok (.iaload, 1) := by decide +kernel
theorem d_L_law_700 : decode c_L_law 700 = .ok (.invokevirtual 97, 3) := by decide +kernel
theorem d_L_law_703 : decode c_L_law 703 = .ok (.if_icmp .eq 130, 3) := by decide +kernel
theorem d_L_law_706 : decode c_L_law 706 = .ok (.iconst 0, 1) := by decide +kernel
theorem d_L_law_707 : decode c_L_law 707 = .ok (.ireturn, 1) := by decide +kernel
theorem d_L_law_708 : decode c_L_law 708 = .ok (.aload_n 1, 1) := by decide +kernel
theorem d_L_law_709 : decode c_L_law 709 = .ok (.aload_n 0, 1) := by decide +kernel
theorem d_L_law_710 : decode c_L_law 710 = .ok (.iload_n 3, 1) := by decide +kernel
theorem d_L_law_711 : decode c_L_law 711 = .ok (.iconst 1, 1) := by decide +kernel
theorem d_L_law_712 : decode c_L_law 712 = .ok (.iadd, 1) := by decide +kernel
theorem d_L_law_713 : decode c_L_law 713 = .ok (.iaload, 1) := by decide +kernel
theorem d_L_law_714 : decode c_L_law 714 = .ok (.invokevirtual 98, 3) := by decide +kernel
theorem d_L_law_717 : decode c_L_law 717 = .ok (.aload_n 2, 1) := by decide +kernel
theorem d_L_law_718 : decode c_L_law 718 = .ok (.aload_n 0, 1) := by decide +kernel
theorem d_L_law_719 : decode c_L_law 719 = .ok (.iload_n 3, 1) := by decide +kernel
theorem d_L_law_720 : decode c_L_law 720 = .ok (.iconst 1, 1) := by decide +kernel
theorem d_L_law_721 : decode c_L_law 721 = .ok (.iadd, 1) := by decide +kernel
theorem d_L_law_722 : decode c_L_law 722 = .ok (.iaload, 1) := by decide +kernel
theorem d_L_law_723 : decode c_L_law 723 = .ok (.invokevirtual 101, 3) := by decide +kernel
theorem d_L_law_726 : decode c_L_law 726 = .ok (.if_icmp .eq 107, 3) := by decide +kernel
theorem d_L_law_729 : decode c_L_law 729 = .ok (.iconst 0, 1) := by decide +kernel
theorem d_L_law_730 : decode c_L_law 730 = .ok (.ireturn, 1) := by decide +kernel
theorem d_L_law_731 : decode c_L_law 731 = .ok (.aload_n 1, 1) := by decide +kernel
theorem d_L_law_732 : decode c_L_law 732 = .ok (.aload_n 0, 1) := by decide +kernel
theorem d_L_law_733 : decode c_L_law 733 = .ok (.iload_n 3, 1) := by decide +kernel
theorem d_L_law_734 : decode c_L_law 734 = .ok (.iconst 1, 1) := by decide +kernel
theorem d_L_law_735 : decode c_L_law 735 = .ok (.iadd, 1) := by decide +kernel
theorem d_L_law_736 : decode c_L_law 736 = .ok (.iaload, 1) := by decide +kernel
theorem d_L_law_737 : decode c_L_law 737 = .ok (.aload_n 0, 1) := by decide +kernel
theorem d_L_law_738 : decode c_L_law 738 = .ok (.iload_n 3, 1) := by decide +kernel
theorem d_L_law_739 : decode c_L_law 739 = .ok (.iconst 2, 1) := by decide +kernel
theorem d_L_law_740 : decode c_L_law 740 = .ok (.iadd, 1) := by decide +kernel
theorem d_L_law_741 : decode c_L_law 741 = .ok (.iaload, 1) := by decide +kernel
theorem d_L_law_742 : decode c_L_law 742 = .ok (.aload_n 0, 1) := by decide +kernel
theorem d_L_law_743 : decode c_L_law 743 = .ok (.iload_n 3, 1) := by decide +kernel
theorem d_L_law_744 : decode c_L_law 744 = .ok (.iconst 3, 1) := by decide +kernel
theorem d_L_law_745 : decode c_L_law 745 = .ok (.iadd, 1) := by decide +kernel
theorem d_L_law_746 : decode c_L_law 746 = .ok (.iaload, 1) := by decide +kernel
theorem d_L_law_747 : decode c_L_law 747 = .ok (.invokevirtual 102, 3) := by decide +kernel
theorem d_L_law_750 : decode c_L_law 750 = .ok (.aload_n 2, 1) := by decide +kernel
theorem d_L_law_751 : decode c_L_law 751 = .ok (.aload_n 0, 1) := by decide +kernel
theorem d_L_law_752 : decode c_L_law 752 = .ok (.iload_n 3, 1) := by decide +kernel
theorem d_L_law_753 : decode c_L_law 753 = .ok (.iconst 1, 1) := by decide +kernel
theorem d_L_law_754 : decode c_L_law 754 = .ok (.iadd, 1) := by decide +kernel
theorem d_L_law_755 : decode c_L_law 755 = .ok (.iaload, 1) := by decide +kernel
theorem d_L_law_756 : decode c_L_law 756 = .ok (.aload_n 0, 1) := by decide +kernel
theorem d_L_law_757 : decode c_L_law 757 = .ok (.iload_n 3, 1) := by decide +kernel
theorem d_L_law_758 : decode c_L_law 758 = .ok (.iconst 2, 1) := by decide +kernel
theorem d_L_law_759 : decode c_L_law 759 = .ok (.iadd, 1) := by decide +kernel
theorem d_L_law_760 : decode c_L_law 760 = .ok (.iaload, 1) := by decide +kernel
theorem d_L_law_761 : decode c_L_law 761 = .ok (.aload_n 0, 1) := by decide +kernel
theorem d_L_law_762 : decode c_L_law 762 = .ok (.iload_n 3, 1) := by decide +kernel
theorem d_L_law_763 : decode c_L_law 763 = .ok (.iconst 3, 1) := by decide +kernel
theorem d_L_law_764 : decode c_L_law 764 = .ok (.iadd, 1) := by decide +kernel
theorem d_L_law_765 : decode c_L_law 765 = .ok (.iaload, 1) := by decide +kernel
theorem d_L_law_766 : decode c_L_law 766 = .ok (.invokevirtual 105, 3) := by decide +kernel
theorem d_L_law_769 : decode c_L_law 769 = .ok (.if_icmp .eq 64, 3) := by decide +kernel
theorem d_L_law_772 : decode c_L_law 772 = .ok (.iconst 0, 1) := by decide +kernel
theorem d_L_law_773 : decode c_L_law 773 = .ok (.ireturn, 1) := by decide +kernel
theorem d_L_law_774 : decode c_L_law 774 = .ok (.aload_n 1, 1) := by decide +kernel
theorem d_L_law_775 : decode c_L_law 775 = .ok (.aload_n 0, 1) := by decide +kernel
theorem d_L_law_776 : decode c_L_law 776 = .ok (.iload_n 3, 1) := by decide +kernel
theorem d_L_law_777 : decode c_L_law 777 = .ok (.iconst 1, 1) := by decide +kernel
theorem d_L_law_778 : decode c_L_law 778 = .ok (.iadd, 1) := by decide +kernel
theorem d_L_law_779 : decode c_L_law 779 = .ok (.iaload, 1) := by decide +kernel
theorem d_L_law_780 : decode c_L_law 780 = .ok (.invokevirtual 106, 3) := by decide +kernel
theorem d_L_law_783 : decode c_L_law 783 = .ok (.aload_n 2, 1) := by decide +kernel
theorem d_L_law_784 : decode c_L_law 784 = .ok (.aload_n 0, 1) := by decide +kernel
theorem d_L_law_785 : decode c_L_law 785 = .ok (.iload_n 3, 1) := by decide +kernel
theorem d_L_law_786 : decode c_L_law 786 = .ok (.iconst 1, 1) := by decide +kernel
theorem d_L_law_787 : decode c_L_law 787 = .ok (.iadd, 1) := by decide +kernel
theorem d_L_law_788 : decode c_L_law 788 = .ok (.iaload, 1) := by decide +kernel
theorem d_L_law_789 : decode c_L_law 789 = .ok (.invokevirtual 109, 3) := by decide +kernel
theorem d_L_law_792 : decode c_L_law 792 = .ok (.if_icmp .eq 41, 3) := by decide +kernel
theorem d_L_law_795 : decode c_L_law 795 = .ok (.iconst 0, 1) := by decide +kernel
theorem d_L_law_796 : decode c_L_law 796 = .ok (.ireturn, 1) := by decide +kernel
theorem d_L_law_797 : decode c_L_law 797 = .ok (.aload_n 1, 1) := by decide +kernel
theorem d_L_law_798 : decode c_L_law 798 = .ok (.invokevirtual 110, 3) := by decide +kernel
theorem d_L_law_801 : decode c_L_law 801 = .ok (.aload_n 2, 1) := by decide +kernel
theorem d_L_law_802 : decode c_L_law 802 = .ok (.invokevirtual 113, 3) := by decide +kernel
theorem d_L_law_805 : decode c_L_law 805 = .ok (.if_icmp .eq 28, 3) := by decide +kernel
theorem d_L_law_808 : decode c_L_law 808 = .ok (.iconst 0, 1) := by decide +kernel
theorem d_L_law_809 : decode c_L_law 809 = .ok (.ireturn, 1) := by decide +kernel
theorem d_L_law_810 : decode c_L_law 810 = .ok (.aload_n 1, 1) := by decide +kernel
theorem d_L_law_811 : decode c_L_law 811 = .ok (.aload_n 0, 1) := by decide +kernel
theorem d_L_law_812 : decode c_L_law 812 = .ok (.iload_n 3, 1) := by decide +kernel
theorem d_L_law_813 : decode c_L_law 813 = .ok (.iconst 1, 1) := by decide +kernel
theorem d_L_law_814 : decode c_L_law 814 = .ok (.iadd, 1) := by decide +kernel
theorem d_L_law_815 : decode c_L_law 815 = .ok (.iaload, 1) := by decide +kernel
theorem d_L_law_816 : decode c_L_law 816 = .ok (.invokevirtual 114, 3) := by decide +kernel
theorem d_L_law_819 : decode c_L_law 819 = .ok (.aload_n 2, 1) := by decide +kernel
theorem d_L_law_820 : decode c_L_law 820 = .ok (.aload_n 0, 1) := by decide +kernel
theorem d_L_law_821 : decode c_L_law 821 = .ok (.iload_n 3, 1) := by decide +kernel
theorem d_L_law_822 : decode c_L_law 822 = .ok (.iconst 1, 1) := by decide +kernel
theorem d_L_law_823 : decode c_L_law 823 = .ok (.iadd, 1) := by decide +kernel
theorem d_L_law_824 : decode c_L_law 824 = .ok (.iaload, 1) := by decide +kernel
theorem d_L_law_825 : decode c_L_law 825 = .ok (.invokevirtual 117, 3) := by decide +kernel
theorem d_L_law_828 : decode c_L_law 828 = .ok (.if_icmp .eq 5, 3) := by decide +kernel
theorem d_L_law_831 : decode c_L_law 831 = .ok (.iconst 0, 1) := by decide +kernel
theorem d_L_law_832 : decode c_L_law 832 = .ok (.ireturn, 1) := by decide +kernel
theorem d_L_law_833 : decode c_L_law 833 = .ok (.iinc 3 6, 3) := by decide +kernel
theorem d_L_law_836 : decode c_L_law 836 = .ok (.goto (-818), 3) := by decide +kernel
theorem d_L_law_839 : decode c_L_law 839 = .ok (.iconst 1, 1) := by decide +kernel
theorem d_L_law_840 : decode c_L_law 840 = .ok (.ireturn, 1) := by decide +kernel
