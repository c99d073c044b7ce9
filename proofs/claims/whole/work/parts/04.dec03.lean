theorem d_Mo_has_5 : decode c_Mo_has 5 = .ok (.iconst 1, 1) := by decide +kernel
theorem d_Mo_has_6 : decode c_Mo_has 6 = .ok (.if_icmp .ne 7, 3) := by decide +kernel
theorem d_Mo_has_9 : decode c_Mo_has 9 = .ok (.iconst 1, 1) := by decide +kernel
theorem d_Mo_has_10 : decode c_Mo_has 10 = .ok (.goto 4, 3) := by decide +kernel
theorem d_Mo_has_13 : decode c_Mo_has 13 = .ok (.iconst 0, 1) := by decide +kernel
theorem d_Mo_has_14 : decode c_Mo_has 14 = .ok (.ireturn, 1) := by decide +kernel
theorem d_Mo_place_0 : decode c_Mo_place 0 = .ok (.iload_n 1, 1) := by decide +kernel
theorem d_Mo_place_1 : decode c_Mo_place 1 = .ok (.iconst 0, 1) := by decide +kernel
theorem d_Mo_place_2 : decode c_Mo_place 2 = .ok (.sipush 1000, 3) := by decide +kernel
theorem d_Mo_place_5 : decode c_Mo_place 5 = .ok (.invokestatic 87, 3) := by decide +kernel
theorem d_Mo_place_8 : decode c_Mo_place 8 = .ok (.ifCond .eq 47, 3) := by decide +kernel
theorem d_Mo_place_11 : decode c_Mo_place 11 = .ok (.iload_n 2, 1) := by decide +kernel
theorem d_Mo_place_12 : decode c_Mo_place 12 = .ok (.iconst 0, 1) := by decide +kernel
theorem d_Mo_place_13 : decode c_Mo_place 13 = .ok (.sipush 1000, 3) := by decide +kernel
theorem d_Mo_place_16 : decode c_Mo_place 16 = .ok (.invokestatic 87, 3) := by decide +kernel
theorem d_Mo_place_19 : decode c_Mo_place 19 = .ok (.ifCond .eq 36, 3) := by decide +kernel
theorem d_Mo_place_22 : decode c_Mo_place 22 = .ok (.iload_n 3, 1) := by decide +kernel
theorem d_Mo_place_23 : decode c_Mo_place 23 = .ok (.iconst 0, 1) := by decide +kernel
theorem d_Mo_place_24 : decode c_Mo_place 24 = .ok (.sipush 1000, 3) := by decide +kernel
theorem d_Mo_place_27 : decode c_Mo_place 27 = .ok (.invokestatic 87, 3) := by decide +kernel
theorem d_Mo_place_30 : decode c_Mo_place 30 = .ok (.ifCond .eq 25, 3) := by decide +kernel
theorem d_Mo_place_33 : decode c_Mo_place 33 = .ok (.iload 4, 2) := by decide +kernel
theorem d_Mo_place_35 : decode c_Mo_place 35 = .ok (.iconst 1, 1) := by decide +kernel
theorem d_Mo_place_36 : decode c_Mo_place 36 = .ok (.bipush 100, 2) := by decide +kernel
theorem d_Mo_place_38 : decode c_Mo_place 38 = .ok (.invokestatic 87, 3) := by decide +kernel
theorem d_Mo_place_41 : decode c_Mo_place 41 = .ok (.ifCond .eq 14, 3) := by decide +kernel
theorem d_Mo_place_44 : decode c_Mo_place 44 = .ok (.iload 5, 2) := by decide +kernel
theorem d_Mo_place_46 : decode c_Mo_place 46 = .ok (.iconst 0, 1) := by decide +kernel
theorem d_Mo_place_47 : decode c_Mo_place 47 = .ok (.bipush 9, 2) := by decide +kernel
theorem d_Mo_place_49 : decode c_Mo_place 49 = .ok (.invokestatic 87, 3) := by decide +kernel
theorem d_Mo_place_52 : decode c_Mo_place 52 = .ok (.ifCond .ne 5, 3) := by decide +kernel
theorem d_Mo_place_55 : decode c_Mo_place 55 = .ok (.iconst (-1), 1) := by decide +kernel
theorem d_Mo_place_56 : decode c_Mo_place 56 = .ok (.ireturn, 1) := by decide +kernel
theorem d_Mo_place_57 : decode c_Mo_place 57 = .ok (.aload_n 0, 1) := by decide +kernel
theorem d_Mo_place_58 : decode c_Mo_place 58 = .ok (.getfield 91, 3) := by decide +kernel
theorem d_Mo_place_61 : decode c_Mo_place 61 = .ok (.bipush 30, 2) := by decide +kernel
theorem d_Mo_place_63 : decode c_Mo_place 63 = .ok (.if_icmp .ne 6, 3) := by decide +kernel
theorem d_Mo_place_66 : decode c_Mo_place 66 = .ok (.bipush (-2), 2) := by decide +kernel
theorem d_Mo_place_68 : decode c_Mo_place 68 = .ok (.ireturn, 1) := by decide +kernel
theorem d_Mo_place_69 : decode c_Mo_place 69 = .ok (.aload_n 0, 1) := by decide +kernel
theorem d_Mo_place_70 : decode c_Mo_place 70 = .ok (.getfield 91, 3) := by decide +kernel
theorem d_Mo_place_73 : decode c_Mo_place 73 = .ok (.istore 6, 2) := by decide +kernel
theorem d_Mo_place_75 : decode c_Mo_place 75 = .ok (.aload_n 0, 1) := by decide +kernel
theorem d_Mo_place_76 : decode c_Mo_place 76 = .ok (.getfield 9, 3) := by decide +kernel
theorem d_Mo_place_79 : decode c_Mo_place 79 = .ok (.iload 6, 2) := by decide +kernel
theorem d_Mo_place_81 : decode c_Mo_place 81 = .ok (.iload_n 1, 1) := by decide +kernel
theorem d_Mo_place_82 : decode c_Mo_place 82 = .ok (.iastore, 1) := by decide +kernel
theorem d_Mo_place_83 : decode c_Mo_place 83 = .ok (.aload_n 0, 1) := by decide +kernel
theorem d_Mo_place_84 : decode c_Mo_place 84 = .ok (.getfield 13, 3) := by decide +kernel
theorem d_Mo_place_87 : decode c_Mo_place 87 = .ok (.iconst 2, 1) := by decide +kernel
theorem d_Mo_place_88 : decode c_Mo_place 88 = .ok (.iload 6, 2) := by decide +kernel
theorem d_Mo_place_90 : decode c_Mo_place 90 = .ok (.imul, 1) := by decide +kernel
theorem d_Mo_place_91 : decode c_Mo_place 91 = .ok (.iload_n 2, 1) := by decide +kernel
theorem d_Mo_place_92 : decode c_Mo_place 92 = .ok (.iastore, 1) := by decide +kernel
theorem d_Mo_place_93 : decode c_Mo_place 93 = .ok (.aload_n 0, 1) := by decide +kernel
theorem d_Mo_place_94 : decode c_Mo_place 94 = .ok (.getfield 13, 3) := by decide +kernel
theorem d_Mo_place_97 : decode c_Mo_place 97 = .ok (.iconst 2, 1) := by decide +kernel
theorem d_Mo_place_98 : decode c_Mo_place 98 = .ok (.iload 6, 2) := by decide +kernel
theorem d_Mo_place_100 : decode c_Mo_place 100 = .ok (.imul, 1) := by decide +kernel
theorem d_Mo_place_101 : decode c_Mo_place 101 = .ok (.iconst 1, 1) := by decide +kernel
theorem d_Mo_place_102 : decode c_Mo_place 102 = .ok (.iadd, 1) := by decide +kernel
theorem d_Mo_place_103 : decode c_Mo_place 103 = .ok (.iload_n 3, 1) := by decide +kernel
theorem d_Mo_place_104 : decode c_Mo_place 104 = .ok (.iastore, 1) := by decide +kernel
theorem d_Mo_place_105 : decode c_Mo_place 105 = .ok (.aload_n 0, 1) := by decide +kernel
theorem d_Mo_place_106 : decode c_Mo_place 106 = .ok (.getfield 16, 3) := by decide +kernel
theorem d_Mo_place_109 : decode c_Mo_place 109 = .ok (.iload 6, 2) := by decide +kernel
theorem d_Mo_place_111 : decode c_Mo_place 111 = .ok (.iload 4, 2) := by decide +kernel
theorem d_Mo_place_113 : decode c_Mo_place 113 = .ok (.iastore, 1) := by decide +kernel
theorem d_Mo_place_114 : decode c_Mo_place 114 = .ok (.aload_n 0, 1) := by decide +kernel
theorem d_Mo_place_115 : decode c_Mo_place 115 = .ok (.getfield 19, 3) := by decide +kernel
theorem d_Mo_place_118 : decode c_Mo_place 118 = .ok (.iload 6, 2) := by decide +kernel
theorem d_Mo_place_120 : decode c_Mo_place 120 = .ok (.iload 5, 2) := by decide +kernel
theorem d_Mo_place_122 : decode c_Mo_place 122 = .ok (.iastore, 1) := by decide +kernel
theorem d_Mo_place_123 : decode c_Mo_place 123 = .ok (.aload_n 0, 1) := by decide +kernel
theorem d_Mo_place_124 : decode c_Mo_place 124 = .ok (.dup, 1) := by decide +kernel
theorem d_Mo_place_125 : decode c_Mo_place 125 = .ok (.getfield 91, 3) := by decide +kernel
theorem d_Mo_place_128 : decode c_Mo_place 128 = .ok (.iconst 1, 1) := by decide +kernel
theorem d_Mo_place_129 : decode c_Mo_place 129 = .ok (.iadd, 1) := by decide +kernel
theorem d_Mo_place_130 : decode c_Mo_place 130 = .ok (.putfield 91, 3) := by decide +kernel
theorem d_Mo_place_133 : decode c_Mo_place 133 = .ok (.iload 6, 2) := by decide +kernel
theorem d_Mo_place_135 : decode c_Mo_place 135 = .ok (.ireturn, 1) := by decide +kernel
theorem d_Mo_isPlace_0 : decode c_Mo_isPlace 0 = .ok (.iload_n 1, 1) := by decide +kernel
theorem d_Mo_isPlace_1 : decode c_Mo_isPlace 1 = .ok (.ifCond .lt 15, 3) := by decide +kernel
theorem d_Mo_isPlace_4 : decode c_Mo_isPlace 4 = .ok (.iload_n 1, 1) := by decide +kernel
theorem d_Mo_isPlace_5 : decode c_Mo_isPlace 5 = .ok (.aload_n 0, 1) := by decide +kernel
theorem d_Mo_isPlace_6 : decode c_Mo_isPlace 6 = .ok (.getfield 91, 3) := by decide +kernel
theorem d_Mo_isPlace_9 : decode c_Mo_isPlace 9 = .ok (.if_icmp .ge 7, 3) := by decide +kernel
theorem d_Mo_isPlace_12 : decode c_Mo_isPlace 12 = .ok (.iconst 1, 1) := by decide +kernel
theorem d_Mo_isPlace_13 : decode c_Mo_isPlace 13 = .ok (.goto 4, 3) := by decide +kernel
theorem d_Mo_isPlace_16 : decode c_Mo_isPlace 16 = .ok (.iconst 0, 1) := by decide +kernel
theorem d_Mo_isPlace_17 : decode c_Mo_isPlace 17 = .ok (.ireturn, 1) := by decide +kernel
theorem d_Mo_border_0 : decode c_Mo_border 0 = .ok (.aload_n 0, 1) := by decide +kernel
theorem d_Mo_border_1 : decode c_Mo_border 1 = .ok (.iload_n 1, 1) := by decide +kernel
theorem d_Mo_border_2 : decode c_Mo_border 2 = .ok (.invokevirtual 94, 3) := by decide +kernel
theorem d_Mo_border_5 : decode c_Mo_border 5 = .ok (.ifCond .eq 39, 3) := by decide +kernel
theorem d_Mo_border_8 : decode c_Mo_border 8 = .ok (.aload_n 0, 1) := by decide +kernel
theorem d_Mo_border_9 : decode c_Mo_border 9 = .ok (.iload_n 2, 1) := by decide +kernel
theorem d_Mo_border_10 : decode c_Mo_border 10 = .ok (.invokevirtual 94, 3) := by decide +kernel
theorem d_Mo_border_13 : decode c_Mo_border 13 = .ok (.ifCond .eq 31, 3) := by decide +kernel
theorem d_Mo_border_16 : decode c_Mo_border 16 = .ok (.iload_n 1, 1) := by decide +kernel
theorem d_Mo_border_17 : decode c_Mo_border 17 = .ok (.iload_n 2, 1) := by decide +kernel
theorem d_Mo_border_18 : decode c_Mo_border 18 = .ok (.if_icmp .eq 26, 3) := by decide +kernel
theorem d_Mo_border_21 : decode c_Mo_border 21 = .ok (.aload_n 0, 1) := by decide +kernel
theorem d_Mo_border_22 : decode c_Mo_border 22 = .ok (.getfield 31, 3) := by decide +kernel
theorem d_Mo_border_25 : decode c_Mo_border 25 = .ok (.iload_n 1, 1) := by decide +kernel
theorem d_Mo_border_26 : decode c_Mo_border 26 = .ok (.iaload, 1) := by decide +kernel
theorem d_Mo_border_27 : decode c_Mo_border 27 = .ok (.iload_n 2, 1) := by decide +kernel
theorem d_Mo_border_28 : decode c_Mo_border 28 = .ok (.invokestatic 98, 3) := by decide +kernel
theorem d_Mo_border_31 : decode c_Mo_border 31 = .ok (.ifCond .ne 13, 3) := by decide +kernel
theorem d_Mo_border_34 : decode c_Mo_border 34 = .ok (.iload_n 3, 1) := by decide +kernel
theorem d_Mo_border_35 : decode c_Mo_border 35 = .ok (.iconst 1, 1) := by decide +kernel
theorem d_Mo_border_36 : decode c_Mo_border 36 = .ok (.bipush 100, 2) := by decide +kernel
theorem d_Mo_border_38 : decode c_Mo_border 38 = .ok (.invokestatic 87, 3) := by decide +kernel
theorem d_Mo_border_41 : decode c_Mo_border 41 = .ok (.ifCond .ne 5, 3) := by decide +kernel
theorem d_Mo_border_44 : decode c_Mo_border 44 = .ok (.iconst (-1), 1) := by decide +kernel
theorem d_Mo_border_45 : decode c_Mo_border 45 = .ok (.ireturn, 1) := by decide +kernel
theorem d_Mo_border_46 : decode c_Mo_border 46 = .ok (.aload_n 0, 1) := by decide +kernel
theorem d_Mo_border_47 : decode c_Mo_border 47 = .ok (.getfield 102, 3) := by decide +kernel
theorem d_Mo_border_50 : decode c_Mo_border 50 = .ok (.bipush 100, 2) := by decide +kernel
theorem d_Mo_border_52 : decode c_Mo_border 52 = .ok (.if_icmp .ne 6, 3) := by decide +kernel
theorem d_Mo_border_55 : decode c_Mo_border 55 = .ok (.bipush (-2), 2) := by decide +kernel
theorem d_Mo_border_57 : decode c_Mo_border 57 = .ok (.ireturn, 1) := by decide +kernel
theorem d_Mo_border_58 : decode c_Mo_border 58 = .ok (.aload_n 0, 1) := by decide +kernel
theorem d_Mo_border_59 : decode c_Mo_border 59 = .ok (.getfield 22, 3) := by decide +kernel
theorem d_Mo_border_62 : decode c_Mo_border 62 = .ok (.aload_n 0, 1) := by decide +kernel
theorem d_Mo_border_63 : decode c_Mo_border 63 = .ok (.getfield 102, 3) := by decide +kernel
theorem d_Mo_border_66 : decode c_Mo_border 66 = .ok (.iload_n 1, 1) := by decide +kernel
theorem d_Mo_border_67 : decode c_Mo_border 67 = .ok (.iastore, 1) := by decide +kernel
theorem d_Mo_border_68 : decode c_Mo_border 68 = .ok (.aload_n 0, 1) := by decide +kernel
theorem d_Mo_border_69 : decode c_Mo_border 69 = .ok (.getfield 25, 3) := by decide +kernel
theorem d_Mo_border_72 : decode c_Mo_border 72 = .ok (.aload_n 0, 1) := by decide +kernel
theorem d_Mo_border_73 : decode c_Mo_border 73 = .ok (.getfield 102, 3) := by decide +kernel
theorem d_Mo_border_76 : decode c_Mo_border 76 = .ok (.iload_n 2, 1) := by decide +kernel
theorem d_Mo_border_77 : decode c_Mo_border 77 = .ok (.iastore, 1) := by decide +kernel
theorem d_Mo_border_78 : decode c_Mo_border 78 = .ok (.aload_n 0, 1) := by decide +kernel
theorem d_Mo_border_79 : decode c_Mo_border 79 = .ok (.getfield 28, 3) := by decide +kernel
theorem d_Mo_border_82 : decode c_Mo_border 82 = .ok (.aload_n 0, 1) := by decide +kernel
theorem d_Mo_border_83 : decode c_Mo_border 83 = .ok (.getfield 102, 3) := by decide +kernel
theorem d_Mo_border_86 : decode c_Mo_border 86 = .ok (.iload_n 3, 1) := by decide +kernel
theorem d_Mo_border_87 : decode c_Mo_border 87 = .ok (.iastore, 1) := by decide +kernel
theorem d_Mo_border_88 : decode c_Mo_border 88 = .ok (.aload_n 0, 1) := by decide +kernel
theorem d_Mo_border_89 : decode c_Mo_border 89 = .ok (.getfield 31, 3) := by decide +kernel
theorem d_Mo_border_92 : decode c_Mo_border 92 = .ok (.iload_n 1, 1) := by decide +kernel
theorem d_Mo_border_93 : decode c_Mo_border 93 = .ok (.dup2, 1) := by decide +kernel
theorem d_Mo_border_94 : decode c_Mo_border 94 = .ok (.iaload, 1) := by decide +kernel
theorem d_Mo_border_95 : decode c_Mo_border 95 = .ok (.iconst 1, 1) := by decide +kernel
theorem d_Mo_border_96 : decode c_Mo_border 96 = .ok (.iload_n 2, 1) := by decide +kernel
theorem d_Mo_border_97 : decode c_Mo_border 97 = .ok (.ishl, 1) := by decide +kernel
theorem d_Mo_border_98 : decode c_Mo_border 98 = .ok (.ior, 1) := by decide +kernel
theorem d_Mo_border_99 : decode c_Mo_border 99 = .ok (.iastore, 1) := by decide +kernel
theorem d_Mo_border_100 : decode c_Mo_border 100 = .ok (.aload_n 0, 1) := by decide +kernel
theorem d_Mo_border_101 : decode c_Mo_border 101 = .ok (.getfield 31, 3) := by decide +kernel
theorem d_Mo_border_104 : decode c_Mo_border 104 = .ok (.iload_n 2, 1) := by decide +kernel
theorem d_Mo_border_105 : decode c_Mo_border 105 = .ok (.dup2, 1) := by decide +kernel
theorem d_Mo_border_106 : decode c_Mo_border 106 = .ok (.iaload, 1) := by decide +kernel
theorem d_Mo_border_107 : decode c_Mo_border 107 = .ok (.iconst 1, 1) := by decide +kernel
theorem d_Mo_border_108 : decode c_Mo_border 108 = .ok (.iload_n 1, 1) := by decide +kernel
theorem d_Mo_border_109 : decode c_Mo_border 109 = .ok (.ishl, 1) := by decide +kernel
theorem d_Mo_border_110 : decode c_Mo_border 110 = .ok (.ior, 1) := by decide +kernel
theorem d_Mo_border_111 : decode c_Mo_border 111 = .ok (.iastore, 1) := by decide +kernel
theorem d_Mo_border_112 : decode c_Mo_border 112 = .ok (.aload_n 0, 1) := by decide +kernel
theorem d_Mo_border_113 : decode c_Mo_border 113 = .ok (.dup, 1) := by decide +kernel
theorem d_Mo_border_114 : decode c_Mo_border 114 = .ok (.getfield 102, 3) := by decide +kernel
theorem d_Mo_border_117 : decode c_Mo_border 117 = .ok (.iconst 1, 1) := by decide +kernel
theorem d_Mo_border_118 : decode c_Mo_border 118 = .ok (.iadd, 1) := by decide +kernel
theorem d_Mo_border_119 : decode c_Mo_border 119 = .ok (.putfield 102, 3) := by decide +kernel
theorem d_Mo_border_122 : decode c_Mo_border 122 = .ok (.aload_n 0, 1) := by decide +kernel
theorem d_Mo_border_123 : decode c_Mo_border 123 = .ok (.getfield 102, 3) := by decide +kernel
theorem d_Mo_border_126 : decode c_Mo_border 126 = .ok (.iconst 1, 1) := by decide +kernel
theorem d_Mo_border_127 : decode c_Mo_border 127 = .ok (.isub, 1) := by decide +kernel
theorem d_Mo_border_128 : decode c_Mo_border 128 = .ok (.ireturn, 1) := by decide +kernel
theorem d_Mo_law_0 : decode c_Mo_law 0 = .ok (.iload_n 1, 1) := by decide +kernel
theorem d_Mo_law_1 : decode c_Mo_law 1 = .ok (.iconst 1, 1) := by decide +kernel
theorem d_Mo_law_2 : decode c_Mo_law 2 = .ok (.bipush 6, 2) := by decide +kernel
theorem d_Mo_law_4 : decode c_Mo_law 4 = .ok (.invokestatic 87, 3) := by decide +kernel
theorem d_Mo_law_7 : decode c_Mo_law 7 = .ok (.ifCond .eq 14, 3) := by decide +kernel
theorem d_Mo_law_10 : decode c_Mo_law 10 = .ok (.iload_n 2, 1) := by decide +kernel
theorem d_Mo_law_11 : decode c_Mo_law 11 = .ok (.iconst 0, 1) := by decide +kernel
theorem d_Mo_law_12 : decode c_Mo_law 12 = .ok (.sipush 1000, 3) := by decide +kernel
theorem d_Mo_law_15 : decode c_Mo_law 15 = .ok (.invokestatic 87, 3) := by decide +kernel
theorem d_Mo_law_18 : decode c_Mo_law 18 = .ok (.ifCond .ne 5, 3) := by decide +kernel
theorem d_Mo_law_21 : decode c_Mo_law 21 = .ok (.iconst (-1), 1) := by decide +kernel
theorem d_Mo_law_22 : decode c_Mo_law 22 = .ok (.ireturn, 1) := by decide +kernel
theorem d_Mo_law_23 : decode c_Mo_law 23 = .ok (.aload_n 0, 1) := by decide +kernel
theorem d_Mo_law_24 : decode c_Mo_law 24 = .ok (.iload_n 1, 1) := by decide +kernel
theorem d_Mo_law_25 : decode c_Mo_law 25 = .ok (.putfield 34, 3) := by decide +kernel
theorem d_Mo_law_28 : decode c_Mo_law 28 = .ok (.aload_n 0, 1) := by decide +kernel
theorem d_Mo_law_29 : decode c_Mo_law 29 = .ok (.iload_n 2, 1) := by decide +kernel
theorem d_Mo_law_30 : decode c_Mo_law 30 = .ok (.putfield 38, 3) := by decide +kernel
theorem d_Mo_law_33 : decode c_Mo_law 33 = .ok (.iconst 0, 1) := by decide +kernel
theorem d_Mo_law_34 : decode c_Mo_law 34 = .ok (.istore_n 3, 1) := by decide +kernel
theorem d_Mo_law_35 : decode c_Mo_law 35 = .ok (.iload_n 3, 1) := by decide +kernel
theorem d_Mo_law_36 : decode c_Mo_law 36 = .ok (.bipush 30, 2) := by decide +kernel
theorem d_Mo_law_38 : decode c_Mo_law 38 = .ok (.if_icmp .ge 23, 3) := by decide +kernel
theorem d_Mo_law_41 : decode c_Mo_law 41 = .ok (.aload_n 0, 1) := by decide +kernel
theorem d_Mo_law_42 : decode c_Mo_law 42 = .ok (.getfield 51, 3) := by decide +kernel
theorem d_Mo_law_45 : decode c_Mo_law 45 = .ok (.iload_n 3, 1) := by decide +kernel
theorem d_Mo_law_46 : decode c_Mo_law 46 = .ok (.iconst 0, 1) := by decide +kernel
theorem d_Mo_law_47 : decode c_Mo_law 47 = .ok (.iastore, 1) := by decide +kernel
theorem d_Mo_law_48 : decode c_Mo_law 48 = .ok (.aload_n 0, 1) := by decide +kernel
theorem d_Mo_law_49 : decode c_Mo_law 49 = .ok (.getfield 48, 3) := by decide +kernel
theorem d_Mo_law_52 : decode c_Mo_law 52 = .ok (.iload_n 3, 1) := by decide +kernel
theorem d_Mo_law_53 : decode c_Mo_law 53 = .ok (.iconst (-1), 1) := by decide +kernel
theorem d_Mo_law_54 : decode c_Mo_law 54 = .ok (.iastore, 1) := by decide +kernel
theorem d_Mo_law_55 : decode c_Mo_law 55 = .ok (.iinc 3 1, 3) := by decide +kernel
theorem d_Mo_law_58 : decode c_Mo_law 58 = .ok (.goto (-23), 3) := by decide +kernel
theorem d_Mo_law_61 : decode c_Mo_law 61 = .ok (.iconst 1, 1) := by decide +kernel
theorem d_Mo_law_62 : decode c_Mo_law 62 = .ok (.ireturn, 1) := by decide +kernel
theorem d_Mo_keep_0 : decode c_Mo_keep 0 = .ok (.iload_n 1, 1) := by decide +kernel
theorem d_Mo_keep_1 : decode c_Mo_keep 1 = .ok (.iconst 0, 1) := by decide +kernel
theorem d_Mo_keep_2 : decode c_Mo_keep 2 = .ok (.bipush 9, 2) := by decide +kernel
theorem d_Mo_keep_4 : decode c_Mo_keep 4 = .ok (.invokestatic 87, 3) := by decide +kernel
theorem d_Mo_keep_7 : decode c_Mo_keep 7 = .ok (.ifCond .eq 12, 3) := by decide +kernel
theorem d_Mo_keep_10 : decode c_Mo_keep 10 = .ok (.iload_n 2, 1) := by decide +kernel
theorem d_Mo_keep_11 : decode c_Mo_keep 11 = .ok (.iconst 0, 1) := by decide +kernel
theorem d_Mo_keep_12 : decode c_Mo_keep 12 = .ok (.iconst 1, 1) := by decide +kernel
theorem d_Mo_keep_13 : decode c_Mo_keep 13 = .ok (.invokestatic 87, 3) := by decide +kernel
theorem d_Mo_keep_16 : decode c_Mo_keep 16 = .ok (.ifCond .ne 5, 3) := by decide +kernel
theorem d_Mo_keep_19 : decode c_Mo_keep 19 = .ok (.iconst (-1), 1) := by decide +kernel
theorem d_Mo_keep_20 : decode c_Mo_keep 20 = .ok (.ireturn, 1) := by decide +kernel
theorem d_Mo_keep_21 : decode c_Mo_keep 21 = .ok (.aload_n 0, 1) := by decide +kernel
theorem d_Mo_keep_22 : decode c_Mo_keep 22 = .ok (.getfield 41, 3) := by decide +kernel
theorem d_Mo_keep_25 : decode c_Mo_keep 25 = .ok (.iload_n 1, 1) := by decide +kernel
theorem d_Mo_keep_26 : decode c_Mo_keep 26 = .ok (.baload, 1) := by decide +kernel
theorem d_Mo_keep_27 : decode c_Mo_keep 27 = .ok (.ifCond .eq 7, 3) := by decide +kernel
theorem d_Mo_keep_30 : decode c_Mo_keep 30 = .ok (.iconst 1, 1) := by decide +kernel
theorem d_Mo_keep_31 : decode c_Mo_keep 31 = .ok (.goto 4, 3) := by decide +kernel
theorem d_Mo_keep_34 : decode c_Mo_keep 34 = .ok (.iconst 0, 1) := by decide +kernel
theorem d_Mo_keep_35 : decode c_Mo_keep 35 = .ok (.istore_n 3, 1) := by decide +kernel
theorem d_Mo_keep_36 : decode c_Mo_keep 36 = .ok (.aload_n 0, 1) := by decide +kernel
theorem d_Mo_keep_37 : decode c_Mo_keep 37 = .ok (.getfield 41, 3) := by decide +kernel
theorem d_Mo_keep_40 : decode c_Mo_keep 40 = .ok (.iload_n 1, 1) := by decide +kernel
theorem d_Mo_keep_41 : decode c_Mo_keep 41 = .ok (.iload_n 2, 1) := by decide +kernel
theorem d_Mo_keep_42 : decode c_Mo_keep 42 = .ok (.iconst 1, 1) := by decide +kernel
theorem d_Mo_keep_43 : decode c_Mo_keep 43 = .ok (.if_icmp .ne 7, 3) := by decide +kernel
theorem d_Mo_keep_46 : decode c_Mo_keep 46 = .ok (.iconst 1, 1) := by decide +kernel
theorem d_Mo_keep_47 : decode c_Mo_keep 47 = .ok (.goto 4, 3) := by decide +kernel
theorem d_Mo_keep_50 : decode c_Mo_keep 50 = .ok (.iconst 0, 1) := by decide +kernel
theorem d_Mo_keep_51 : decode c_Mo_keep 51 = .ok (.bastore, 1) := by decide +kernel
theorem d_Mo_keep_52 : decode c_Mo_keep 52 = .ok (.iload_n 3, 1) := by decide +kernel
theorem d_Mo_keep_53 : decode c_Mo_keep 53 = .ok (.ireturn, 1) := by decide +kernel
theorem d_Mo_cuts_0 : decode c_Mo_cuts 0 = .ok (.iload_n 1, 1) := by decide +kernel
theorem d_Mo_cuts_1 : decode c_Mo_cuts 1 = .ok (.iconst 0, 1) := by decide +kernel
theorem d_Mo_cuts_2 : decode c_Mo_cuts 2 = .ok (.bipush 10, 2) := by decide +kernel
theorem d_Mo_cuts_4 : decode c_Mo_cuts 4 = .ok (.invokestatic 87, 3) := by decide +kernel
theorem d_Mo_cuts_7 : decode c_Mo_cuts 7 = .ok (.ifCond .ne 5, 3) := by decide +kernel
theorem d_Mo_cuts_10 : decode c_Mo_cuts 10 = .ok (.iconst (-1), 1) := by decide +kernel
theorem d_Mo_cuts_11 : decode c_Mo_cuts 11 = .ok (.ireturn, 1) := by decide +kernel
theorem d_Mo_cuts_12 : decode c_Mo_cuts 12 = .ok (.aload_n 0, 1) := by decide +kernel
theorem d_Mo_cuts_13 : decode c_Mo_cuts 13 = .ok (.getfield 45, 3) := by decide +kernel
theorem d_Mo_cuts_16 : decode c_Mo_cuts 16 = .ok (.istore_n 2, 1) := by decide +kernel
theorem d_Mo_cuts_17 : decode c_Mo_cuts 17 = .ok (.aload_n 0, 1) := by decide +kernel
theorem d_Mo_cuts_18 : decode c_Mo_cuts 18 = .ok (.iload_n 1, 1) := by decide +kernel
theorem d_Mo_cuts_19 : decode c_Mo_cuts 19 = .ok (.putfield 45, 3) := by decide +kernel
theorem d_Mo_cuts_22 : decode c_Mo_cuts 22 = .ok (.iload_n 2, 1) := by decide +kernel
theorem d_Mo_cuts_23 : decode c_Mo_cuts 23 = .ok (.ireturn, 1) := by decide +kernel
theorem d_Mo_fix_0 : decode c_Mo_fix 0 = .ok (.aload_n 0, 1) := by decide +kernel
theorem d_Mo_fix_1 : decode c_Mo_fix 1 = .ok (.iload_n 1, 1) := by decide +kernel
theorem d_Mo_fix_2 : decode c_Mo_fix 2 = .ok (.invokevirtual 94, 3) := by decide +kernel
theorem d_Mo_fix_5 : decode c_Mo_fix 5 = .ok (.ifCond .eq 17, 3) := by decide +kernel
theorem d_Mo_fix_8 : decode c_Mo_fix 8 = .ok (.iload_n 2, 1) := by decide +kernel
theorem d_Mo_fix_9 : decode c_Mo_fix 9 = .ok (.iconst (-1), 1) := by decide +kernel
theorem d_Mo_fix_10 : decode c_Mo_fix 10 = .ok (.aload_n 0, 1) := by decide +kernel
theorem d_Mo_fix_11 : decode c_Mo_fix 11 = .ok (.getfield 34, 3) := by decide +kernel
theorem d_Mo_fix_14 : decode c_Mo_fix 14 = .ok (.iconst 1, 1) := by decide +kernel
theorem d_Mo_fix_15 : decode c_Mo_fix 15 = .ok (.isub, 1) := by decide +kernel
theorem d_Mo_fix_16 : decode c_Mo_fix 16 = .ok (.invokestatic 87, 3) := by decide +kernel
theorem d_Mo_fix_19 : decode c_Mo_fix 19 = .ok (.ifCond .ne 5, 3) := by decide +kernel
theorem d_Mo_fix_22 : decode c_Mo_fix 22 = .ok (.iconst (-1), 1) := by decide +kernel
theorem d_Mo_fix_23 : decode c_Mo_fix 23 = .ok (.ireturn, 1) := by decide +kernel
theorem d_Mo_fix_24 : decode c_Mo_fix 24 = .ok (.aload_n 0, 1) := by decide +kernel
theorem d_Mo_fix_25 : decode c_Mo_fix 25 = .ok (.getfield 48, 3) := by decide +kernel
theorem d_Mo_fix_28 : decode c_Mo_fix 28 = .ok (.iload_n 1, 1) := by decide +kernel
theorem d_Mo_fix_29 : decode c_Mo_fix 29 = .ok (.iaload, 1) := by decide +kernel
theorem d_Mo_fix_30 : decode c_Mo_fix 30 = .ok (.istore_n 3, 1) := by decide +kernel
theorem d_Mo_fix_31 : decode c_Mo_fix 31 = .ok (.aload_n 0, 1) := by decide +kernel
theorem d_Mo_fix_32 : decode c_Mo_fix 32 = .ok (.getfield 48, 3) := by decide +kernel
theorem d_Mo_fix_35 : decode c_Mo_fix 35 = .ok (.iload_n 1, 1) := by decide +kernel
theorem d_Mo_fix_36 : decode c_Mo_fix 36 = .ok (.iload_n 2, 1) := by decide +kernel
theorem d_Mo_fix_37 : decode c_Mo_fix 37 = .ok (.iastore, 1) := by decide +kernel
theorem d_Mo_fix_38 : decode c_Mo_fix 38 = .ok (.iload_n 3, 1) := by decide +kernel
theorem d_Mo_fix_39 : decode c_Mo_fix 39 = .ok (.ireturn, 1) := by decide +kernel
theorem d_Mo_people_0 : decode c_Mo_people 0 = .ok (.aload_n 0, 1) := by decide +kernel
theorem d_Mo_people_1 : decode c_Mo_people 1 = .ok (.iload_n 1, 1) := by decide +kernel
theorem d_Mo_people_2 : decode c_Mo_people 2 = .ok (.invokevirtual 94, 3) := by decide +kernel
theorem d_Mo_people_5 : decode c_Mo_people 5 = .ok (.ifCond .eq 14, 3) := by decide +kernel
theorem d_Mo_people_8 : decode c_Mo_people 8 = .ok (.iload_n 2, 1) := by decide +kernel
theorem d_Mo_people_9 : decode c_Mo_people 9 = .ok (.iconst 0, 1) := by decide +kernel
theorem d_Mo_people_10 : decode c_Mo_people 10 = .ok (.sipush 1000, 3) := by decide +kernel
theorem d_Mo_people_13 : decode c_Mo_people 13 = .ok (.invokestatic 87, 3) := by decide +kernel
theorem d_Mo_people_16 : decode c_Mo_people 16 = .ok (.ifCond .ne 5, 3) := by decide +kernel
theorem d_Mo_people_19 : decode c_Mo_people 19 = .ok (.iconst (-1), 1) := by decide +kernel
theorem d_Mo_people_20 : decode c_Mo_people 20 = .ok (.ireturn, 1) := by decide +kernel
theorem d_Mo_people_21 : decode c_Mo_people 21 = .ok (.aload_n 0, 1) := by decide +kernel
theorem d_Mo_people_22 : decode c_Mo_people 22 = .ok (.getfield 9, 3) := by decide +kernel
theorem d_Mo_people_25 : decode c_Mo_people 25 = .ok (.iload_n 1, 1) := by decide +kernel
theorem d_Mo_people_26 : decode c_Mo_people 26 = .ok (.iaload, 1) := by decide +kernel
theorem d_Mo_people_27 : decode c_Mo_people 27 = .ok (.istore_n 3, 1) := by decide +kernel
theorem d_Mo_people_28 : decode c_Mo_people 28 = .ok (.aload_n 0, 1) := by decide +kernel
theorem d_Mo_people_29 : decode c_Mo_people 29 = .ok (.getfield 9, 3) := by decide +kernel
theorem d_Mo_people_32 : decode c_Mo_people 32 = .ok (.iload_n 1, 1) := by decide +kernel
theorem d_Mo_people_33 : decode c_Mo_people 33 = .ok (.iload_n 2, 1) := by decide +kernel
theorem d_Mo_people_34 : decode c_Mo_people 34 = .ok (.iastore, 1) := by decide +kernel
theorem d_Mo_people_35 : decode c_Mo_people 35 = .ok (.iload_n 3, 1) := by decide +kernel
theorem d_Mo_people_36 : decode c_Mo_people 36 = .ok (.ireturn, 1) := by decide +kernel
theorem d_Mo_bitsOf_0 : decode c_Mo_bitsOf 0 = .ok (.iconst 0, 1) := by decide +kernel
theorem d_Mo_bitsOf_1 : decode c_Mo_bitsOf 1 = .ok (.istore_n 2, 1) := by decide +kernel
theorem d_Mo_bitsOf_2 : decode c_Mo_bitsOf 2 = .ok (.iconst 0, 1) := by decide +kernel
theorem d_Mo_bitsOf_3 : decode c_Mo_bitsOf 3 = .ok (.istore_n 3, 1) := by decide +kernel
theorem d_Mo_bitsOf_4 : decode c_Mo_bitsOf 4 = .ok (.iload_n 3, 1) := by decide +kernel
theorem d_Mo_bitsOf_5 : decode c_Mo_bitsOf 5 = .ok (.aload_n 0, 1) := by decide +kernel
theorem d_Mo_bitsOf_6 : decode c_Mo_bitsOf 6 = .ok (.getfield 91, 3) := by decide +kernel
theorem d_Mo_bitsOf_9 : decode c_Mo_bitsOf 9 = .ok (.if_icmp .ge 29, 3) := by decide +kernel
theorem d_Mo_bitsOf_12 : decode c_Mo_bitsOf 12 = .ok (.iload_n 2, 1) := by decide +kernel
theorem d_Mo_bitsOf_13 : decode c_Mo_bitsOf 13 = .ok (.aload_n 0, 1) := by decide +kernel
theorem d_Mo_bitsOf_14 : decode c_Mo_bitsOf 14 = .ok (.getfield 51, 3) := by decide +kernel
theorem d_Mo_bitsOf_17 : decode c_Mo_bitsOf 17 = .ok (.iload_n 3, 1) := by decide +kernel
theorem d_Mo_bitsOf_18 : decode c_Mo_bitsOf 18 = .ok (.iaload, 1) := by decide +kernel
theorem d_Mo_bitsOf_19 : decode c_Mo_bitsOf 19 = .ok (.iload_n 1, 1) := by decide +kernel
theorem d_Mo_bitsOf_20 : decode c_Mo_bitsOf 20 = .ok (.if_icmp .ne 9, 3) := by decide +kernel
theorem d_Mo_bitsOf_23 : decode c_Mo_bitsOf 23 = .ok (.iconst 1, 1) := by decide +kernel
theorem d_Mo_bitsOf_24 : decode c_Mo_bitsOf 24 = .ok (.iload_n 3, 1) := by decide +kernel
theorem d_Mo_bitsOf_25 : decode c_Mo_bitsOf 25 = .ok (.ishl, 1) := by decide +kernel
theorem d_Mo_bitsOf_26 : decode c_Mo_bitsOf 26 = .ok (.goto 4, 3) := by decide +kernel
theorem d_Mo_bitsOf_29 : decode c_Mo_bitsOf 29 = .ok (.iconst 0, 1) := by decide +kernel
theorem d_Mo_bitsOf_30 : decode c_Mo_bitsOf 30 = .ok (.ior, 1) := by decide +kernel
theorem d_Mo_bitsOf_31 : decode c_Mo_bitsOf 31 = .ok (.istore_n 2, 1) := by decide +kernel
theorem d_Mo_bitsOf_32 : decode c_Mo_bitsOf 32 = .ok (.iinc 3 1, 3) := by decide +kernel
theorem d_Mo_bitsOf_35 : decode c_Mo_bitsOf 35 = .ok (.goto (-31), 3) := by decide +kernel
theorem d_Mo_bitsOf_38 : decode c_Mo_bitsOf 38 = .ok (.iload_n 2, 1) := by decide +kernel
theorem d_Mo_bitsOf_39 : decode c_Mo_bitsOf 39 = .ok (.ireturn, 1) := by decide +kernel
theorem d_Mo_peopleOf_0 : decode c_Mo_peopleOf 0 = .ok (.iconst 0, 1) := by decide +kernel
theorem d_Mo_peopleOf_1 : decode c_Mo_peopleOf 1 = .ok (.istore_n 2, 1) := by decide +kernel
theorem d_Mo_peopleOf_2 : decode c_Mo_peopleOf 2 = .ok (.iconst 0, 1) := by decide +kernel
theorem d_Mo_peopleOf_3 : decode c_Mo_peopleOf 3 = .ok (.istore_n 3, 1) := by decide +kernel
theorem d_Mo_peopleOf_4 : decode c_Mo_peopleOf 4 = .ok (.iload_n 3, 1) := by decide +kernel
theorem d_Mo_peopleOf_5 : decode c_Mo_peopleOf 5 = .ok (.aload_n 0, 1) := by decide +kernel
theorem d_Mo_peopleOf_6 : decode c_Mo_peopleOf 6 = .ok (.getfield 91, 3) := by decide +kernel
theorem d_Mo_peopleOf_9 : decode c_Mo_peopleOf 9 = .ok (.if_icmp .ge 30, 3) := by decide +kernel
theorem d_Mo_peopleOf_12 : decode c_Mo_peopleOf 12 = .ok (.iload_n 2, 1) := by decide +kernel
theorem d_Mo_peopleOf_13 : decode c_Mo_peopleOf 13 = .ok (.iload_n 1, 1) := by decide +kernel
theorem d_Mo_peopleOf_14 : decode c_Mo_peopleOf 14 = .ok (.iload_n 3, 1) := by decide +kernel
theorem d_Mo_peopleOf_15 : decode c_Mo_peopleOf 15 = .ok (.invokestatic 98, 3) := by decide +kernel
theorem d_Mo_peopleOf_18 : decode c_Mo_peopleOf 18 = .ok (.ifCond .eq 12, 3) := by decide +kernel
theorem d_Mo_peopleOf_21 : decode c_Mo_peopleOf 21 = .ok (.aload_n 0, 1) := by decide +kernel
theorem d_Mo_peopleOf_22 : decode c_Mo_peopleOf 22 = .ok (.getfield 9, 3) := by decide +kernel
theorem d_Mo_peopleOf_25 : decode c_Mo_peopleOf 25 = .ok (.iload_n 3, 1) := by decide +kernel
theorem d_Mo_peopleOf_26 : decode c_Mo_peopleOf 26 = .ok (.iaload, 1) := by decide +kernel
theorem d_Mo_peopleOf_27 : decode c_Mo_peopleOf 27 = .ok (.goto 4, 3) := by decide +kernel
theorem d_Mo_peopleOf_30 : decode c_Mo_peopleOf 30 = .ok (.iconst 0, 1) := by decide +kernel
theorem d_Mo_peopleOf_31 : decode c_Mo_peopleOf 31 = .ok (.iadd, 1) := by decide +kernel
theorem d_Mo_peopleOf_32 : decode c_Mo_peopleOf 32 = .ok (.istore_n 2, 1) := by decide +kernel
theorem d_Mo_peopleOf_33 : decode c_Mo_peopleOf 33 = .ok (.iinc 3 1, 3) := by decide +kernel
theorem d_Mo_peopleOf_36 : decode c_Mo_peopleOf 36 = .ok (.goto (-32), 3) := by decide +kernel
theorem d_Mo_peopleOf_39 : decode c_Mo_peopleOf 39 = .ok (.iload_n 2, 1) := by decide +kernel
theorem d_Mo_peopleOf_40 : decode c_Mo_peopleOf 40 = .ok (.ireturn, 1) := by decide +kernel
theorem d_Mo_all_0 : decode c_Mo_all 0 = .ok (.aload_n 0, 1) := by decide +kernel
theorem d_Mo_all_1 : decode c_Mo_all 1 = .ok (.iconst 1, 1) := by decide +kernel
theorem d_Mo_all_2 : decode c_Mo_all 2 = .ok (.aload_n 0, 1) := by decide +kernel
theorem d_Mo_all_3 : decode c_Mo_all 3 = .ok (.getfield 91, 3) := by decide +kernel
theorem d_Mo_all_6 : decode c_Mo_all 6 = .ok (.ishl, 1) := by decide +kernel
theorem d_Mo_all_7 : decode c_Mo_all 7 = .ok (.iconst 1, 1) := by decide +kernel
theorem d_Mo_all_8 : decode c_Mo_all 8 = .ok (.isub, 1) := by decide +kernel
theorem d_Mo_all_9 : decode c_Mo_all 9 = .ok (.invokevirtual 105, 3) := by decide +kernel
theorem d_Mo_all_12 : decode c_Mo_all 12 = .ok (.ireturn, 1) := by decide +kernel
theorem d_Mo_leastOf_0 : decode c_Mo_leastOf 0 = .ok (.iconst 0, 1) := by decide +kernel
theorem d_Mo_leastOf_1 : decode c_Mo_leastOf 1 = .ok (.istore_n 1, 1) := by decide +kernel
theorem d_Mo_leastOf_2 : decode c_Mo_leastOf 2 = .ok (.iload_n 0, 1) := by decide +kernel
theorem d_Mo_leastOf_3 : decode c_Mo_leastOf 3 = .ok (.iload_n 1, 1) := by decide +kernel
theorem d_Mo_leastOf_4 : decode c_Mo_leastOf 4 = .ok (.invokestatic 98, 3) := by decide +kernel
theorem d_Mo_leastOf_7 : decode c_Mo_leastOf 7 = .ok (.ifCond .ne 9, 3) := by decide +kernel
theorem d_Mo_leastOf_10 : decode c_Mo_leastOf 10 = .ok (.iinc 1 1, 3) := by decide +kernel
theorem d_Mo_leastOf_13 : decode c_Mo_leastOf 13 = .ok (.goto (-11), 3) := by decide +kernel
theorem d_Mo_leastOf_16 : decode c_Mo_leastOf 16 = .ok (.iload_n 1, 1) := by decide +kernel
theorem d_Mo_leastOf_17 : decode c_Mo_leastOf 17 = .ok (.ireturn, 1) := by decide +kernel
theorem d_Mo_reached_0 : decode c_Mo_reached 0 = .ok (.iconst 1, 1) := by decide +kernel
theorem d_Mo_reached_1 : decode c_Mo_reached 1 = .ok (.iload_n 1, 1) := by decide +kernel
theorem d_Mo_reached_2 : decode c_Mo_reached 2 = .ok (.invokestatic 109, 3) := by decide +kernel
theorem d_Mo_reached_5 : decode c_Mo_reached 5 = .ok (.ishl, 1) := by decide +kernel
theorem d_Mo_reached_6 : decode c_Mo_reached 6 = .ok (.istore_n 2, 1) := by decide +kernel
theorem d_Mo_reached_7 : decode c_Mo_reached 7 = .ok (.iconst 1, 1) := by decide +kernel
theorem d_Mo_reached_8 : decode c_Mo_reached 8 = .ok (.istore_n 3, 1) := by decide +kernel
theorem d_Mo_reached_9 : decode c_Mo_reached 9 = .ok (.iload_n 3, 1) := by decide +kernel
theorem d_Mo_reached_10 : decode c_Mo_reached 10 = .ok (.ifCond .eq 69, 3) := by decide +kernel
theorem d_Mo_reached_13 : decode c_Mo_reached 13 = .ok (.iload_n 2, 1) := by decide +kernel
theorem d_Mo_reached_14 : decode c_Mo_reached 14 = .ok (.istore 4, 2) := by decide +kernel
theorem d_Mo_reached_16 : decode c_Mo_reached 16 = .ok (.iconst 0, 1) := by decide +kernel
theorem d_Mo_reached_17 : decode c_Mo_reached 17 = .ok (.istore 5, 2) := by decide +kernel
theorem d_Mo_reached_19 : decode c_Mo_reached 19 = .ok (.iload 5, 2) := by decide +kernel
theorem d_Mo_reached_21 : decode c_Mo_reached 21 = .ok (.aload_n 0, 1) := by decide +kernel
theorem d_Mo_reached_22 : decode c_Mo_reached 22 = .ok (.getfield 91, 3) := by decide +kernel
theorem d_Mo_reached_25 : decode c_Mo_reached 25 = .ok (.if_icmp .ge 36, 3) := by decide +kernel
theorem d_Mo_reached_28 : decode c_Mo_reached 28 = .ok (.iload 4, 2) := by decide +kernel
theorem d_Mo_reached_30 : decode c_Mo_reached 30 = .ok (.iload_n 2, 1) := by decide +kernel
theorem d_Mo_reached_31 : decode c_Mo_reached 31 = .ok (.iload 5, 2) := by decide +kernel
theorem d_Mo_reached_33 : decode c_Mo_reached 33 = .ok (.invokestatic 98, 3) := by decide +kernel
theorem d_Mo_reached_36 : decode c_Mo_reached 36 = .ok (.ifCond .eq 15, 3) := by decide +kernel
theorem d_Mo_reached_39 : decode c_Mo_reached 39 = .ok (.aload_n 0, 1) := by decide +kernel
theorem d_Mo_reached_40 : decode c_Mo_reached 40 = .ok (.getfield 31, 3) := by decide +kernel
theorem d_Mo_reached_43 : decode c_Mo_reached 43 = .ok (.iload 5, 2) := by decide +kernel
theorem d_Mo_reached_45 : decode c_Mo_reached 45 = .ok (.iaload, 1) := by decide +kernel
theorem d_Mo_reached_46 : decode c_Mo_reached 46 = .ok (.iload_n 1, 1) := by decide +kernel
theorem d_Mo_reached_47 : decode c_Mo_reached 47 = .ok (.iand, 1) := by decide +kernel
theorem d_Mo_reached_48 : decode c_Mo_reached 48 = .ok (.goto 4, 3) := by decide +kernel
theorem d_Mo_reached_51 : decode c_Mo_reached 51 = .ok (.iconst 0, 1) := by decide +kernel
theorem d_Mo_reached_52 : decode c_Mo_reached 52 = .ok (.ior, 1) := by decide +kernel
theorem d_Mo_reached_53 : decode c_Mo_reached 53 = .ok (.istore 4, 2) := by decide +kernel
theorem d_Mo_reached_55 : decode c_Mo_reached 55 = .ok (.iinc 5 1, 3) := by decide +kernel
theorem d_Mo_reached_58 : decode c_Mo_reached 58 = .ok (.goto (-39), 3) := by decide +kernel
theorem d_Mo_reached_61 : decode c_Mo_reached 61 = .ok (.iload 4, 2) := by decide +kernel
theorem d_Mo_reached_63 : decode c_Mo_reached 63 = .ok (.iload_n 2, 1) := by decide +kernel
theorem d_Mo_reached_64 : decode c_Mo_reached 64 = .ok (.if_icmp .eq 7, 3) := by decide +kernel
theorem d_Mo_reached_67 : decode c_Mo_reached 67 = .ok (.iconst 1, 1) := by decide +kernel
theorem d_Mo_reached_68 : decode c_Mo_reached 68 = .ok (.goto 4, 3) := by decide +kernel
theorem d_Mo_reached_71 : decode c_Mo_reached 71 = .ok (.iconst 0, 1) := by decide +kernel
theorem d_Mo_reached_72 : decode c_Mo_reached 72 = .ok (.istore_n 3, 1) := by decide +kernel
theorem d_Mo_reached_73 : decode c_Mo_reached 73 = .ok (.iload 4, 2) := by decide +kernel
theorem d_Mo_reached_75 : decode c_Mo_reached 75 = .ok (.istore_n 2, 1) := by decide +kernel
theorem d_Mo_reached_76 : decode c_Mo_reached 76 = .ok (.goto (-67), 3) := by decide +kernel
theorem d_Mo_reached_79 : decode c_Mo_reached 79 = .ok (.iload_n 2, 1) := by decide +kernel
theorem d_Mo_reached_80 : decode c_Mo_reached 80 = .ok (.ireturn, 1) := by decide +kernel
theorem d_Mo_fits_0 : decode c_Mo_fits 0 = .ok (.aload_n 0, 1) := by decide +kernel
theorem d_Mo_fits_1 : decode c_Mo_fits 1 = .ok (.getfield 34, 3) := by decide +kernel
theorem d_Mo_fits_4 : decode c_Mo_fits 4 = .ok (.aload_n 0, 1) := by decide +kernel
theorem d_Mo_fits_5 : decode c_Mo_fits 5 = .ok (.iload_n 1, 1) := by decide +kernel
theorem d_Mo_fits_6 : decode c_Mo_fits 6 = .ok (.invokevirtual 105, 3) := by decide +kernel
theorem d_Mo_fits_9 : decode c_Mo_fits 9 = .ok (.imul, 1) := by decide +kernel
theorem d_Mo_fits_10 : decode c_Mo_fits 10 = .ok (.aload_n 0, 1) := by decide +kernel
theorem d_Mo_fits_11 : decode c_Mo_fits 11 = .ok (.invokevirtual 112, 3) := by decide +kernel
theorem d_Mo_fits_14 : decode c_Mo_fits 14 = .ok (.isub, 1) := by decide +kernel
theorem d_Mo_fits_15 : decode c_Mo_fits 15 = .ok (.istore_n 2, 1) := by decide +kernel
theorem d_Mo_fits_16 : decode c_Mo_fits 16 = .ok (.ldc2_w 116, 3) := by decide +kernel
theorem d_Mo_fits_19 : decode c_Mo_fits 19 = .ok (.iload_n 2, 1) := by decide +kernel
theorem d_Mo_fits_20 : decode c_Mo_fits 20 = .ok (.ifCond .ge 8, 3) := by decide +kernel
theorem d_Mo_fits_23 : decode c_Mo_fits 23 = .ok (.iload_n 2, 1) := by decide +kernel
theorem d_Mo_fits_24 : decode c_Mo_fits 24 = .ok (.ineg, 1) := by decide +kernel
theorem d_Mo_fits_25 : decode c_Mo_fits 25 = .ok (.goto 4, 3) := by decide +kernel
theorem d_Mo_fits_28 : decode c_Mo_fits 28 = .ok (.iload_n 2, 1) := by decide +kernel
theorem d_Mo_fits_29 : decode c_Mo_fits 29 = .ok (.i2l, 1) := by decide +kernel
theorem d_Mo_fits_30 : decode c_Mo_fits 30 = .ok (.lmul, 1) := by decide +kernel
theorem d_Mo_fits_31 : decode c_Mo_fits 31 = .ok (.aload_n 0, 1) := by decide +kernel
theorem d_Mo_fits_32 : decode c_Mo_fits 32 = .ok (.getfield 38, 3) := by decide +kernel
theorem d_Mo_fits_35 : decode c_Mo_fits 35 = .ok (.i2l, 1) := by decide +kernel
theorem d_Mo_fits_36 : decode c_Mo_fits 36 = .ok (.aload_n 0, 1) := by decide +kernel
theorem d_Mo_fits_37 : decode c_Mo_fits 37 = .ok (.invokevirtual 112, 3) := by decide +kernel
theorem d_Mo_fits_40 : decode c_Mo_fits 40 = .ok (.i2l, 1) := by decide +kernel
theorem d_Mo_fits_41 : decode c_Mo_fits 41 = .ok (.lmul, 1) := by decide +kernel
theorem d_Mo_fits_42 : decode c_Mo_fits 42 = .ok (.lcmp, 1) := by decide +kernel
theorem d_Mo_fits_43 : decode c_Mo_fits 43 = .ok (.ifCond .gt 7, 3) := by decide +kernel
theorem d_Mo_fits_46 : decode c_Mo_fits 46 = .ok (.iconst 1, 1) := by decide +kernel
theorem d_Mo_fits_47 : decode c_Mo_fits 47 = .ok (.goto 4, 3) := by decide +kernel
theorem d_Mo_fits_50 : decode c_Mo_fits 50 = .ok (.iconst 0, 1) := by decide +kernel
theorem d_Mo_fits_51 : decode c_Mo_fits 51 = .ok (.ireturn, 1) := by decide +kernel
theorem d_Mo_isCut_0 : decode c_Mo_isCut 0 = .ok (.iconst (-1), 1) := by decide +kernel
theorem d_Mo_isCut_1 : decode c_Mo_isCut 1 = .ok (.istore_n 2, 1) := by decide +kernel
theorem d_Mo_isCut_2 : decode c_Mo_isCut 2 = .ok (.iconst 0, 1) := by decide +kernel
theorem d_Mo_isCut_3 : decode c_Mo_isCut 3 = .ok (.istore_n 3, 1) := by decide +kernel
theorem d_Mo_isCut_4 : decode c_Mo_isCut 4 = .ok (.iconst 0, 1) := by decide +kernel
theorem d_Mo_isCut_5 : decode c_Mo_isCut 5 = .ok (.istore 4, 2) := by decide +kernel
theorem d_Mo_isCut_7 : decode c_Mo_isCut 7 = .ok (.iload 4, 2) := by decide +kernel
theorem d_Mo_isCut_9 : decode c_Mo_isCut 9 = .ok (.aload_n 0, 1) := by decide +kernel
theorem d_Mo_isCut_10 : decode c_Mo_isCut 10 = .ok (.getfield 91, 3) := by decide +kernel
theorem d_Mo_isCut_13 : decode c_Mo_isCut 13 = .ok (.if_icmp .ge 53, 3) := by decide +kernel
theorem d_Mo_isCut_16 : decode c_Mo_isCut 16 = .ok (.aload_n 0, 1) := by decide +kernel
theorem d_Mo_isCut_17 : decode c_Mo_isCut 17 = .ok (.getfield 19, 3) := by decide +kernel
theorem d_Mo_isCut_20 : decode c_Mo_isCut 20 = .ok (.iload 4, 2) := by decide +kernel
theorem d_Mo_isCut_22 : decode c_Mo_isCut 22 = .ok (.iaload, 1) := by decide +kernel
theorem d_Mo_isCut_23 : decode c_Mo_isCut 23 = .ok (.iload_n 1, 1) := by decide +kernel
theorem d_Mo_isCut_24 : decode c_Mo_isCut 24 = .ok (.if_icmp .ne 36, 3) := by decide +kernel
theorem d_Mo_isCut_27 : decode c_Mo_isCut 27 = .ok (.iload_n 3, 1) := by decide +kernel
theorem d_Mo_isCut_28 : decode c_Mo_isCut 28 = .ok (.ifCond .ne 18, 3) := by decide +kernel
theorem d_Mo_isCut_31 : decode c_Mo_isCut 31 = .ok (.iload_n 2, 1) := by decide +kernel
theorem d_Mo_isCut_32 : decode c_Mo_isCut 32 = .ok (.ifCond .lt 18, 3) := by decide +kernel
theorem d_Mo_isCut_35 : decode c_Mo_isCut 35 = .ok (.aload_n 0, 1) := by decide +kernel
theorem d_Mo_isCut_36 : decode c_Mo_isCut 36 = .ok (.getfield 51, 3) := by decide +kernel
theorem d_Mo_isCut_39 : decode c_Mo_isCut 39 = .ok (.iload 4, 2) := by decide +kernel
theorem d_Mo_isCut_41 : decode c_Mo_isCut 41 = .ok (.iaload, 1) := by decide +kernel
theorem d_Mo_isCut_42 : decode c_Mo_isCut 42 = .ok (.iload_n 2, 1) := by decide +kernel
theorem d_Mo_isCut_43 : decode c_Mo_isCut 43 = .ok (.if_icmp .eq 7, 3) := by decide +kernel
theorem d_Mo_isCut_46 : decode c_Mo_isCut 46 = .ok (.iconst 1, 1) := by decide +kernel
theorem d_Mo_isCut_47 : decode c_Mo_isCut 47 = .ok (.goto 4, 3) := by decide +kernel
theorem d_Mo_isCut_50 : decode c_Mo_isCut 50 = .ok (.iconst 0, 1) := by decide +kernel
theorem d_Mo_isCut_51 : decode c_Mo_isCut 51 = .ok (.istore_n 3, 1) := by decide +kernel
theorem d_Mo_isCut_52 : decode c_Mo_isCut 52 = .ok (.aload_n 0, 1) := by decide +kernel
theorem d_Mo_isCut_53 : decode c_Mo_isCut 53 = .ok (.getfield 51, 3) := by decide +kernel
theorem d_Mo_isCut_56 : decode c_Mo_isCut 56 = .ok (.iload 4, 2) := by decide +kernel
theorem d_Mo_isCut_58 : decode c_Mo_isCut 58 = .ok (.iaload, 1) := by decide +kernel
theorem d_Mo_isCut_59 : decode c_Mo_isCut 59 = .ok (.istore_n 2, 1) := by decide +kernel
theorem d_Mo_isCut_60 : decode c_Mo_isCut 60 = .ok (.iinc 4 1, 3) := by decide +kernel
theorem d_Mo_isCut_63 : decode c_Mo_isCut 63 = .ok (.goto (-56), 3) := by decide +kernel
theorem d_Mo_isCut_66 : decode c_Mo_isCut 66 = .ok (.iload_n 3, 1) := by decide +kernel
theorem d_Mo_isCut_67 : decode c_Mo_isCut 67 = .ok (.ireturn, 1) := by decide +kernel
theorem d_Mo_broken_0 : decode c_Mo_broken 0 = .ok (.iconst 0, 1) := by decide +kernel
theorem d_Mo_broken_1 : decode c_Mo_broken 1 = .ok (.istore_n 2, 1) := by decide +kernel
theorem d_Mo_broken_2 : decode c_Mo_broken 2 = .ok (.iload_n 2, 1) := by decide +kernel
theorem d_Mo_broken_3 : decode c_Mo_broken 3 = .ok (.aload_n 0, 1) := by decide +kernel
theorem d_Mo_broken_4 : decode c_Mo_broken 4 = .ok (.getfield 34, 3) := by decide +kernel
theorem d_Mo_broken_7 : decode c_Mo_broken 7 = .ok (.if_icmp .ge 24, 3) := by decide +kernel
theorem d_Mo_broken_10 : decode c_Mo_broken 10 = .ok (.aload_n 0, 1) := by decide +kernel
theorem d_Mo_broken_11 : decode c_Mo_broken 11 = .ok (.iload_n 2, 1) := by decide +kernel
theorem d_Mo_broken_12 : decode c_Mo_broken 12 = .ok (.putfield 118, 3) := by decide +kernel
theorem d_Mo_broken_15 : decode c_Mo_broken 15 = .ok (.aload_n 0, 1) := by decide +kernel
theorem d_Mo_broken_16 : decode c_Mo_broken 16 = .ok (.iload_n 2, 1) := by decide +kernel
theorem d_Mo_broken_17 : decode c_Mo_broken 17 = .ok (.invokevirtual 121, 3) := by decide +kernel
theorem d_Mo_broken_20 : decode c_Mo_broken 20 = .ok (.ifCond .ne 5, 3) := by decide +kernel
theorem d_Mo_broken_23 : decode c_Mo_broken 23 = .ok (.iconst 1, 1) := by decide +kernel
theorem d_Mo_broken_24 : decode c_Mo_broken 24 = .ok (.ireturn, 1) := by decide +kernel
theorem d_Mo_broken_25 : decode c_Mo_broken 25 = .ok (.iinc 2 1, 3) := by decide +kernel
theorem d_Mo_broken_28 : decode c_Mo_broken 28 = .ok (.goto (-26), 3) := by decide +kernel
theorem d_Mo_broken_31 : decode c_Mo_broken 31 = .ok (.iconst 0, 1) := by decide +kernel
theorem d_Mo_broken_32 : decode c_Mo_broken 32 = .ok (.istore_n 2, 1) := by decide +kernel
theorem d_Mo_broken_33 : decode c_Mo_broken 33 = .ok (.iload_n 2, 1) := by decide +kernel
theorem d_Mo_broken_34 : decode c_Mo_broken 34 = .ok (.aload_n 0, 1) := by decide +kernel
theorem d_Mo_broken_35 : decode c_Mo_broken 35 = .ok (.getfield 34, 3) := by decide +kernel
theorem d_Mo_broken_38 : decode c_Mo_broken 38 = .ok (.if_icmp .ge 55, 3) := by decide +kernel
theorem d_Mo_broken_41 : decode c_Mo_broken 41 = .ok (.aload_n 0, 1) := by decide +kernel
theorem d_Mo_broken_42 : decode c_Mo_broken 42 = .ok (.iload_n 2, 1) := by decide +kernel
theorem d_Mo_broken_43 : decode c_Mo_broken 43 = .ok (.invokevirtual 121, 3) := by decide +kernel
theorem d_Mo_broken_46 : decode c_Mo_broken 46 = .ok (.istore_n 3, 1) := by decide +kernel
theorem d_Mo_broken_47 : decode c_Mo_broken 47 = .ok (.iload_n 3, 1) := by decide +kernel
theorem d_Mo_broken_48 : decode c_Mo_broken 48 = .ok (.aload_n 0, 1) := by decide +kernel
theorem d_Mo_broken_49 : decode c_Mo_broken 49 = .ok (.iload_n 3, 1) := by decide +kernel
theorem d_Mo_broken_50 : decode c_Mo_broken 50 = .ok (.invokevirtual 124, 3) := by decide +kernel
theorem d_Mo_broken_53 : decode c_Mo_broken 53 = .ok (.iconst (-1), 1) := by decide +kernel
theorem d_Mo_broken_54 : decode c_Mo_broken 54 = .ok (.ixor, 1) := by decide +kernel
theorem d_Mo_broken_55 : decode c_Mo_broken 55 = .ok (.iand, 1) := by decide +kernel
theorem d_Mo_broken_56 : decode c_Mo_broken 56 = .ok (.istore 4, 2) := by decide +kernel
theorem d_Mo_broken_58 : decode c_Mo_broken 58 = .ok (.iload 4, 2) := by decide +kernel
theorem d_Mo_broken_60 : decode c_Mo_broken 60 = .ok (.ifCond .eq 27, 3) := by decide +kernel
theorem d_Mo_broken_63 : decode c_Mo_broken 63 = .ok (.aload_n 0, 1) := by decide +kernel
theorem d_Mo_broken_64 : decode c_Mo_broken 64 = .ok (.iload_n 2, 1) := by decide +kernel
theorem d_Mo_broken_65 : decode c_Mo_broken 65 = .ok (.putfield 118, 3) := by decide +kernel
theorem d_Mo_broken_68 : decode c_Mo_broken 68 = .ok (.aload_n 0, 1) := by decide +kernel
theorem d_Mo_broken_69 : decode c_Mo_broken 69 = .ok (.iload_n 3, 1) := by decide +kernel
theorem d_Mo_broken_70 : decode c_Mo_broken 70 = .ok (.invokestatic 109, 3) := by decide +kernel
theorem d_Mo_broken_73 : decode c_Mo_broken 73 = .ok (.putfield 127, 3) := by decide +kernel
theorem d_Mo_broken_76 : decode c_Mo_broken 76 = .ok (.aload_n 0, 1) := by decide +kernel
theorem d_Mo_broken_77 : decode c_Mo_broken 77 = .ok (.iload 4, 2) := by decide +kernel
theorem d_Mo_broken_79 : decode c_Mo_broken 79 = .ok (.invokestatic 109, 3) := by decide +kernel
theorem d_Mo_broken_82 : decode c_Mo_broken 82 = .ok (.putfield 130, 3) := by decide +kernel
theorem d_Mo_broken_85 : decode c_Mo_broken 85 = .ok (.iconst 2, 1) := by decide +kernel
theorem d_Mo_broken_86 : decode c_Mo_broken 86 = .ok (.ireturn, 1) := by decide +kernel
theorem d_Mo_broken_87 : decode c_Mo_broken 87 = .ok (.iinc 2 1, 3) := by decide +kernel
theorem d_Mo_broken_90 : decode c_Mo_broken 90 = .ok (.goto (-57), 3) := by decide +kernel
theorem d_Mo_broken_93 : decode c_Mo_broken 93 = .ok (.iconst 0, 1) := by decide +kernel
theorem d_Mo_broken_94 : decode c_Mo_broken 94 = .ok (.istore_n 2, 1) := by decide +kernel
theorem d_Mo_broken_95 : decode c_Mo_broken 95 = .ok (.iload_n 2, 1) := by decide +kernel
theorem d_Mo_broken_96 : decode c_Mo_broken 96 = .ok (.aload_n 0, 1) := by decide +kernel
theorem d_Mo_broken_97 : decode c_Mo_broken 97 = .ok (.getfield 34, 3) := by decide +kernel
theorem d_Mo_broken_100 : decode c_Mo_broken 100 = .ok (.if_icmp .ge 28, 3) := by decide +kernel
theorem d_Mo_broken_103 : decode c_Mo_broken 103 = .ok (.aload_n 0, 1) := by decide +kernel
theorem d_Mo_broken_104 : decode c_Mo_broken 104 = .ok (.iload_n 2, 1) := by decide +kernel
theorem d_Mo_broken_105 : decode c_Mo_broken 105 = .ok (.putfield 118, 3) := by decide +kernel
theorem d_Mo_broken_108 : decode c_Mo_broken 108 = .ok (.aload_n 0, 1) := by decide +kernel
theorem d_Mo_broken_109 : decode c_Mo_broken 109 = .ok (.aload_n 0, 1) := by decide +kernel
theorem d_Mo_broken_110 : decode c_Mo_broken 110 = .ok (.iload_n 2, 1) := by decide +kernel
theorem d_Mo_broken_111 : decode c_Mo_broken 111 = .ok (.invokevirtual 121, 3) := by decide +kernel
theorem d_Mo_broken_114 : decode c_Mo_broken 114 = .ok (.invokevirtual 133, 3) := by decide +kernel
theorem d_Mo_broken_117 : decode c_Mo_broken 117 = .ok (.ifCond .ne 5, 3) := by decide +kernel
theorem d_Mo_broken_120 : decode c_Mo_broken 120 = .ok (.iconst 3, 1) := by decide +kernel
theorem d_Mo_broken_121 : decode c_Mo_broken 121 = .ok (.ireturn, 1) := by decide +kernel
theorem d_Mo_broken_122 : decode c_Mo_broken 122 = .ok (.iinc 2 1, 3) := by decide +kernel
theorem d_Mo_broken_125 : decode c_Mo_broken 125 = .ok (.goto (-30), 3) := by decide +kernel
theorem d_Mo_broken_128 : decode c_Mo_broken 128 = .ok (.iconst 0, 1) := by decide +kernel
theorem d_Mo_broken_129 : decode c_Mo_broken 129 = .ok (.istore_n 2, 1) := by decide +kernel
theorem d_Mo_broken_130 : decode c_Mo_broken 130 = .ok (.iconst (-1), 1) := by decide +kernel
theorem d_Mo_broken_131 : decode c_Mo_broken 131 = .ok (.istore_n 3, 1) := by decide +kernel
theorem d_Mo_broken_132 : decode c_Mo_broken 132 = .ok (.iconst 0, 1) := by decide +kernel
theorem d_Mo_broken_133 : decode c_Mo_broken 133 = .ok (.istore 4, 2) := by decide +kernel
theorem d_Mo_broken_135 : decode c_Mo_broken 135 = .ok (.iload 4, 2) := by decide +kernel
theorem d_Mo_broken_137 : decode c_Mo_broken 137 = .ok (.bipush 10, 2) := by decide +kernel
theorem d_Mo_broken_139 : decode c_Mo_broken 139 = .ok (.if_icmp .ge 75, 3) := by decide +kernel
theorem d_Mo_broken_142 : decode c_Mo_broken 142 = .ok (.aload_n 0, 1) := by decide +kernel
theorem d_Mo_broken_143 : decode c_Mo_broken 143 = .ok (.iload 4, 2) := by decide +kernel
theorem d_Mo_broken_145 : decode c_Mo_broken 145 = .ok (.invokevirtual 136, 3) := by decide +kernel
theorem d_Mo_broken_148 : decode c_Mo_broken 148 = .ok (.istore 5, 2) := by decide +kernel
theorem d_Mo_broken_150 : decode c_Mo_broken 150 = .ok (.aload_n 0, 1) := by decide +kernel
theorem d_Mo_broken_151 : decode c_Mo_broken 151 = .ok (.iload 4, 2) := by decide +kernel
theorem d_Mo_broken_153 : decode c_Mo_broken 153 = .ok (.putfield 118, 3) := by decide +kernel
theorem d_Mo_broken_156 : decode c_Mo_broken 156 = .ok (.iload 5, 2) := by decide +kernel
theorem d_Mo_broken_158 : decode c_Mo_broken 158 = .ok (.ifCond .eq 15, 3) := by decide +kernel
theorem d_Mo_broken_161 : decode c_Mo_broken 161 = .ok (.aload_n 0, 1) := by decide +kernel
theorem d_Mo_broken_162 : decode c_Mo_broken 162 = .ok (.getfield 41, 3) := by decide +kernel
theorem d_Mo_broken_165 : decode c_Mo_broken 165 = .ok (.iload 4, 2) := by decide +kernel
theorem d_Mo_broken_167 : decode c_Mo_broken 167 = .ok (.baload, 1) := by decide +kernel
theorem d_Mo_broken_168 : decode c_Mo_broken 168 = .ok (.ifCond .eq 5, 3) := by decide +kernel
theorem d_Mo_broken_171 : decode c_Mo_broken 171 = .ok (.iconst 4, 1) := by decide +kernel
theorem d_Mo_broken_172 : decode c_Mo_broken 172 = .ok (.ireturn, 1) := by decide +kernel
theorem d_Mo_broken_173 : decode c_Mo_broken 173 = .ok (.iload_n 2, 1) := by decide +kernel
theorem d_Mo_broken_174 : decode c_Mo_broken 174 = .ok (.iload 5, 2) := by decide +kernel
theorem d_Mo_broken_176 : decode c_Mo_broken 176 = .ok (.ifCond .eq 7, 3) := by decide +kernel
theorem d_Mo_broken_179 : decode c_Mo_broken 179 = .ok (.iconst 1, 1) := by decide +kernel
theorem d_Mo_broken_180 : decode c_Mo_broken 180 = .ok (.goto 4, 3) := by decide +kernel
theorem d_Mo_broken_183 : decode c_Mo_broken 183 = .ok (.iconst 0, 1) := by decide +kernel
theorem d_Mo_broken_184 : decode c_Mo_broken 184 = .ok (.iadd, 1) := by decide +kernel
theorem d_Mo_broken_185 : decode c_Mo_broken 185 = .ok (.istore_n 2, 1) := by decide +kernel
theorem d_Mo_broken_186 : decode c_Mo_broken 186 = .ok (.iload 5, 2) := by decide +kernel
theorem d_Mo_broken_188 : decode c_Mo_broken 188 = .ok (.ifCond .eq 18, 3) := by decide +kernel
theorem d_Mo_broken_191 : decode c_Mo_broken 191 = .ok (.iload_n 2, 1) := by decide +kernel
theorem d_Mo_broken_192 : decode c_Mo_broken 192 = .ok (.aload_n 0, 1) := by decide +kernel
theorem d_Mo_broken_193 : decode c_Mo_broken 193 = .ok (.getfield 45, 3) := by decide +kernel
theorem d_Mo_broken_196 : decode c_Mo_broken 196 = .ok (.iconst 1, 1) := by decide +kernel
theorem d_Mo_broken_197 : decode c_Mo_broken 197 = .ok (.iadd, 1) := by decide +kernel
theorem d_Mo_broken_198 : decode c_Mo_broken 198 = .ok (.if_icmp .ne 8, 3) := by decide +kernel
theorem d_Mo_broken_201 : decode c_Mo_broken 201 = .ok (.iload 4, 2) := by decide +kernel
theorem d_Mo_broken_203 : decode c_Mo_broken 203 = .ok (.goto 4, 3) := by decide +kernel
theorem d_Mo_broken_206 : decode c_Mo_broken 206 = .ok (.iload_n 3, 1) := by decide +kernel
theorem d_Mo_broken_207 : decode c_Mo_broken 207 = .ok (.istore_n 3, 1) := by decide +kernel
theorem d_Mo_broken_208 : decode c_Mo_broken 208 = .ok (.iinc 4 1, 3) := by decide +kernel
theorem d_Mo_broken_211 : decode c_Mo_broken 211 = .ok (.goto (-76), 3) := by decide +kernel
theorem d_Mo_broken_214 : decode c_Mo_broken 214 = .ok (.iconst 0, 1) := by decide +kernel
theorem d_Mo_broken_215 : decode c_Mo_broken 215 = .ok (.istore 4, 2) := by decide +kernel
theorem d_Mo_broken_217 : decode c_Mo_broken 217 = .ok (.iload 4, 2) := by decide +kernel
theorem d_Mo_broken_219 : decode c_Mo_broken 219 = .ok (.aload_n 0, 1) := by decide +kernel
theorem d_Mo_broken_220 : decode c_Mo_broken 220 = .ok (.getfield 91, 3) := by decide +kernel
theorem d_Mo_broken_223 : decode c_Mo_broken 223 = .ok (.if_icmp .ge 48, 3) := by decide +kernel
theorem d_Mo_broken_226 : decode c_Mo_broken 226 = .ok (.iload_n 1, 1) := by decide +kernel
theorem d_Mo_broken_227 : decode c_Mo_broken 227 = .ok (.ifCond .ne 44, 3) := by decide +kernel
theorem d_Mo_broken_230 : decode c_Mo_broken 230 = .ok (.aload_n 0, 1) := by decide +kernel
theorem d_Mo_broken_231 : decode c_Mo_broken 231 = .ok (.iload 4, 2) := by decide +kernel
theorem d_Mo_broken_233 : decode c_Mo_broken 233 = .ok (.putfield 118, 3) := by decide +kernel
theorem d_Mo_broken_236 : decode c_Mo_broken 236 = .ok (.aload_n 0, 1) := by decide +kernel
theorem d_Mo_broken_237 : decode c_Mo_broken 237 = .ok (.getfield 48, 3) := by decide +kernel
theorem d_Mo_broken_240 : decode c_Mo_broken 240 = .ok (.iload 4, 2) := by decide +kernel
theorem d_Mo_broken_242 : decode c_Mo_broken 242 = .ok (.iaload, 1) := by decide +kernel
theorem d_Mo_broken_243 : decode c_Mo_broken 243 = .ok (.ifCond .lt 22, 3) := by decide +kernel
theorem d_Mo_broken_246 : decode c_Mo_broken 246 = .ok (.aload_n 0, 1) := by decide +kernel
theorem d_Mo_broken_247 : decode c_Mo_broken 247 = .ok (.getfield 48, 3) := by decide +kernel
theorem d_Mo_broken_250 : decode c_Mo_broken 250 = .ok (.iload 4, 2) := by decide +kernel
theorem d_Mo_broken_252 : decode c_Mo_broken 252 = .ok (.iaload, 1) := by decide +kernel
theorem d_Mo_broken_253 : decode c_Mo_broken 253 = .ok (.aload_n 0, 1) := by decide +kernel
theorem d_Mo_broken_254 : decode c_Mo_broken 254 = .ok (.getfield 51, 3) := by decide +kernel
theorem d_Mo_broken_257 : decode c_Mo_broken 257 = .ok (.iload 4, 2) := by decide +kernel
theorem d_Mo_broken_259 : decode c_Mo_broken 259 = .ok (.iaload, 1) := by decide +kernel
theorem d_Mo_broken_260 : decode c_Mo_broken 260 = .ok (.if_icmp .eq 5, 3) := by decide +kernel
theorem d_Mo_broken_263 : decode c_Mo_broken 263 = .ok (.iconst 5, 1) := by decide +kernel
theorem d_Mo_broken_264 : decode c_Mo_broken 264 = .ok (.ireturn, 1) := by decide +kernel
theorem d_Mo_broken_265 : decode c_Mo_broken 265 = .ok (.iinc 4 1, 3) := by decide +kernel
theorem d_Mo_broken_268 : decode c_Mo_broken 268 = .ok (.goto (-51), 3) := by decide +kernel
theorem d_Mo_broken_271 : decode c_Mo_broken 271 = .ok (.aload_n 0, 1) := by decide +kernel
theorem d_Mo_broken_272 : decode c_Mo_broken 272 = .ok (.iload_n 3, 1) := by decide +kernel
theorem d_Mo_broken_273 : decode c_Mo_broken 273 = .ok (.putfield 118, 3) := by decide +kernel
theorem d_Mo_broken_276 : decode c_Mo_broken 276 = .ok (.iload_n 3, 1) := by decide +kernel
theorem d_Mo_broken_277 : decode c_Mo_broken 277 = .ok (.ifCond .lt 8, 3) := by decide +kernel
theorem d_Mo_broken_280 : decode c_Mo_broken 280 = .ok (.bipush 6, 2) := by decide +kernel
theorem d_Mo_broken_282 : decode c_Mo_broken 282 = .ok (.goto 4, 3) := by decide +kernel
theorem d_Mo_broken_285 : decode c_Mo_broken 285 = .ok (.iconst 0, 1) := by decide +kernel
theorem d_Mo_broken_286 : decode c_Mo_broken 286 = .ok (.ireturn, 1) := by decide +kernel
theorem d_Mo_lawful_0 : decode c_Mo_lawful 0 = .ok (.aload_n 0, 1) := by decide +kernel
theorem d_Mo_lawful_1 : decode c_Mo_lawful 1 = .ok (.getfield 91, 3) := by decide +kernel
theorem d_Mo_lawful_4 : decode c_Mo_lawful 4 = .ok (.ifCond .ne 8, 3) := by decide +kernel
theorem d_Mo_lawful_7 : decode c_Mo_lawful 7 = .ok (.bipush (-5), 2) := by decide +kernel
theorem d_Mo_lawful_9 : decode c_Mo_lawful 9 = .ok (.goto 8, 3) := by decide +kernel
theorem d_Mo_lawful_12 : decode c_Mo_lawful 12 = .ok (.aload_n 0, 1) := by decide +kernel
theorem d_Mo_lawful_13 : decode c_Mo_lawful 13 = .ok (.iconst 0, 1) := by decide +kernel
theorem d_Mo_lawful_14 : decode c_Mo_lawful 14 = .ok (.invokevirtual 139, 3) := by decide +kernel
theorem d_Mo_lawful_17 : decode c_Mo_lawful 17 = .ok (.ireturn, 1) := by decide +kernel
theorem d_Mo_why_0 : decode c_Mo_why 0 = .ok (.aload_n 0, 1) := by decide +kernel
theorem d_Mo_why_1 : decode c_Mo_why 1 = .ok (.getfield 91, 3) := by decide +kernel
theorem d_Mo_why_4 : decode c_Mo_why 4 = .ok (.ifCond .ne 5, 3) := by decide +kernel
theorem d_Mo_why_7 : decode c_Mo_why 7 = .ok (.iconst (-1), 1) := by decide +kernel
theorem d_Mo_why_8 : decode c_Mo_why 8 = .ok (.ireturn, 1) := by decide +kernel
theorem d_Mo_why_9 : decode c_Mo_why 9 = .ok (.aload_n 0, 1) := by decide +kernel
theorem d_Mo_why_10 : decode c_Mo_why 10 = .ok (.iconst 0, 1) := by decide +kernel
theorem d_Mo_why_11 : decode c_Mo_why 11 = .ok (.invokevirtual 139, 3) := by decide +kernel
theorem d_Mo_why_14 : decode c_Mo_why 14 = .ok (.istore_n 2, 1) := by decide +kernel
theorem d_Mo_why_15 : decode c_Mo_why 15 = .ok (.iload_n 2, 1) := by decide +kernel
theorem d_Mo_why_16 : decode c_Mo_why 16 = .ok (.ifCond .eq 21, 3) := by decide +kernel
theorem d_Mo_why_19 : decode c_Mo_why 19 = .ok (.iload_n 1, 1) := by decide +kernel
theorem d_Mo_why_20 : decode c_Mo_why 20 = .ok (.ifCond .lt 17, 3) := by decide +kernel
theorem d_Mo_why_23 : decode c_Mo_why 23 = .ok (.iload_n 1, 1) := by decide +kernel
theorem d_Mo_why_24 : decode c_Mo_why 24 = .ok (.iload_n 2, 1) := by decide +kernel
theorem d_Mo_why_25 : decode c_Mo_why 25 = .ok (.iconst 2, 1) := by decide +kernel
theorem d_Mo_why_26 : decode c_Mo_why 26 = .ok (.if_icmp .ne 7, 3) := by decide +kernel
theorem d_Mo_why_29 : decode c_Mo_why 29 = .ok (.iconst 2, 1) := by decide +kernel
theorem d_Mo_why_30 : decode c_Mo_why 30 = .ok (.goto 4, 3) := by decide +kernel
theorem d_Mo_why_33 : decode c_Mo_why 33 = .ok (.iconst 0, 1) := by decide +kernel
theorem d_Mo_why_34 : decode c_Mo_why 34 = .ok (.if_icmp .le 5, 3) := by decide +kernel
theorem d_Mo_why_37 : decode c_Mo_why 37 = .ok (.iconst (-1), 1) := by decide +kernel
theorem d_Mo_why_38 : decode c_Mo_why 38 = .ok (.ireturn, 1) := by decide +kernel
theorem d_Mo_why_39 : decode c_Mo_why 39 = .ok (.iload_n 1, 1) := by decide +kernel
theorem d_Mo_why_40 : decode c_Mo_why 40 = .ok (.ifCond .ne 10, 3) := by decide +kernel
theorem d_Mo_why_43 : decode c_Mo_why 43 = .ok (.aload_n 0, 1) := by decide +kernel
theorem d_Mo_why_44 : decode c_Mo_why 44 = .ok (.getfield 118, 3) := by decide +kernel
theorem d_Mo_why_47 : decode c_Mo_why 47 = .ok (.goto 19, 3) := by decide +kernel
theorem d_Mo_why_50 : decode c_Mo_why 50 = .ok (.iload_n 1, 1) := by decide +kernel
theorem d_Mo_why_51 : decode c_Mo_why 51 = .ok (.iconst 1, 1) := by decide +kernel
theorem d_Mo_why_52 : decode c_Mo_why 52 = .ok (.if_icmp .ne 10, 3) := by decide +kernel
theorem d_Mo_why_55 : decode c_Mo_why 55 = .ok (.aload_n 0, 1) := by decide +kernel
theorem d_Mo_why_56 : decode c_Mo_why 56 = .ok (.getfield 127, 3) := by decide +kernel
theorem d_Mo_why_59 : decode c_Mo_why 59 = .ok (.goto 7, 3) := by decide +kernel
theorem d_Mo_why_62 : decode c_Mo_why 62 = .ok (.aload_n 0, 1) := by decide +kernel
theorem d_Mo_why_63 : decode c_Mo_why 63 = .ok (.getfield 130, 3) := by decide +kernel
theorem d_Mo_why_66 : decode c_Mo_why 66 = .ok (.ireturn, 1) := by decide +kernel
theorem d_Mo_put_0 : decode c_Mo_put 0 = .ok (.aload_n 0, 1) := by decide +kernel
theorem d_Mo_put_1 : decode c_Mo_put 1 = .ok (.iload_n 1, 1) := by decide +kernel
theorem d_Mo_put_2 : decode c_Mo_put 2 = .ok (.invokevirtual 94, 3) := by decide +kernel
theorem d_Mo_put_5 : decode c_Mo_put 5 = .ok (.ifCond .eq 17, 3) := by decide +kernel
theorem d_Mo_put_8 : decode c_Mo_put 8 = .ok (.iload_n 2, 1) := by decide +kernel
theorem d_Mo_put_9 : decode c_Mo_put 9 = .ok (.iconst 0, 1) := by decide +kernel
theorem d_Mo_put_10 : decode c_Mo_put 10 = .ok (.aload_n 0, 1) := by decide +kernel
theorem d_Mo_put_11 : decode c_Mo_put 11 = .ok (.getfield 34, 3) := by decide +kernel
theorem d_Mo_put_14 : decode c_Mo_put 14 = .ok (.iconst 1, 1) := by decide +kernel
theorem d_Mo_put_15 : decode c_Mo_put 15 = .ok (.isub, 1) := by decide +kernel
theorem d_Mo_put_16 : decode c_Mo_put 16 = .ok (.invokestatic 87, 3) := by decide +kernel
theorem d_Mo_put_19 : decode c_Mo_put 19 = .ok (.ifCond .ne 5, 3) := by decide +kernel
theorem d_Mo_put_22 : decode c_Mo_put 22 = .ok (.iconst (-1), 1) := by decide +kernel
theorem d_Mo_put_23 : decode c_Mo_put 23 = .ok (.ireturn, 1) := by decide +kernel
theorem d_Mo_put_24 : decode c_Mo_put 24 = .ok (.aload_n 0, 1) := by decide +kernel
theorem d_Mo_put_25 : decode c_Mo_put 25 = .ok (.getfield 51, 3) := by decide +kernel
theorem d_Mo_put_28 : decode c_Mo_put 28 = .ok (.iload_n 1, 1) := by decide +kernel
theorem d_Mo_put_29 : decode c_Mo_put 29 = .ok (.iaload, 1) := by decide +kernel
theorem d_Mo_put_30 : decode c_Mo_put 30 = .ok (.istore_n 3, 1) := by decide +kernel
theorem d_Mo_put_31 : decode c_Mo_put 31 = .ok (.aload_n 0, 1) := by decide +kernel
theorem d_Mo_put_32 : decode c_Mo_put 32 = .ok (.getfield 51, 3) := by decide +kernel
theorem d_Mo_put_35 : decode c_Mo_put 35 = .ok (.iload_n 1, 1) := by decide +kernel
theorem d_Mo_put_36 : decode c_Mo_put 36 = .ok (.iload_n 2, 1) := by decide +kernel
theorem d_Mo_put_37 : decode c_Mo_put 37 = .ok (.iastore, 1) := by decide +kernel
theorem d_Mo_put_38 : decode c_Mo_put 38 = .ok (.iload_n 3, 1) := by decide +kernel
theorem d_Mo_put_39 : decode c_Mo_put 39 = .ok (.ireturn, 1) := by decide +kernel
theorem d_Mo_at_0 : decode c_Mo_at 0 = .ok (.aload_n 0, 1) := by decide +kernel
theorem d_Mo_at_1 : decode c_Mo_at 1 = .ok (.iload_n 1, 1) := by decide +kernel
theorem d_Mo_at_2 : decode c_Mo_at 2 = .ok (.invokevirtual 94, 3) := by decide +kernel
theorem d_Mo_at_5 : decode c_Mo_at 5 = .ok (.ifCond .eq 12, 3) := by decide +kernel
theorem d_Mo_at_8 : decode c_Mo_at 8 = .ok (.aload_n 0, 1) := by decide +kernel
theorem d_Mo_at_9 : decode c_Mo_at 9 = .ok (.getfield 51, 3) := by decide +kernel
theorem d_Mo_at_12 : decode c_Mo_at 12 = .ok (.iload_n 1, 1) := by decide +kernel
theorem d_Mo_at_13 : decode c_Mo_at 13 = .ok (.iaload, 1) := by decide +kernel
theorem d_Mo_at_14 : decode c_Mo_at 14 = .ok (.goto 4, 3) := by decide +kernel
theorem d_Mo_at_17 : decode c_Mo_at 17 = .ok (.iconst (-1), 1) := by decide +kernel
theorem d_Mo_at_18 : decode c_Mo_at 18 = .ok (.ireturn, 1) := by decide +kernel
theorem d_Mo_votesOf_0 : decode c_Mo_votesOf 0 = .ok (.iconst 0, 1) := by decide +kernel
theorem d_Mo_votesOf_1 : decode c_Mo_votesOf 1 = .ok (.istore_n 3, 1) := by decide +kernel
theorem d_Mo_votesOf_2 : decode c_Mo_votesOf 2 = .ok (.iconst 0, 1) := by decide +kernel
theorem d_Mo_votesOf_3 : decode c_Mo_votesOf 3 = .ok (.istore 4, 2) := by decide +kernel
theorem d_Mo_votesOf_5 : decode c_Mo_votesOf 5 = .ok (.iload 4, 2) := by decide +kernel
theorem d_Mo_votesOf_7 : decode c_Mo_votesOf 7 = .ok (.aload_n 0, 1) := by decide +kernel
theorem d_Mo_votesOf_8 : decode c_Mo_votesOf 8 = .ok (.getfield 91, 3) := by decide +kernel
theorem d_Mo_votesOf_11 : decode c_Mo_votesOf 11 = .ok (.if_icmp .ge 38, 3) := by decide +kernel
theorem d_Mo_votesOf_14 : decode c_Mo_votesOf 14 = .ok (.iload_n 3, 1) := by decide +kernel
theorem d_Mo_votesOf_15 : decode c_Mo_votesOf 15 = .ok (.aload_n 0, 1) := by decide +kernel
theorem d_Mo_votesOf_16 : decode c_Mo_votesOf 16 = .ok (.getfield 51, 3) := by decide +kernel
theorem d_Mo_votesOf_19 : decode c_Mo_votesOf 19 = .ok (.iload 4, 2) := by decide +kernel
theorem d_Mo_votesOf_21 : decode c_Mo_votesOf 21 = .ok (.iaload, 1) := by decide +kernel
theorem d_Mo_votesOf_22 : decode c_Mo_votesOf 22 = .ok (.iload_n 1, 1) := by decide +kernel
theorem d_Mo_votesOf_23 : decode c_Mo_votesOf 23 = .ok (.if_icmp .ne 17, 3) := by decide +kernel
theorem d_Mo_votesOf_26 : decode c_Mo_votesOf 26 = .ok (.aload_n 0, 1) := by decide +kernel
theorem d_Mo_votesOf_27 : decode c_Mo_votesOf 27 = .ok (.getfield 13, 3) := by decide +kernel
theorem d_Mo_votesOf_30 : decode c_Mo_votesOf 30 = .ok (.iconst 2, 1) := by decide +kernel
theorem d_Mo_votesOf_31 : decode c_Mo_votesOf 31 = .ok (.iload 4, 2) := by decide +kernel
theorem d_Mo_votesOf_33 : decode c_Mo_votesOf 33 = .ok (.imul, 1) := by decide +kernel
theorem d_Mo_votesOf_34 : decode c_Mo_votesOf 34 = .ok (.iload_n 2, 1) := by decide +kernel
theorem d_Mo_votesOf_35 : decode c_Mo_votesOf 35 = .ok (.iadd, 1) := by decide +kernel
theorem d_Mo_votesOf_36 : decode c_Mo_votesOf 36 = .ok (.iaload, 1) := by decide +kernel
theorem d_Mo_votesOf_37 : decode c_Mo_votesOf 37 = .ok (.goto 4, 3) := by decide +kernel
theorem d_Mo_votesOf_40 : decode c_Mo_votesOf 40 = .ok (.iconst 0, 1) := by decide +kernel
theorem d_Mo_votesOf_41 : decode c_Mo_votesOf 41 = .ok (.iadd, 1) := by decide +kernel
theorem d_Mo_votesOf_42 : decode c_Mo_votesOf 42 = .ok (.istore_n 3, 1) := by decide +kernel
theorem d_Mo_votesOf_43 : decode c_Mo_votesOf 43 = .ok (.iinc 4 1, 3) := by decide +kernel
theorem d_Mo_votesOf_46 : decode c_Mo_votesOf 46 = .ok (.goto (-41), 3) := by decide +kernel
theorem d_Mo_votesOf_49 : decode c_Mo_votesOf 49 = .ok (.iload_n 3, 1) := by decide +kernel
theorem d_Mo_votesOf_50 : decode c_Mo_votesOf 50 = .ok (.ireturn, 1) := by decide +kernel
theorem d_Mo_value_0 : decode c_Mo_value 0 = .ok (.iconst 0, 1) := by decide +kernel
theorem d_Mo_value_1 : decode c_Mo_value 1 = .ok (.istore_n 2, 1) := by decide +kernel
theorem d_Mo_value_2 : decode c_Mo_value 2 = .ok (.iload_n 1, 1) := by decide +kernel
theorem d_Mo_value_3 : decode c_Mo_value 3 = .ok (.ifCond .ne 59, 3) := by decide +kernel
theorem d_Mo_value_6 : decode c_Mo_value 6 = .ok (.iconst 0, 1) := by decide +kernel
theorem d_Mo_value_7 : decode c_Mo_value 7 = .ok (.istore_n 3, 1) := by decide +kernel
theorem d_Mo_value_8 : decode c_Mo_value 8 = .ok (.iload_n 3, 1) := by decide +kernel
theorem d_Mo_value_9 : decode c_Mo_value 9 = .ok (.aload_n 0, 1) := by decide +kernel
theorem d_Mo_value_10 : decode c_Mo_value 10 = .ok (.getfield 102, 3) := by decide +kernel
theorem d_Mo_value_13 : decode c_Mo_value 13 = .ok (.if_icmp .ge 47, 3) := by decide +kernel
theorem d_Mo_value_16 : decode c_Mo_value 16 = .ok (.iload_n 2, 1) := by decide +kernel
theorem d_Mo_value_17 : decode c_Mo_value 17 = .ok (.aload_n 0, 1) := by decide +kernel
theorem d_Mo_value_18 : decode c_Mo_value 18 = .ok (.getfield 51, 3) := by decide +kernel
theorem d_Mo_value_21 : decode c_Mo_value 21 = .ok (.aload_n 0, 1) := by decide +kernel
theorem d_Mo_value_22 : decode c_Mo_value 22 = .ok (.getfield 22, 3) := by decide +kernel
theorem d_Mo_value_25 : decode c_Mo_value 25 = .ok (.iload_n 3, 1) := by decide +kernel
theorem d_Mo_value_26 : decode c_Mo_value 26 = .ok (.iaload, 1) := by decide +kernel
theorem d_Mo_value_27 : decode c_Mo_value 27 = .ok (.iaload, 1) := by decide +kernel
theorem d_Mo_value_28 : decode c_Mo_value 28 = .ok (.aload_n 0, 1) := by decide +kernel
theorem d_Mo_value_29 : decode c_Mo_value 29 = .ok (.getfield 51, 3) := by decide +kernel
theorem d_Mo_value_32 : decode c_Mo_value 32 = .ok (.aload_n 0, 1) := by decide +kernel
theorem d_Mo_value_33 : decode c_Mo_value 33 = .ok (.getfield 25, 3) := by decide +kernel
theorem d_Mo_value_36 : decode c_Mo_value 36 = .ok (.iload_n 3, 1) := by decide +kernel
theorem d_Mo_value_37 : decode c_Mo_value 37 = .ok (.iaload, 1) := by decide +kernel
theorem d_Mo_value_38 : decode c_Mo_value 38 = .ok (.iaload, 1) := by decide +kernel
theorem d_Mo_value_39 : decode c_Mo_value 39 = .ok (.if_icmp .eq 12, 3) := by decide +kernel
theorem d_Mo_value_42 : decode c_Mo_value 42 = .ok (.aload_n 0, 1) := by decide +kernel
theorem d_Mo_value_43 : decode c_Mo_value 43 = .ok (.getfield 28, 3) := by decide +kernel
theorem d_Mo_value_46 : decode c_Mo_value 46 = .ok (.iload_n 3, 1) := by decide +kernel
theorem d_Mo_value_47 : decode c_Mo_value 47 = .ok (.iaload, 1) := by decide +kernel
theorem d_Mo_value_48 : decode c_Mo_value 48 = .ok (.goto 4, 3) := by decide +kernel
theorem d_Mo_value_51 : decode c_Mo_value 51 = .ok (.iconst 0, 1) := by decide +kernel
theorem d_Mo_value_52 : decode c_Mo_value 52 = .ok (.iadd, 1) := by decide +kernel
theorem d_Mo_value_53 : decode c_Mo_value 53 = .ok (.istore_n 2, 1) := by decide +kernel
theorem d_Mo_value_54 : decode c_Mo_value 54 = .ok (.iinc 3 1, 3) := by decide +kernel
theorem d_Mo_value_57 : decode c_Mo_value 57 = .ok (.goto (-49), 3) := by decide +kernel
theorem d_Mo_value_60 : decode c_Mo_value 60 = .ok (.iload_n 2, 1) := by decide +kernel
theorem d_Mo_value_61 : decode c_Mo_value 61 = .ok (.ireturn, 1) := by decide +kernel
theorem d_Mo_value_62 : decode c_Mo_value 62 = .ok (.iload_n 1, 1) := by decide +kernel
theorem d_Mo_value_63 : decode c_Mo_value 63 = .ok (.iconst 1, 1) := by decide +kernel
theorem d_Mo_value_64 : decode c_Mo_value 64 = .ok (.if_icmp .ne 35, 3) := by decide +kernel
theorem d_Mo_value_67 : decode c_Mo_value 67 = .ok (.iconst 0, 1) := by decide +kernel
theorem d_Mo_value_68 : decode c_Mo_value 68 = .ok (.istore_n 3, 1) := by decide +kernel
theorem d_Mo_value_69 : decode c_Mo_value 69 = .ok (.iload_n 3, 1) := by decide +kernel
theorem d_Mo_value_70 : decode c_Mo_value 70 = .ok (.bipush 10, 2) := by decide +kernel
theorem d_Mo_value_72 : decode c_Mo_value 72 = .ok (.if_icmp .ge 25, 3) := by decide +kernel
theorem d_Mo_value_75 : decode c_Mo_value 75 = .ok (.iload_n 2, 1) := by decide +kernel
theorem d_Mo_value_76 : decode c_Mo_value 76 = .ok (.aload_n 0, 1) := by decide +kernel
theorem d_Mo_value_77 : decode c_Mo_value 77 = .ok (.iload_n 3, 1) := by decide +kernel
theorem d_Mo_value_78 : decode c_Mo_value 78 = .ok (.invokevirtual 136, 3) := by decide +kernel
theorem d_Mo_value_81 : decode c_Mo_value 81 = .ok (.ifCond .eq 7, 3) := by decide +kernel
theorem d_Mo_value_84 : decode c_Mo_value 84 = .ok (.iconst 1, 1) := by decide +kernel
theorem d_Mo_value_85 : decode c_Mo_value 85 = .ok (.goto 4, 3) := by decide +kernel
theorem d_Mo_value_88 : decode c_Mo_value 88 = .ok (.iconst 0, 1) := by decide +kernel
theorem d_Mo_value_89 : decode c_Mo_value 89 = .ok (.iadd, 1) := by decide +kernel
theorem d_Mo_value_90 : decode c_Mo_value 90 = .ok (.istore_n 2, 1) := by decide +kernel
theorem d_Mo_value_91 : decode c_Mo_value 91 = .ok (.iinc 3 1, 3) := by decide +kernel
theorem d_Mo_value_94 : decode c_Mo_value 94 = .ok (.goto (-25), 3) := by decide +kernel
theorem d_Mo_value_97 : decode c_Mo_value 97 = .ok (.iload_n 2, 1) := by decide +kernel
theorem d_Mo_value_98 : decode c_Mo_value 98 = .ok (.ireturn, 1) := by decide +kernel
theorem d_Mo_value_99 : decode c_Mo_value 99 = .ok (.ldc 145, 2) := by decide +kernel
theorem d_Mo_value_101 : decode c_Mo_value 101 = .ok (.istore_n 3, 1) := by decide +kernel
theorem d_Mo_value_102 : decode c_Mo_value 102 = .ok (.iconst 0, 1) := by decide +kernel
theorem d_Mo_value_103 : decode c_Mo_value 103 = .ok (.istore 4, 2) := by decide +kernel
theorem d_Mo_value_105 : decode c_Mo_value 105 = .ok (.iconst 0, 1) := by decide +kernel
theorem d_Mo_value_106 : decode c_Mo_value 106 = .ok (.istore 5, 2) := by decide +kernel
theorem d_Mo_value_108 : decode c_Mo_value 108 = .ok (.iload 5, 2) := by decide +kernel
theorem d_Mo_value_110 : decode c_Mo_value 110 = .ok (.aload_n 0, 1) := by decide +kernel
theorem d_Mo_value_111 : decode c_Mo_value 111 = .ok (.getfield 34, 3) := by decide +kernel
theorem d_Mo_value_114 : decode c_Mo_value 114 = .ok (.if_icmp .ge 127, 3) := by decide +kernel
theorem d_Mo_value_117 : decode c_Mo_value 117 = .ok (.aload_n 0, 1) := by decide +kernel
theorem d_Mo_value_118 : decode c_Mo_value 118 = .ok (.aload_n 0, 1) := by decide +kernel
theorem d_Mo_value_119 : decode c_Mo_value 119 = .ok (.iload 5, 2) := by decide +kernel
theorem d_Mo_value_121 : decode c_Mo_value 121 = .ok (.invokevirtual 121, 3) := by decide +kernel
theorem d_Mo_value_124 : decode c_Mo_value 124 = .ok (.invokevirtual 105, 3) := by decide +kernel
theorem d_Mo_value_127 : decode c_Mo_value 127 = .ok (.istore 6, 2) := by decide +kernel
theorem d_Mo_value_129 : decode c_Mo_value 129 = .ok (.iload 6, 2) := by decide +kernel
theorem d_Mo_value_131 : decode c_Mo_value 131 = .ok (.iload_n 3, 1) := by decide +kernel
theorem d_Mo_value_132 : decode c_Mo_value 132 = .ok (.if_icmp .ge 8, 3) := by decide +kernel
theorem d_Mo_value_135 : decode c_Mo_value 135 = .ok (.iload 6, 2) := by decide +kernel
theorem d_Mo_value_137 : decode c_Mo_value 137 = .ok (.goto 4, 3) := by decide +kernel
theorem d_Mo_value_140 : decode c_Mo_value 140 = .ok (.iload_n 3, 1) := by decide +kernel
theorem d_Mo_value_141 : decode c_Mo_value 141 = .ok (.istore_n 3, 1) := by decide +kernel
theorem d_Mo_value_142 : decode c_Mo_value 142 = .ok (.iload 6, 2) := by decide +kernel
theorem d_Mo_value_144 : decode c_Mo_value 144 = .ok (.iload 4, 2) := by decide +kernel
theorem d_Mo_value_146 : decode c_Mo_value 146 = .ok (.if_icmp .le 8, 3) := by decide +kernel
theorem d_Mo_value_149 : decode c_Mo_value 149 = .ok (.iload 6, 2) := by decide +kernel
theorem d_Mo_value_151 : decode c_Mo_value 151 = .ok (.goto 5, 3) := by decide +kernel
theorem d_Mo_value_154 : decode c_Mo_value 154 = .ok (.iload 4, 2) := by decide +kernel
theorem d_Mo_value_156 : decode c_Mo_value 156 = .ok (.istore 4, 2) := by decide +kernel
theorem d_Mo_value_158 : decode c_Mo_value 158 = .ok (.iload_n 1, 1) := by decide +kernel
theorem d_Mo_value_159 : decode c_Mo_value 159 = .ok (.iconst 2, 1) := by decide +kernel
theorem d_Mo_value_160 : decode c_Mo_value 160 = .ok (.irem, 1) := by decide +kernel
theorem d_Mo_value_161 : decode c_Mo_value 161 = .ok (.istore 7, 2) := by decide +kernel
theorem d_Mo_value_163 : decode c_Mo_value 163 = .ok (.aload_n 0, 1) := by decide +kernel
theorem d_Mo_value_164 : decode c_Mo_value 164 = .ok (.iload 5, 2) := by decide +kernel
theorem d_Mo_value_166 : decode c_Mo_value 166 = .ok (.iload 7, 2) := by decide +kernel
theorem d_Mo_value_168 : decode c_Mo_value 168 = .ok (.invokevirtual 146, 3) := by decide +kernel
theorem d_Mo_value_171 : decode c_Mo_value 171 = .ok (.istore 8, 2) := by decide +kernel
theorem d_Mo_value_173 : decode c_Mo_value 173 = .ok (.aload_n 0, 1) := by decide +kernel
theorem d_Mo_value_174 : decode c_Mo_value 174 = .ok (.iload 5, 2) := by decide +kernel
theorem d_Mo_value_176 : decode c_Mo_value 176 = .ok (.iconst 1, 1) := by decide +kernel
theorem d_Mo_value_177 : decode c_Mo_value 177 = .ok (.iload 7, 2) := by decide +kernel
theorem d_Mo_value_179 : decode c_Mo_value 179 = .ok (.isub, 1) := by decide +kernel
theorem d_Mo_value_180 : decode c_Mo_value 180 = .ok (.invokevirtual 146, 3) := by decide +kernel
theorem d_Mo_value_183 : decode c_Mo_value 183 = .ok (.istore 9, 2) := by decide +kernel
theorem d_Mo_value_185 : decode c_Mo_value 185 = .ok (.iload_n 1, 1) := by decide +kernel
theorem d_Mo_value_186 : decode c_Mo_value 186 = .ok (.iconst 4, 1) := by decide +kernel
theorem d_Mo_value_187 : decode c_Mo_value 187 = .ok (.if_icmp .ge 21, 3) := by decide +kernel
theorem d_Mo_value_190 : decode c_Mo_value 190 = .ok (.iload_n 2, 1) := by decide +kernel
theorem d_Mo_value_191 : decode c_Mo_value 191 = .ok (.iload 8, 2) := by decide +kernel
theorem d_Mo_value_193 : decode c_Mo_value 193 = .ok (.iload 9, 2) := by decide +kernel
theorem d_Mo_value_195 : decode c_Mo_value 195 = .ok (.if_icmp .le 7, 3) := by decide +kernel
theorem d_Mo_value_198 : decode c_Mo_value 198 = .ok (.iconst 1, 1) := by decide +kernel
theorem d_Mo_value_199 : decode c_Mo_value 199 = .ok (.goto 4, 3) := by decide +kernel
theorem d_Mo_value_202 : decode c_Mo_value 202 = .ok (.iconst 0, 1) := by decide +kernel
theorem d_Mo_value_203 : decode c_Mo_value 203 = .ok (.iadd, 1) := by decide +kernel
theorem d_Mo_value_204 : decode c_Mo_value 204 = .ok (.istore_n 2, 1) := by decide +kernel
theorem d_Mo_value_205 : decode c_Mo_value 205 = .ok (.goto 30, 3) := by decide +kernel
theorem d_Mo_value_208 : decode c_Mo_value 208 = .ok (.iload_n 2, 1) := by decide +kernel
theorem d_Mo_value_209 : decode c_Mo_value 209 = .ok (.iload 8, 2) := by decide +kernel
theorem d_Mo_value_211 : decode c_Mo_value 211 = .ok (.iload 9, 2) := by decide +kernel
theorem d_Mo_value_213 : decode c_Mo_value 213 = .ok (.if_icmp .le 18, 3) := by decide +kernel
theorem d_Mo_value_216 : decode c_Mo_value 216 = .ok (.iload 8, 2) := by decide +kernel
theorem d_Mo_value_218 : decode c_Mo_value 218 = .ok (.iload 8, 2) := by decide +kernel
theorem d_Mo_value_220 : decode c_Mo_value 220 = .ok (.iload 9, 2) := by decide +kernel
theorem d_Mo_value_222 : decode c_Mo_value 222 = .ok (.iadd, 1) := by decide +kernel
theorem d_Mo_value_223 : decode c_Mo_value 223 = .ok (.iconst 2, 1) := by decide +kernel
theorem d_Mo_value_224 : decode c_Mo_value 224 = .ok (.idiv, 1) := by decide +kernel
theorem d_Mo_value_225 : decode c_Mo_value 225 = .ok (.isub, 1) := by decide +kernel
theorem d_Mo_value_226 : decode c_Mo_value 226 = .ok (.iconst 1, 1) := by decide +kernel
theorem d_Mo_value_227 : decode c_Mo_value 227 = .ok (.isub, 1) := by decide +kernel
theorem d_Mo_value_228 : decode c_Mo_value 228 = .ok (.goto 5, 3) := by decide +kernel
theorem d_Mo_value_231 : decode c_Mo_value 231 = .ok (.iload 8, 2) := by decide +kernel
theorem d_Mo_value_233 : decode c_Mo_value 233 = .ok (.iadd, 1) := by decide +kernel
theorem d_Mo_value_234 : decode c_Mo_value 234 = .ok (.istore_n 2, 1) := by decide +kernel
theorem d_Mo_value_235 : decode c_Mo_value 235 = .ok (.iinc 5 1, 3) := by decide +kernel
theorem d_Mo_value_238 : decode c_Mo_value 238 = .ok (.goto (-130), 3) := by decide +kernel
theorem d_Mo_value_241 : decode c_Mo_value 241 = .ok (.iload_n 1, 1) := by decide +kernel
theorem d_Mo_value_242 : decode c_Mo_value 242 = .ok (.bipush 6, 2) := by decide +kernel
theorem d_Mo_value_244 : decode c_Mo_value 244 = .ok (.if_icmp .ne 10, 3) := by decide +kernel
theorem d_Mo_value_247 : decode c_Mo_value 247 = .ok (.iload 4, 2) := by decide +kernel
theorem d_Mo_value_249 : decode c_Mo_value 249 = .ok (.iload_n 3, 1) := by decide +kernel
theorem d_Mo_value_250 : decode c_Mo_value 250 = .ok (.isub, 1) := by decide +kernel
theorem d_Mo_value_251 : decode c_Mo_value 251 = .ok (.goto 4, 3) := by decide +kernel
theorem d_Mo_value_254 : decode c_Mo_value 254 = .ok (.iload_n 2, 1) := by decide +kernel
theorem d_Mo_value_255 : decode c_Mo_value 255 = .ok (.ireturn, 1) := by decide +kernel
theorem d_Mo_measure_0 : decode c_Mo_measure 0 = .ok (.iload_n 1, 1) := by decide +kernel
theorem d_Mo_measure_1 : decode c_Mo_measure 1 = .ok (.iconst 0, 1) := by decide +kernel
theorem d_Mo_measure_2 : decode c_Mo_measure 2 = .ok (.bipush 6, 2) := by decide +kernel
theorem d_Mo_measure_4 : decode c_Mo_measure 4 = .ok (.invokestatic 87, 3) := by decide +kernel
theorem d_Mo_measure_7 : decode c_Mo_measure 7 = .ok (.ifCond .eq 11, 3) := by decide +kernel
theorem d_Mo_measure_10 : decode c_Mo_measure 10 = .ok (.aload_n 0, 1) := by decide +kernel
theorem d_Mo_measure_11 : decode c_Mo_measure 11 = .ok (.iload_n 1, 1) := by decide +kernel
theorem d_Mo_measure_12 : decode c_Mo_measure 12 = .ok (.invokevirtual 150, 3) := by decide +kernel
theorem d_Mo_measure_15 : decode c_Mo_measure 15 = .ok (.goto 4, 3) := by decide +kernel
theorem d_Mo_measure_18 : decode c_Mo_measure 18 = .ok (.iconst (-1), 1) := by decide +kernel
theorem d_Mo_measure_19 : decode c_Mo_measure 19 = .ok (.ireturn, 1) := by decide +kernel
theorem d_Mo_district_0 : decode c_Mo_district 0 = .ok (.iload_n 1, 1) := by decide +kernel
theorem d_Mo_district_1 : decode c_Mo_district 1 = .ok (.iconst 0, 1) := by decide +kernel
theorem d_Mo_district_2 : decode c_Mo_district 2 = .ok (.aload_n 0, 1) := by decide +kernel
theorem d_Mo_district_3 : decode c_Mo_district 3 = .ok (.getfield 34, 3) := by decide +kernel
theorem d_Mo_district_6 : decode c_Mo_district 6 = .ok (.iconst 1, 1) := by decide +kernel
theorem d_Mo_district_7 : decode c_Mo_district 7 = .ok (.isub, 1) := by decide +kernel
theorem d_Mo_district_8 : decode c_Mo_district 8 = .ok (.invokestatic 87, 3) := by decide +kernel
theorem d_Mo_district_11 : decode c_Mo_district 11 = .ok (.ifCond .eq 13, 3) := by decide +kernel
theorem d_Mo_district_14 : decode c_Mo_district 14 = .ok (.iload_n 2, 1) := by decide +kernel
theorem d_Mo_district_15 : decode c_Mo_district 15 = .ok (.iconst 0, 1) := by decide +kernel
theorem d_Mo_district_16 : decode c_Mo_district 16 = .ok (.bipush 7, 2) := by decide +kernel
theorem d_Mo_district_18 : decode c_Mo_district 18 = .ok (.invokestatic 87, 3) := by decide +kernel
theorem d_Mo_district_21 : decode c_Mo_district 21 = .ok (.ifCond .ne 5, 3) := by decide +kernel
theorem d_Mo_district_24 : decode c_Mo_district 24 = .ok (.iconst (-1), 1) := by decide +kernel
theorem d_Mo_district_25 : decode c_Mo_district 25 = .ok (.ireturn, 1) := by decide +kernel
theorem d_Mo_district_26 : decode c_Mo_district 26 = .ok (.aload_n 0, 1) := by decide +kernel
theorem d_Mo_district_27 : decode c_Mo_district 27 = .ok (.iload_n 1, 1) := by decide +kernel
theorem d_Mo_district_28 : decode c_Mo_district 28 = .ok (.invokevirtual 121, 3) := by decide +kernel
theorem d_Mo_district_31 : decode c_Mo_district 31 = .ok (.istore_n 3, 1) := by decide +kernel
theorem d_Mo_district_32 : decode c_Mo_district 32 = .ok (.iconst 0, 1) := by decide +kernel
theorem d_Mo_district_33 : decode c_Mo_district 33 = .ok (.istore 4, 2) := by decide +kernel
theorem d_Mo_district_35 : decode c_Mo_district 35 = .ok (.iload_n 2, 1) := by decide +kernel
theorem d_Mo_district_36 : decode c_Mo_district 36 = .ok (.tableswitch 153 1 7 #[44, 50, 50, 153, 59, 121, 140], 44) := by decide +kernel
theorem d_Mo_district_80 : decode c_Mo_district 80 = .ok (.aload_n 0, 1) := by decide +kernel
theorem d_Mo_district_81 : decode c_Mo_district 81 = .ok (.iload_n 3, 1) := by decide +kernel
theorem d_Mo_district_82 : decode c_Mo_district 82 = .ok (.invokevirtual 105, 3) := by decide +kernel
theorem d_Mo_district_85 : decode c_Mo_district 85 = .ok (.ireturn, 1) := by decide +kernel
theorem d_Mo_district_86 : decode c_Mo_district 86 = .ok (.aload_n 0, 1) := by decide +kernel
theorem d_Mo_district_87 : decode c_Mo_district 87 = .ok (.iload_n 1, 1) := by decide +kernel
theorem d_Mo_district_88 : decode c_Mo_district 88 = .ok (.iload_n 2, 1) := by decide +kernel
theorem d_Mo_district_89 : decode c_Mo_district 89 = .ok (.iconst 2, 1) := by decide +kernel
theorem d_Mo_district_90 : decode c_Mo_district 90 = .ok (.isub, 1) := by decide +kernel
theorem d_Mo_district_91 : decode c_Mo_district 91 = .ok (.invokevirtual 146, 3) := by decide +kernel
theorem d_Mo_district_94 : decode c_Mo_district 94 = .ok (.ireturn, 1) := by decide +kernel
theorem d_Mo_district_95 : decode c_Mo_district 95 = .ok (.iconst 0, 1) := by decide +kernel
theorem d_Mo_district_96 : decode c_Mo_district 96 = .ok (.istore 5, 2) := by decide +kernel
theorem d_Mo_district_98 : decode c_Mo_district 98 = .ok (.iload 5, 2) := by decide +kernel
theorem d_Mo_district_100 : decode c_Mo_district 100 = .ok (.aload_n 0, 1) := by decide +kernel
theorem d_Mo_district_101 : decode c_Mo_district 101 = .ok (.getfield 102, 3) := by decide +kernel
theorem d_Mo_district_104 : decode c_Mo_district 104 = .ok (.if_icmp .ge 50, 3) := by decide +kernel
theorem d_Mo_district_107 : decode c_Mo_district 107 = .ok (.iload 4, 2) := by decide +kernel
theorem d_Mo_district_109 : decode c_Mo_district 109 = .ok (.iload_n 3, 1) := by decide +kernel
theorem d_Mo_district_110 : decode c_Mo_district 110 = .ok (.aload_n 0, 1) := by decide +kernel
theorem d_Mo_district_111 : decode c_Mo_district 111 = .ok (.getfield 22, 3) := by decide +kernel
theorem d_Mo_district_114 : decode c_Mo_district 114 = .ok (.iload 5, 2) := by decide +kernel
theorem d_Mo_district_116 : decode c_Mo_district 116 = .ok (.iaload, 1) := by decide +kernel
theorem d_Mo_district_117 : decode c_Mo_district 117 = .ok (.invokestatic 98, 3) := by decide +kernel
theorem d_Mo_district_120 : decode c_Mo_district 120 = .ok (.iload_n 3, 1) := by decide +kernel
theorem d_Mo_district_121 : decode c_Mo_district 121 = .ok (.aload_n 0, 1) := by decide +kernel
theorem d_Mo_district_122 : decode c_Mo_district 122 = .ok (.getfield 25, 3) := by decide +kernel
theorem d_Mo_district_125 : decode c_Mo_district 125 = .ok (.iload 5, 2) := by decide +kernel
theorem d_Mo_district_127 : decode c_Mo_district 127 = .ok (.iaload, 1) := by decide +kernel
theorem d_Mo_district_128 : decode c_Mo_district 128 = .ok (.invokestatic 98, 3) := by decide +kernel
theorem d_Mo_district_131 : decode c_Mo_district 131 = .ok (.if_icmp .eq 13, 3) := by decide +kernel
theorem d_Mo_district_134 : decode c_Mo_district 134 = .ok (.aload_n 0, 1) := by decide +kernel
theorem d_Mo_district_135 : decode c_Mo_district 135 = .ok (.getfield 28, 3) := by decide +kernel
theorem d_Mo_district_138 : decode c_Mo_district 138 = .ok (.iload 5, 2) := by decide +kernel
theorem d_Mo_district_140 : decode c_Mo_district 140 = .ok (.iaload, 1) := by decide +kernel
theorem d_Mo_district_141 : decode c_Mo_district 141 = .ok (.goto 4, 3) := by decide +kernel
theorem d_Mo_district_144 : decode c_Mo_district 144 = .ok (.iconst 0, 1) := by decide +kernel
theorem d_Mo_district_145 : decode c_Mo_district 145 = .ok (.iadd, 1) := by decide +kernel
theorem d_Mo_district_146 : decode c_Mo_district 146 = .ok (.istore 4, 2) := by decide +kernel
theorem d_Mo_district_148 : decode c_Mo_district 148 = .ok (.iinc 5 1, 3) := by decide +kernel
theorem d_Mo_district_151 : decode c_Mo_district 151 = .ok (.goto (-53), 3) := by decide +kernel
theorem d_Mo_district_154 : decode c_Mo_district 154 = .ok (.iload 4, 2) := by decide +kernel
theorem d_Mo_district_156 : decode c_Mo_district 156 = .ok (.ireturn, 1) := by decide +kernel
theorem d_Mo_district_157 : decode c_Mo_district 157 = .ok (.iload_n 3, 1) := by decide +kernel
theorem d_Mo_district_158 : decode c_Mo_district 158 = .ok (.ifCond .eq 12, 3) := by decide +kernel
theorem d_Mo_district_161 : decode c_Mo_district 161 = .ok (.aload_n 0, 1) := by decide +kernel
theorem d_Mo_district_162 : decode c_Mo_district 162 = .ok (.iload_n 3, 1) := by decide +kernel
theorem d_Mo_district_163 : decode c_Mo_district 163 = .ok (.invokevirtual 124, 3) := by decide +kernel
theorem d_Mo_district_166 : decode c_Mo_district 166 = .ok (.iload_n 3, 1) := by decide +kernel
theorem d_Mo_district_167 : decode c_Mo_district 167 = .ok (.if_icmp .ne 7, 3) := by decide +kernel
theorem d_Mo_district_170 : decode c_Mo_district 170 = .ok (.iconst 1, 1) := by decide +kernel
theorem d_Mo_district_171 : decode c_Mo_district 171 = .ok (.goto 4, 3) := by decide +kernel
theorem d_Mo_district_174 : decode c_Mo_district 174 = .ok (.iconst 0, 1) := by decide +kernel
theorem d_Mo_district_175 : decode c_Mo_district 175 = .ok (.ireturn, 1) := by decide +kernel
theorem d_Mo_district_176 : decode c_Mo_district 176 = .ok (.iload_n 3, 1) := by decide +kernel
theorem d_Mo_district_177 : decode c_Mo_district 177 = .ok (.ifCond .ne 7, 3) := by decide +kernel
theorem d_Mo_district_180 : decode c_Mo_district 180 = .ok (.iconst (-1), 1) := by decide +kernel
theorem d_Mo_district_181 : decode c_Mo_district 181 = .ok (.goto 7, 3) := by decide +kernel
theorem d_Mo_district_184 : decode c_Mo_district 184 = .ok (.iload_n 3, 1) := by decide +kernel
theorem d_Mo_district_185 : decode c_Mo_district 185 = .ok (.invokestatic 109, 3) := by decide +kernel
theorem d_Mo_district_188 : decode c_Mo_district 188 = .ok (.ireturn, 1) := by decide +kernel
theorem d_Mo_district_189 : decode c_Mo_district 189 = .ok (.iconst 0, 1) := by decide +kernel
theorem d_Mo_district_190 : decode c_Mo_district 190 = .ok (.istore 5, 2) := by decide +kernel
theorem d_Mo_district_192 : decode c_Mo_district 192 = .ok (.iload 5, 2) := by decide +kernel
theorem d_Mo_district_194 : decode c_Mo_district 194 = .ok (.aload_n 0, 1) := by decide +kernel
theorem d_Mo_district_195 : decode c_Mo_district 195 = .ok (.getfield 91, 3) := by decide +kernel
theorem d_Mo_district_198 : decode c_Mo_district 198 = .ok (.if_icmp .ge 42, 3) := by decide +kernel
theorem d_Mo_district_201 : decode c_Mo_district 201 = .ok (.iload 4, 2) := by decide +kernel
theorem d_Mo_district_203 : decode c_Mo_district 203 = .ok (.iload_n 3, 1) := by decide +kernel
theorem d_Mo_district_204 : decode c_Mo_district 204 = .ok (.iload 5, 2) := by decide +kernel
theorem d_Mo_district_206 : decode c_Mo_district 206 = .ok (.invokestatic 98, 3) := by decide +kernel
theorem d_Mo_district_209 : decode c_Mo_district 209 = .ok (.ifCond .ne 7, 3) := by decide +kernel
theorem d_Mo_district_212 : decode c_Mo_district 212 = .ok (.iconst 0, 1) := by decide +kernel
theorem d_Mo_district_213 : decode c_Mo_district 213 = .ok (.goto 18, 3) := by decide +kernel
theorem d_Mo_district_216 : decode c_Mo_district 216 = .ok (.iload_n 2, 1) := by decide +kernel
theorem d_Mo_district_217 : decode c_Mo_district 217 = .ok (.ifCond .ne 7, 3) := by decide +kernel
theorem d_Mo_district_220 : decode c_Mo_district 220 = .ok (.iconst 1, 1) := by decide +kernel
theorem d_Mo_district_221 : decode c_Mo_district 221 = .ok (.goto 10, 3) := by decide +kernel
theorem d_Mo_district_224 : decode c_Mo_district 224 = .ok (.aload_n 0, 1) := by decide +kernel
theorem d_Mo_district_225 : decode c_Mo_district 225 = .ok (.getfield 16, 3) := by decide +kernel
theorem d_Mo_district_228 : decode c_Mo_district 228 = .ok (.iload 5, 2) := by decide +kernel
theorem d_Mo_district_230 : decode c_Mo_district 230 = .ok (.iaload, 1) := by decide +kernel
theorem d_Mo_district_231 : decode c_Mo_district 231 = .ok (.iadd, 1) := by decide +kernel
theorem d_Mo_district_232 : decode c_Mo_district 232 = .ok (.istore 4, 2) := by decide +kernel
theorem d_Mo_district_234 : decode c_Mo_district 234 = .ok (.iinc 5 1, 3) := by decide +kernel
theorem d_Mo_district_237 : decode c_Mo_district 237 = .ok (.goto (-45), 3) := by decide +kernel
theorem d_Mo_district_240 : decode c_Mo_district 240 = .ok (.iload 4, 2) := by decide +kernel
theorem d_Mo_district_242 : decode c_Mo_district 242 = .ok (.ireturn, 1) := by decide +kernel
theorem d_Mo_land_0 : decode c_Mo_land 0 = .ok (.iconst 0, 1) := by decide +kernel
theorem d_Mo_land_1 : decode c_Mo_land 1 = .ok (.istore_n 2, 1) := by decide +kernel
theorem d_Mo_land_2 : decode c_Mo_land 2 = .ok (.iload_n 1, 1) := by decide +kernel
theorem d_Mo_land_3 : decode c_Mo_land 3 = .ok (.tableswitch 106 0 6 #[41, 46, 51, 56, 61, 66, 101], 41) := by decide +kernel
theorem d_Mo_land_44 : decode c_Mo_land 44 = .ok (.aload_n 0, 1) := by decide +kernel
theorem d_Mo_land_45 : decode c_Mo_land 45 = .ok (.getfield 91, 3) := by decide +kernel
theorem d_Mo_land_48 : decode c_Mo_land 48 = .ok (.ireturn, 1) := by decide +kernel
theorem d_Mo_land_49 : decode c_Mo_land 49 = .ok (.aload_n 0, 1) := by decide +kernel
theorem d_Mo_land_50 : decode c_Mo_land 50 = .ok (.getfield 102, 3) := by decide +kernel
theorem d_Mo_land_53 : decode c_Mo_land 53 = .ok (.ireturn, 1) := by decide +kernel
theorem d_Mo_land_54 : decode c_Mo_land 54 = .ok (.aload_n 0, 1) := by decide +kernel
theorem d_Mo_land_55 : decode c_Mo_land 55 = .ok (.invokevirtual 112, 3) := by decide +kernel
theorem d_Mo_land_58 : decode c_Mo_land 58 = .ok (.ireturn, 1) := by decide +kernel
theorem d_Mo_land_59 : decode c_Mo_land 59 = .ok (.aload_n 0, 1) := by decide +kernel
theorem d_Mo_land_60 : decode c_Mo_land 60 = .ok (.getfield 34, 3) := by decide +kernel
theorem d_Mo_land_63 : decode c_Mo_land 63 = .ok (.ireturn, 1) := by decide +kernel
theorem d_Mo_land_64 : decode c_Mo_land 64 = .ok (.aload_n 0, 1) := by decide +kernel
theorem d_Mo_land_65 : decode c_Mo_land 65 = .ok (.getfield 38, 3) := by decide +kernel
theorem d_Mo_land_68 : decode c_Mo_land 68 = .ok (.ireturn, 1) := by decide +kernel
theorem d_Mo_land_69 : decode c_Mo_land 69 = .ok (.iconst 0, 1) := by decide +kernel
theorem d_Mo_land_70 : decode c_Mo_land 70 = .ok (.istore_n 3, 1) := by decide +kernel
theorem d_Mo_land_71 : decode c_Mo_land 71 = .ok (.iload_n 3, 1) := by decide +kernel
theorem d_Mo_land_72 : decode c_Mo_land 72 = .ok (.aload_n 0, 1) := by decide +kernel
theorem d_Mo_land_73 : decode c_Mo_land 73 = .ok (.getfield 91, 3) := by decide +kernel
theorem d_Mo_land_76 : decode c_Mo_land 76 = .ok (.if_icmp .ge 26, 3) := by decide +kernel
theorem d_Mo_land_79 : decode c_Mo_land 79 = .ok (.iload_n 2, 1) := by decide +kernel
theorem d_Mo_land_80 : decode c_Mo_land 80 = .ok (.aload_n 0, 1) := by decide +kernel
theorem d_Mo_land_81 : decode c_Mo_land 81 = .ok (.getfield 48, 3) := by decide +kernel
theorem d_Mo_land_84 : decode c_Mo_land 84 = .ok (.iload_n 3, 1) := by decide +kernel
theorem d_Mo_land_85 : decode c_Mo_land 85 = .ok (.iaload, 1) := by decide +kernel
theorem d_Mo_land_86 : decode c_Mo_land 86 = .ok (.ifCond .lt 7, 3) := by decide +kernel
theorem d_Mo_land_89 : decode c_Mo_land 89 = .ok (.iconst 1, 1) := by decide +kernel
theorem d_Mo_land_90 : decode c_Mo_land 90 = .ok (.goto 4, 3) := by decide +kernel
theorem d_Mo_land_93 : decode c_Mo_land 93 = .ok (.iconst 0, 1) := by decide +kernel
theorem d_Mo_land_94 : decode c_Mo_land 94 = .ok (.iadd, 1) := by decide +kernel
theorem d_Mo_land_95 : decode c_Mo_land 95 = .ok (.istore_n 2, 1) := by decide +kernel
theorem d_Mo_land_96 : decode c_Mo_land 96 = .ok (.iinc 3 1, 3) := by decide +kernel
theorem d_Mo_land_99 : decode c_Mo_land 99 = .ok (.goto (-28), 3) := by decide +kernel
theorem d_Mo_land_102 : decode c_Mo_land 102 = .ok (.iload_n 2, 1) := by decide +kernel
theorem d_Mo_land_103 : decode c_Mo_land 103 = .ok (.ireturn, 1) := by decide +kernel
theorem d_Mo_land_104 : decode c_Mo_land 104 = .ok (.aload_n 0, 1) := by decide +kernel
theorem d_Mo_land_105 : decode c_Mo_land 105 = .ok (.getfield 45, 3) := by decide +kernel
theorem d_Mo_land_108 : decode c_Mo_land 108 = .ok (.ireturn, 1) := by decide +kernel
theorem d_Mo_land_109 : decode c_Mo_land 109 = .ok (.iconst (-1), 1) := by decide +kernel
theorem d_Mo_land_110 : decode c_Mo_land 110 = .ok (.ireturn, 1) := by decide +kernel
theorem d_Mo_part_0 : decode c_Mo_part 0 = .ok (.iload_n 1, 1) := by decide +kernel
theorem d_Mo_part_1 : decode c_Mo_part 1 = .ok (.aload_n 0, 1) := by decide +kernel
theorem d_Mo_part_2 : decode c_Mo_part 2 = .ok (.getfield 34, 3) := by decide +kernel
theorem d_Mo_part_5 : decode c_Mo_part 5 = .ok (.if_icmp .ne 12, 3) := by decide +kernel
theorem d_Mo_part_8 : decode c_Mo_part 8 = .ok (.iload_n 2, 1) := by decide +kernel
theorem d_Mo_part_9 : decode c_Mo_part 9 = .ok (.ifCond .ne 7, 3) := by decide +kernel
theorem d_Mo_part_12 : decode c_Mo_part 12 = .ok (.aload_n 0, 1) := by decide +kernel
theorem d_Mo_part_13 : decode c_Mo_part 13 = .ok (.invokevirtual 153, 3) := by decide +kernel
theorem d_Mo_part_16 : decode c_Mo_part 16 = .ok (.return_, 1) := by decide +kernel
theorem d_Mo_part_17 : decode c_Mo_part 17 = .ok (.iload_n 2, 1) := by decide +kernel
theorem d_Mo_part_18 : decode c_Mo_part 18 = .ok (.ifCond .eq 20, 3) := by decide +kernel
theorem d_Mo_part_21 : decode c_Mo_part 21 = .ok (.iload_n 2, 1) := by decide +kernel
theorem d_Mo_part_22 : decode c_Mo_part 22 = .ok (.invokestatic 109, 3) := by decide +kernel
theorem d_Mo_part_25 : decode c_Mo_part 25 = .ok (.istore_n 3, 1) := by decide +kernel
theorem d_Mo_part_26 : decode c_Mo_part 26 = .ok (.aload_n 0, 1) := by decide +kernel
theorem d_Mo_part_27 : decode c_Mo_part 27 = .ok (.iload_n 1, 1) := by decide +kernel
theorem d_Mo_part_28 : decode c_Mo_part 28 = .ok (.iconst 1, 1) := by decide +kernel
theorem d_Mo_part_29 : decode c_Mo_part 29 = .ok (.iload_n 3, 1) := by decide +kernel
theorem d_Mo_part_30 : decode c_Mo_part 30 = .ok (.ishl, 1) := by decide +kernel
theorem d_Mo_part_31 : decode c_Mo_part 31 = .ok (.iload_n 3, 1) := by decide +kernel
theorem d_Mo_part_32 : decode c_Mo_part 32 = .ok (.iconst 1, 1) := by decide +kernel
theorem d_Mo_part_33 : decode c_Mo_part 33 = .ok (.iadd, 1) := by decide +kernel
theorem d_Mo_part_34 : decode c_Mo_part 34 = .ok (.iload_n 2, 1) := by decide +kernel
theorem d_Mo_part_35 : decode c_Mo_part 35 = .ok (.invokevirtual 156, 3) := by decide +kernel
theorem d_Mo_part_38 : decode c_Mo_part 38 = .ok (.return_, 1) := by decide +kernel
theorem d_Mo_grow_0 : decode c_Mo_grow 0 = .ok (.iload_n 3, 1) := by decide +kernel
theorem d_Mo_grow_1 : decode c_Mo_grow 1 = .ok (.aload_n 0, 1) := by decide +kernel
theorem d_Mo_grow_2 : decode c_Mo_grow 2 = .ok (.getfield 91, 3) := by decide +kernel
theorem d_Mo_grow_5 : decode c_Mo_grow 5 = .ok (.if_icmp .ne 41, 3) := by decide +kernel
theorem d_Mo_grow_8 : decode c_Mo_grow 8 = .ok (.aload_n 0, 1) := by decide +kernel
theorem d_Mo_grow_9 : decode c_Mo_grow 9 = .ok (.iload_n 2, 1) := by decide +kernel
theorem d_Mo_grow_10 : decode c_Mo_grow 10 = .ok (.invokevirtual 124, 3) := by decide +kernel
theorem d_Mo_grow_13 : decode c_Mo_grow 13 = .ok (.iload_n 2, 1) := by decide +kernel
theorem d_Mo_grow_14 : decode c_Mo_grow 14 = .ok (.if_icmp .ne 31, 3) := by decide +kernel
theorem d_Mo_grow_17 : decode c_Mo_grow 17 = .ok (.aload_n 0, 1) := by decide +kernel
theorem d_Mo_grow_18 : decode c_Mo_grow 18 = .ok (.iload_n 2, 1) := by decide +kernel
theorem d_Mo_grow_19 : decode c_Mo_grow 19 = .ok (.invokevirtual 133, 3) := by decide +kernel
theorem d_Mo_grow_22 : decode c_Mo_grow 22 = .ok (.ifCond .eq 23, 3) := by decide +kernel
theorem d_Mo_grow_25 : decode c_Mo_grow 25 = .ok (.aload_n 0, 1) := by decide +kernel
theorem d_Mo_grow_26 : decode c_Mo_grow 26 = .ok (.getfield 75, 3) := by decide +kernel
theorem d_Mo_grow_29 : decode c_Mo_grow 29 = .ok (.iload_n 1, 1) := by decide +kernel
theorem d_Mo_grow_30 : decode c_Mo_grow 30 = .ok (.iload_n 2, 1) := by decide +kernel
theorem d_Mo_grow_31 : decode c_Mo_grow 31 = .ok (.iastore, 1) := by decide +kernel
theorem d_Mo_grow_32 : decode c_Mo_grow 32 = .ok (.aload_n 0, 1) := by decide +kernel
theorem d_Mo_grow_33 : decode c_Mo_grow 33 = .ok (.iload_n 1, 1) := by decide +kernel
theorem d_Mo_grow_34 : decode c_Mo_grow 34 = .ok (.iconst 1, 1) := by decide +kernel
theorem d_Mo_grow_35 : decode c_Mo_grow 35 = .ok (.iadd, 1) := by decide +kernel
theorem d_Mo_grow_36 : decode c_Mo_grow 36 = .ok (.iload 4, 2) := by decide +kernel
theorem d_Mo_grow_38 : decode c_Mo_grow 38 = .ok (.iload_n 2, 1) := by decide +kernel
theorem d_Mo_grow_39 : decode c_Mo_grow 39 = .ok (.iconst (-1), 1) := by decide +kernel
theorem d_Mo_grow_40 : decode c_Mo_grow 40 = .ok (.ixor, 1) := by decide +kernel
theorem d_Mo_grow_41 : decode c_Mo_grow 41 = .ok (.iand, 1) := by decide +kernel
theorem d_Mo_grow_42 : decode c_Mo_grow 42 = .ok (.invokevirtual 160, 3) := by decide +kernel
theorem d_Mo_grow_45 : decode c_Mo_grow 45 = .ok (.return_, 1) := by decide +kernel
theorem d_Mo_grow_46 : decode c_Mo_grow 46 = .ok (.iload 4, 2) := by decide +kernel
theorem d_Mo_grow_48 : decode c_Mo_grow 48 = .ok (.iload_n 3, 1) := by decide +kernel
theorem d_Mo_grow_49 : decode c_Mo_grow 49 = .ok (.invokestatic 98, 3) := by decide +kernel
theorem d_Mo_grow_52 : decode c_Mo_grow 52 = .ok (.ifCond .eq 18, 3) := by decide +kernel
theorem d_Mo_grow_55 : decode c_Mo_grow 55 = .ok (.aload_n 0, 1) := by decide +kernel
theorem d_Mo_grow_56 : decode c_Mo_grow 56 = .ok (.iload_n 1, 1) := by decide +kernel
theorem d_Mo_grow_57 : decode c_Mo_grow 57 = .ok (.iload_n 2, 1) := by decide +kernel
theorem d_Mo_grow_58 : decode c_Mo_grow 58 = .ok (.iconst 1, 1) := by decide +kernel
theorem d_Mo_grow_59 : decode c_Mo_grow 59 = .ok (.iload_n 3, 1) := by decide +kernel
theorem d_Mo_grow_60 : decode c_Mo_grow 60 = .ok (.ishl, 1) := by decide +kernel
theorem d_Mo_grow_61 : decode c_Mo_grow 61 = .ok (.ior, 1) := by decide +kernel
theorem d_Mo_grow_62 : decode c_Mo_grow 62 = .ok (.iload_n 3, 1) := by decide +kernel
theorem d_Mo_grow_63 : decode c_Mo_grow 63 = .ok (.iconst 1, 1) := by decide +kernel
theorem d_Mo_grow_64 : decode c_Mo_grow 64 = .ok (.iadd, 1) := by decide +kernel
theorem d_Mo_grow_65 : decode c_Mo_grow 65 = .ok (.iload 4, 2) := by decide +kernel
theorem d_Mo_grow_67 : decode c_Mo_grow 67 = .ok (.invokevirtual 156, 3) := by decide +kernel
theorem d_Mo_grow_70 : decode c_Mo_grow 70 = .ok (.aload_n 0, 1) := by decide +kernel
theorem d_Mo_grow_71 : decode c_Mo_grow 71 = .ok (.iload_n 1, 1) := by decide +kernel
theorem d_Mo_grow_72 : decode c_Mo_grow 72 = .ok (.iload_n 2, 1) := by decide +kernel
theorem d_Mo_grow_73 : decode c_Mo_grow 73 = .ok (.iload_n 3, 1) := by decide +kernel
theorem d_Mo_grow_74 : decode c_Mo_grow 74 = .ok (.iconst 1, 1) := by decide +kernel
theorem d_Mo_grow_75 : decode c_Mo_grow 75 = .ok (.iadd, 1) := by decide +kernel
theorem d_Mo_grow_76 : decode c_Mo_grow 76 = .ok (.iload 4, 2) := by decide +kernel
theorem d_Mo_grow_78 : decode c_Mo_grow 78 = .ok (.invokevirtual 156, 3) := by decide +kernel
theorem d_Mo_grow_81 : decode c_Mo_grow 81 = .ok (.return_, 1) := by decide +kernel
theorem d_Mo_whole_0 : decode c_Mo_whole 0 = .ok (.iconst 0, 1) := by decide +kernel
theorem d_Mo_whole_1 : decode c_Mo_whole 1 = .ok (.istore_n 1, 1) := by decide +kernel
theorem d_Mo_whole_2 : decode c_Mo_whole 2 = .ok (.iload_n 1, 1) := by decide +kernel
theorem d_Mo_whole_3 : decode c_Mo_whole 3 = .ok (.aload_n 0, 1) := by decide +kernel
theorem d_Mo_whole_4 : decode c_Mo_whole 4 = .ok (.getfield 34, 3) := by decide +kernel
theorem d_Mo_whole_7 : decode c_Mo_whole 7 = .ok (.if_icmp .ge 54, 3) := by decide +kernel
theorem d_Mo_whole_10 : decode c_Mo_whole 10 = .ok (.iconst 0, 1) := by decide +kernel
theorem d_Mo_whole_11 : decode c_Mo_whole 11 = .ok (.istore_n 2, 1) := by decide +kernel
theorem d_Mo_whole_12 : decode c_Mo_whole 12 = .ok (.iload_n 2, 1) := by decide +kernel
theorem d_Mo_whole_13 : decode c_Mo_whole 13 = .ok (.aload_n 0, 1) := by decide +kernel
theorem d_Mo_whole_14 : decode c_Mo_whole 14 = .ok (.getfield 91, 3) := by decide +kernel
theorem d_Mo_whole_17 : decode c_Mo_whole 17 = .ok (.if_icmp .ge 38, 3) := by decide +kernel
theorem d_Mo_whole_20 : decode c_Mo_whole 20 = .ok (.aload_n 0, 1) := by decide +kernel
theorem d_Mo_whole_21 : decode c_Mo_whole 21 = .ok (.getfield 51, 3) := by decide +kernel
theorem d_Mo_whole_24 : decode c_Mo_whole 24 = .ok (.iload_n 2, 1) := by decide +kernel
theorem d_Mo_whole_25 : decode c_Mo_whole 25 = .ok (.aload_n 0, 1) := by decide +kernel
theorem d_Mo_whole_26 : decode c_Mo_whole 26 = .ok (.getfield 75, 3) := by decide +kernel
theorem d_Mo_whole_29 : decode c_Mo_whole 29 = .ok (.iload_n 1, 1) := by decide +kernel
theorem d_Mo_whole_30 : decode c_Mo_whole 30 = .ok (.iaload, 1) := by decide +kernel
theorem d_Mo_whole_31 : decode c_Mo_whole 31 = .ok (.iload_n 2, 1) := by decide +kernel
theorem d_Mo_whole_32 : decode c_Mo_whole 32 = .ok (.invokestatic 98, 3) := by decide +kernel
theorem d_Mo_whole_35 : decode c_Mo_whole 35 = .ok (.ifCond .eq 7, 3) := by decide +kernel
theorem d_Mo_whole_38 : decode c_Mo_whole 38 = .ok (.iload_n 1, 1) := by decide +kernel
theorem d_Mo_whole_39 : decode c_Mo_whole 39 = .ok (.goto 9, 3) := by decide +kernel
theorem d_Mo_whole_42 : decode c_Mo_whole 42 = .ok (.aload_n 0, 1) := by decide +kernel
theorem d_Mo_whole_43 : decode c_Mo_whole 43 = .ok (.getfield 51, 3) := by decide +kernel
theorem d_Mo_whole_46 : decode c_Mo_whole 46 = .ok (.iload_n 2, 1) := by decide +kernel
theorem d_Mo_whole_47 : decode c_Mo_whole 47 = .ok (.iaload, 1) := by decide +kernel
theorem d_Mo_whole_48 : decode c_Mo_whole 48 = .ok (.iastore, 1) := by decide +kernel
theorem d_Mo_whole_49 : decode c_Mo_whole 49 = .ok (.iinc 2 1, 3) := by decide +kernel
theorem d_Mo_whole_52 : decode c_Mo_whole 52 = .ok (.goto (-40), 3) := by decide +kernel
theorem d_Mo_whole_55 : decode c_Mo_whole 55 = .ok (.iinc 1 1, 3) := by decide +kernel
theorem d_Mo_whole_58 : decode c_Mo_whole 58 = .ok (.goto (-56), 3) := by decide +kernel
theorem d_Mo_whole_61 : decode c_Mo_whole 61 = .ok (.aload_n 0, 1) := by decide +kernel
theorem d_Mo_whole_62 : decode c_Mo_whole 62 = .ok (.iconst 1, 1) := by decide +kernel
theorem d_Mo_whole_63 : decode c_Mo_whole 63 = .ok (.invokevirtual 139, 3) := by decide +kernel
theorem d_Mo_whole_66 : decode c_Mo_whole 66 = .ok (.ifCond .eq 4, 3) := by decide +kernel
theorem d_Mo_whole_69 : decode c_Mo_whole 69 = .ok (.return_, 1) := by decide +kernel
theorem d_Mo_whole_70 : decode c_Mo_whole 70 = .ok (.iconst 1, 1) := by decide +kernel
theorem d_Mo_whole_71 : decode c_Mo_whole 71 = .ok (.istore_n 1, 1) := by decide +kernel
theorem d_Mo_whole_72 : decode c_Mo_whole 72 = .ok (.iconst 0, 1) := by decide +kernel
theorem d_Mo_whole_73 : decode c_Mo_whole 73 = .ok (.istore_n 2, 1) := by decide +kernel
theorem d_Mo_whole_74 : decode c_Mo_whole 74 = .ok (.iload_n 2, 1) := by decide +kernel
theorem d_Mo_whole_75 : decode c_Mo_whole 75 = .ok (.aload_n 0, 1) := by decide +kernel
theorem d_Mo_whole_76 : decode c_Mo_whole 76 = .ok (.getfield 34, 3) := by decide +kernel
