theorem d_ClassBook_init_0 : decode c_ClassBook_init 0 = .ok (.aload_n 0, 1) := by decide +kernel
theorem d_ClassBook_init_1 : decode c_ClassBook_init 1 = .ok (.invokespecial 5, 3) := by decide +kernel
theorem d_ClassBook_init_4 : decode c_ClassBook_init 4 = .ok (.aload_n 0, 1) := by decide +kernel
theorem d_ClassBook_init_5 : decode c_ClassBook_init 5 = .ok (.aload_n 1, 1) := by decide +kernel
theorem d_ClassBook_init_6 : decode c_ClassBook_init 6 = .ok (.putfield 11, 3) := by decide +kernel
theorem d_ClassBook_init_9 : decode c_ClassBook_init 9 = .ok (.aload_n 0, 1) := by decide +kernel
theorem d_ClassBook_init_10 : decode c_ClassBook_init 10 = .ok (.aload_n 2, 1) := by decide +kernel
theorem d_ClassBook_init_11 : decode c_ClassBook_init 11 = .ok (.putfield 15, 3) := by decide +kernel
theorem d_ClassBook_init_14 : decode c_ClassBook_init 14 = .ok (.aload_n 0, 1) := by decide +kernel
theorem d_ClassBook_init_15 : decode c_ClassBook_init 15 = .ok (.aload_n 3, 1) := by decide +kernel
theorem d_ClassBook_init_16 : decode c_ClassBook_init 16 = .ok (.putfield 19, 3) := by decide +kernel
theorem d_ClassBook_init_19 : decode c_ClassBook_init 19 = .ok (.aload_n 0, 1) := by decide +kernel
theorem d_ClassBook_init_20 : decode c_ClassBook_init 20 = .ok (.aload 4, 2) := by decide +kernel
theorem d_ClassBook_init_22 : decode c_ClassBook_init 22 = .ok (.putfield 23, 3) := by decide +kernel
theorem d_ClassBook_init_25 : decode c_ClassBook_init 25 = .ok (.aload_n 0, 1) := by decide +kernel
theorem d_ClassBook_init_26 : decode c_ClassBook_init 26 = .ok (.iconst 3, 1) := by decide +kernel
theorem d_ClassBook_init_27 : decode c_ClassBook_init 27 = .ok (.newarray .int, 2) := by decide +kernel
theorem d_ClassBook_init_29 : decode c_ClassBook_init 29 = .ok (.putfield 27, 3) := by decide +kernel
theorem d_ClassBook_init_32 : decode c_ClassBook_init 32 = .ok (.aload_n 0, 1) := by decide +kernel
theorem d_ClassBook_init_33 : decode c_ClassBook_init 33 = .ok (.bipush 6, 2) := by decide +kernel
theorem d_ClassBook_init_35 : decode c_ClassBook_init 35 = .ok (.newarray .int, 2) := by decide +kernel
theorem d_ClassBook_init_37 : decode c_ClassBook_init 37 = .ok (.putfield 31, 3) := by decide +kernel
theorem d_ClassBook_init_40 : decode c_ClassBook_init 40 = .ok (.aload_n 0, 1) := by decide +kernel
theorem d_ClassBook_init_41 : decode c_ClassBook_init 41 = .ok (.sipush 4096, 3) := by decide +kernel
theorem d_ClassBook_init_44 : decode c_ClassBook_init 44 = .ok (.newarray .int, 2) := by decide +kernel
theorem d_ClassBook_init_46 : decode c_ClassBook_init 46 = .ok (.putfield 34, 3) := by decide +kernel
theorem d_ClassBook_init_49 : decode c_ClassBook_init 49 = .ok (.aload_n 0, 1) := by decide +kernel
theorem d_ClassBook_init_50 : decode c_ClassBook_init 50 = .ok (.sipush 8192, 3) := by decide +kernel
theorem d_ClassBook_init_53 : decode c_ClassBook_init 53 = .ok (.newarray .long, 2) := by decide +kernel
theorem d_ClassBook_init_55 : decode c_ClassBook_init 55 = .ok (.putfield 37, 3) := by decide +kernel
theorem d_ClassBook_init_58 : decode c_ClassBook_init 58 = .ok (.return_, 1) := by decide +kernel
theorem d_ClassBook_forget_0 : decode c_ClassBook_forget 0 = .ok (.aload_n 0, 1) := by decide +kernel
theorem d_ClassBook_forget_1 : decode c_ClassBook_forget 1 = .ok (.iconst 0, 1) := by decide +kernel
theorem d_ClassBook_forget_2 : decode c_ClassBook_forget 2 = .ok (.putfield 41, 3) := by decide +kernel
theorem d_ClassBook_forget_5 : decode c_ClassBook_forget 5 = .ok (.return_, 1) := by decide +kernel
theorem d_ClassBook_prepare_0 : decode c_ClassBook_prepare 0 = .ok (.aload_n 0, 1) := by decide +kernel
theorem d_ClassBook_prepare_1 : decode c_ClassBook_prepare 1 = .ok (.getfield 41, 3) := by decide +kernel
theorem d_ClassBook_prepare_4 : decode c_ClassBook_prepare 4 = .ok (.ifCond .eq 4, 3) := by decide +kernel
theorem d_ClassBook_prepare_7 : decode c_ClassBook_prepare 7 = .ok (.return_, 1) := by decide +kernel
theorem d_ClassBook_prepare_8 : decode c_ClassBook_prepare 8 = .ok (.aload_n 0, 1) := by decide +kernel
theorem d_ClassBook_prepare_9 : decode c_ClassBook_prepare 9 = .ok (.iconst 1, 1) := by decide +kernel
theorem d_ClassBook_prepare_10 : decode c_ClassBook_prepare 10 = .ok (.putfield 41, 3) := by decide +kernel
theorem d_ClassBook_prepare_13 : decode c_ClassBook_prepare 13 = .ok (.aload_n 0, 1) := by decide +kernel
theorem d_ClassBook_prepare_14 : decode c_ClassBook_prepare 14 = .ok (.aload_n 0, 1) := by decide +kernel
theorem d_ClassBook_prepare_15 : decode c_ClassBook_prepare 15 = .ok (.getfield 11, 3) := by decide +kernel
theorem d_ClassBook_prepare_18 : decode c_ClassBook_prepare 18 = .ok (.invokevirtual 45, 3) := by decide +kernel
theorem d_ClassBook_prepare_21 : decode c_ClassBook_prepare 21 = .ok (.putfield 51, 3) := by decide +kernel
theorem d_ClassBook_prepare_24 : decode c_ClassBook_prepare 24 = .ok (.aload_n 0, 1) := by decide +kernel
theorem d_ClassBook_prepare_25 : decode c_ClassBook_prepare 25 = .ok (.bipush 30, 2) := by decide +kernel
theorem d_ClassBook_prepare_27 : decode c_ClassBook_prepare 27 = .ok (.aload_n 0, 1) := by decide +kernel
theorem d_ClassBook_prepare_28 : decode c_ClassBook_prepare 28 = .ok (.getfield 11, 3) := by decide +kernel
theorem d_ClassBook_prepare_31 : decode c_ClassBook_prepare 31 = .ok (.getfield 54, 3) := by decide +kernel
theorem d_ClassBook_prepare_34 : decode c_ClassBook_prepare 34 = .ok (.isub, 1) := by decide +kernel
theorem d_ClassBook_prepare_35 : decode c_ClassBook_prepare 35 = .ok (.putfield 57, 3) := by decide +kernel
theorem d_ClassBook_prepare_38 : decode c_ClassBook_prepare 38 = .ok (.aload_n 0, 1) := by decide +kernel
theorem d_ClassBook_prepare_39 : decode c_ClassBook_prepare 39 = .ok (.invokevirtual 60, 3) := by decide +kernel
theorem d_ClassBook_prepare_42 : decode c_ClassBook_prepare 42 = .ok (.aload_n 0, 1) := by decide +kernel
theorem d_ClassBook_prepare_43 : decode c_ClassBook_prepare 43 = .ok (.getfield 15, 3) := by decide +kernel
theorem d_ClassBook_prepare_46 : decode c_ClassBook_prepare 46 = .ok (.getfield 63, 3) := by decide +kernel
theorem d_ClassBook_prepare_49 : decode c_ClassBook_prepare 49 = .ok (.if_icmp .le 7, 3) := by decide +kernel
theorem d_ClassBook_prepare_52 : decode c_ClassBook_prepare 52 = .ok (.iconst 1, 1) := by decide +kernel
theorem d_ClassBook_prepare_53 : decode c_ClassBook_prepare 53 = .ok (.goto 4, 3) := by decide +kernel
theorem d_ClassBook_prepare_56 : decode c_ClassBook_prepare 56 = .ok (.iconst 0, 1) := by decide +kernel
theorem d_ClassBook_prepare_57 : decode c_ClassBook_prepare 57 = .ok (.istore_n 1, 1) := by decide +kernel
theorem d_ClassBook_prepare_58 : decode c_ClassBook_prepare 58 = .ok (.aload_n 0, 1) := by decide +kernel
theorem d_ClassBook_prepare_59 : decode c_ClassBook_prepare 59 = .ok (.iload_n 1, 1) := by decide +kernel
theorem d_ClassBook_prepare_60 : decode c_ClassBook_prepare 60 = .ok (.ifCond .eq 13, 3) := by decide +kernel
theorem d_ClassBook_prepare_63 : decode c_ClassBook_prepare 63 = .ok (.aload_n 0, 1) := by decide +kernel
theorem d_ClassBook_prepare_64 : decode c_ClassBook_prepare 64 = .ok (.getfield 15, 3) := by decide +kernel
theorem d_ClassBook_prepare_67 : decode c_ClassBook_prepare 67 = .ok (.getfield 63, 3) := by decide +kernel
theorem d_ClassBook_prepare_70 : decode c_ClassBook_prepare 70 = .ok (.goto 4, 3) := by decide +kernel
theorem d_ClassBook_prepare_73 : decode c_ClassBook_prepare 73 = .ok (.iconst 0, 1) := by decide +kernel
theorem d_ClassBook_prepare_74 : decode c_ClassBook_prepare 74 = .ok (.putfield 68, 3) := by decide +kernel
theorem d_ClassBook_prepare_77 : decode c_ClassBook_prepare 77 = .ok (.aload_n 0, 1) := by decide +kernel
theorem d_ClassBook_prepare_78 : decode c_ClassBook_prepare 78 = .ok (.iload_n 1, 1) := by decide +kernel
theorem d_ClassBook_prepare_79 : decode c_ClassBook_prepare 79 = .ok (.invokevirtual 71, 3) := by decide +kernel
theorem d_ClassBook_prepare_82 : decode c_ClassBook_prepare 82 = .ok (.aload_n 0, 1) := by decide +kernel
theorem d_ClassBook_prepare_83 : decode c_ClassBook_prepare 83 = .ok (.invokevirtual 75, 3) := by decide +kernel
theorem d_ClassBook_prepare_86 : decode c_ClassBook_prepare 86 = .ok (.aload_n 0, 1) := by decide +kernel
theorem d_ClassBook_prepare_87 : decode c_ClassBook_prepare 87 = .ok (.aload_n 0, 1) := by decide +kernel
theorem d_ClassBook_prepare_88 : decode c_ClassBook_prepare 88 = .ok (.getfield 15, 3) := by decide +kernel
theorem d_ClassBook_prepare_91 : decode c_ClassBook_prepare 91 = .ok (.getfield 78, 3) := by decide +kernel
theorem d_ClassBook_prepare_94 : decode c_ClassBook_prepare 94 = .ok (.iconst 1, 1) := by decide +kernel
theorem d_ClassBook_prepare_95 : decode c_ClassBook_prepare 95 = .ok (.if_icmp .le 26, 3) := by decide +kernel
theorem d_ClassBook_prepare_98 : decode c_ClassBook_prepare 98 = .ok (.aload_n 0, 1) := by decide +kernel
theorem d_ClassBook_prepare_99 : decode c_ClassBook_prepare 99 = .ok (.aload_n 0, 1) := by decide +kernel
theorem d_ClassBook_prepare_100 : decode c_ClassBook_prepare 100 = .ok (.getfield 15, 3) := by decide +kernel
theorem d_ClassBook_prepare_103 : decode c_ClassBook_prepare 103 = .ok (.getfield 78, 3) := by decide +kernel
theorem d_ClassBook_prepare_106 : decode c_ClassBook_prepare 106 = .ok (.aload_n 0, 1) := by decide +kernel
theorem d_ClassBook_prepare_107 : decode c_ClassBook_prepare 107 = .ok (.getfield 51, 3) := by decide +kernel
theorem d_ClassBook_prepare_110 : decode c_ClassBook_prepare 110 = .ok (.aload_n 0, 1) := by decide +kernel
theorem d_ClassBook_prepare_111 : decode c_ClassBook_prepare 111 = .ok (.getfield 68, 3) := by decide +kernel
theorem d_ClassBook_prepare_114 : decode c_ClassBook_prepare 114 = .ok (.iconst 0, 1) := by decide +kernel
theorem d_ClassBook_prepare_115 : decode c_ClassBook_prepare 115 = .ok (.invokevirtual 81, 3) := by decide +kernel
theorem d_ClassBook_prepare_118 : decode c_ClassBook_prepare 118 = .ok (.goto 22, 3) := by decide +kernel
theorem d_ClassBook_prepare_121 : decode c_ClassBook_prepare 121 = .ok (.aload_n 0, 1) := by decide +kernel
theorem d_ClassBook_prepare_122 : decode c_ClassBook_prepare 122 = .ok (.aload_n 0, 1) := by decide +kernel
theorem d_ClassBook_prepare_123 : decode c_ClassBook_prepare 123 = .ok (.getfield 15, 3) := by decide +kernel
theorem d_ClassBook_prepare_126 : decode c_ClassBook_prepare 126 = .ok (.getfield 78, 3) := by decide +kernel
theorem d_ClassBook_prepare_129 : decode c_ClassBook_prepare 129 = .ok (.aload_n 0, 1) := by decide +kernel
theorem d_ClassBook_prepare_130 : decode c_ClassBook_prepare 130 = .ok (.getfield 51, 3) := by decide +kernel
theorem d_ClassBook_prepare_133 : decode c_ClassBook_prepare 133 = .ok (.aload_n 0, 1) := by decide +kernel
theorem d_ClassBook_prepare_134 : decode c_ClassBook_prepare 134 = .ok (.getfield 68, 3) := by decide +kernel
theorem d_ClassBook_prepare_137 : decode c_ClassBook_prepare 137 = .ok (.invokevirtual 85, 3) := by decide +kernel
theorem d_ClassBook_prepare_140 : decode c_ClassBook_prepare 140 = .ok (.putfield 89, 3) := by decide +kernel
theorem d_ClassBook_prepare_143 : decode c_ClassBook_prepare 143 = .ok (.return_, 1) := by decide +kernel
theorem d_ClassBook_total_0 : decode c_ClassBook_total 0 = .ok (.aload_n 0, 1) := by decide +kernel
theorem d_ClassBook_total_1 : decode c_ClassBook_total 1 = .ok (.getfield 89, 3) := by decide +kernel
theorem d_ClassBook_total_4 : decode c_ClassBook_total 4 = .ok (.ireturn, 1) := by decide +kernel
theorem d_ClassBook_hasNumber_0 : decode c_ClassBook_hasNumber 0 = .ok (.iload_n 1, 1) := by decide +kernel
theorem d_ClassBook_hasNumber_1 : decode c_ClassBook_hasNumber 1 = .ok (.iconst 0, 1) := by decide +kernel
theorem d_ClassBook_hasNumber_2 : decode c_ClassBook_hasNumber 2 = .ok (.aload_n 0, 1) := by decide +kernel
theorem d_ClassBook_hasNumber_3 : decode c_ClassBook_hasNumber 3 = .ok (.getfield 89, 3) := by decide +kernel
theorem d_ClassBook_hasNumber_6 : decode c_ClassBook_hasNumber 6 = .ok (.iconst 1, 1) := by decide +kernel
theorem d_ClassBook_hasNumber_7 : decode c_ClassBook_hasNumber 7 = .ok (.isub, 1) := by decide +kernel
theorem d_ClassBook_hasNumber_8 : decode c_ClassBook_hasNumber 8 = .ok (.invokestatic 92, 3) := by decide +kernel
theorem d_ClassBook_hasNumber_11 : decode c_ClassBook_hasNumber 11 = .ok (.ireturn, 1) := by decide +kernel
theorem d_ClassBook_rank_0 : decode c_ClassBook_rank 0 = .ok (.aload_n 0, 1) := by decide +kernel
theorem d_ClassBook_rank_1 : decode c_ClassBook_rank 1 = .ok (.getfield 51, 3) := by decide +kernel
theorem d_ClassBook_rank_4 : decode c_ClassBook_rank 4 = .ok (.istore_n 2, 1) := by decide +kernel
theorem d_ClassBook_rank_5 : decode c_ClassBook_rank 5 = .ok (.aload_n 0, 1) := by decide +kernel
theorem d_ClassBook_rank_6 : decode c_ClassBook_rank 6 = .ok (.getfield 68, 3) := by decide +kernel
theorem d_ClassBook_rank_9 : decode c_ClassBook_rank 9 = .ok (.istore_n 3, 1) := by decide +kernel
theorem d_ClassBook_rank_10 : decode c_ClassBook_rank 10 = .ok (.iconst 0, 1) := by decide +kernel
theorem d_ClassBook_rank_11 : decode c_ClassBook_rank 11 = .ok (.istore 4, 2) := by decide +kernel
theorem d_ClassBook_rank_13 : decode c_ClassBook_rank 13 = .ok (.aload_n 0, 1) := by decide +kernel
theorem d_ClassBook_rank_14 : decode c_ClassBook_rank 14 = .ok (.getfield 15, 3) := by decide +kernel
theorem d_ClassBook_rank_17 : decode c_ClassBook_rank 17 = .ok (.getfield 78, 3) := by decide +kernel
theorem d_ClassBook_rank_20 : decode c_ClassBook_rank 20 = .ok (.istore 5, 2) := by decide +kernel
theorem d_ClassBook_rank_22 : decode c_ClassBook_rank 22 = .ok (.iload 5, 2) := by decide +kernel
theorem d_ClassBook_rank_24 : decode c_ClassBook_rank 24 = .ok (.ifCond .le 92, 3) := by decide +kernel
theorem d_ClassBook_rank_27 : decode c_ClassBook_rank 27 = .ok (.iload_n 2, 1) := by decide +kernel
theorem d_ClassBook_rank_28 : decode c_ClassBook_rank 28 = .ok (.invokestatic 96, 3) := by decide +kernel
theorem d_ClassBook_rank_31 : decode c_ClassBook_rank 31 = .ok (.istore 6, 2) := by decide +kernel
theorem d_ClassBook_rank_33 : decode c_ClassBook_rank 33 = .ok (.iload 6, 2) := by decide +kernel
theorem d_ClassBook_rank_35 : decode c_ClassBook_rank 35 = .ok (.iconst (-1), 1) := by decide +kernel
theorem d_ClassBook_rank_36 : decode c_ClassBook_rank 36 = .ok (.if_icmp .ne 5, 3) := by decide +kernel
theorem d_ClassBook_rank_39 : decode c_ClassBook_rank 39 = .ok (.iconst (-1), 1) := by decide +kernel
theorem d_ClassBook_rank_40 : decode c_ClassBook_rank 40 = .ok (.ireturn, 1) := by decide +kernel
theorem d_ClassBook_rank_41 : decode c_ClassBook_rank 41 = .ok (.aload_n 1, 1) := by decide +kernel
theorem d_ClassBook_rank_42 : decode c_ClassBook_rank 42 = .ok (.getfield 102, 3) := by decide +kernel
theorem d_ClassBook_rank_45 : decode c_ClassBook_rank 45 = .ok (.aload_n 1, 1) := by decide +kernel
theorem d_ClassBook_rank_46 : decode c_ClassBook_rank 46 = .ok (.getfield 107, 3) := by decide +kernel
theorem d_ClassBook_rank_49 : decode c_ClassBook_rank 49 = .ok (.iload 6, 2) := by decide +kernel
theorem d_ClassBook_rank_51 : decode c_ClassBook_rank 51 = .ok (.iaload, 1) := by decide +kernel
theorem d_ClassBook_rank_52 : decode c_ClassBook_rank 52 = .ok (.iaload, 1) := by decide +kernel
theorem d_ClassBook_rank_53 : decode c_ClassBook_rank 53 = .ok (.istore 7, 2) := by decide +kernel
theorem d_ClassBook_rank_55 : decode c_ClassBook_rank 55 = .ok (.aload_n 0, 1) := by decide +kernel
theorem d_ClassBook_rank_56 : decode c_ClassBook_rank 56 = .ok (.getfield 34, 3) := by decide +kernel
theorem d_ClassBook_rank_59 : decode c_ClassBook_rank 59 = .ok (.iload 7, 2) := by decide +kernel
theorem d_ClassBook_rank_61 : decode c_ClassBook_rank 61 = .ok (.aload_n 0, 1) := by decide +kernel
theorem d_ClassBook_rank_62 : decode c_ClassBook_rank 62 = .ok (.getfield 57, 3) := by decide +kernel
theorem d_ClassBook_rank_65 : decode c_ClassBook_rank 65 = .ok (.iushr, 1) := by decide +kernel
theorem d_ClassBook_rank_66 : decode c_ClassBook_rank 66 = .ok (.iaload, 1) := by decide +kernel
theorem d_ClassBook_rank_67 : decode c_ClassBook_rank 67 = .ok (.istore 8, 2) := by decide +kernel
theorem d_ClassBook_rank_69 : decode c_ClassBook_rank 69 = .ok (.iload 8, 2) := by decide +kernel
theorem d_ClassBook_rank_71 : decode c_ClassBook_rank 71 = .ok (.iconst (-1), 1) := by decide +kernel
theorem d_ClassBook_rank_72 : decode c_ClassBook_rank 72 = .ok (.if_icmp .eq 9, 3) := by decide +kernel
theorem d_ClassBook_rank_75 : decode c_ClassBook_rank 75 = .ok (.iload 8, 2) := by decide +kernel
theorem d_ClassBook_rank_77 : decode c_ClassBook_rank 77 = .ok (.iload_n 3, 1) := by decide +kernel
theorem d_ClassBook_rank_78 : decode c_ClassBook_rank 78 = .ok (.if_icmp .le 5, 3) := by decide +kernel
theorem d_ClassBook_rank_81 : decode c_ClassBook_rank 81 = .ok (.iconst (-1), 1) := by decide +kernel
theorem d_ClassBook_rank_82 : decode c_ClassBook_rank 82 = .ok (.ireturn, 1) := by decide +kernel
theorem d_ClassBook_rank_83 : decode c_ClassBook_rank 83 = .ok (.iload 4, 2) := by decide +kernel
theorem d_ClassBook_rank_85 : decode c_ClassBook_rank 85 = .ok (.aload_n 0, 1) := by decide +kernel
theorem d_ClassBook_rank_86 : decode c_ClassBook_rank 86 = .ok (.iload 5, 2) := by decide +kernel
theorem d_ClassBook_rank_88 : decode c_ClassBook_rank 88 = .ok (.iload_n 2, 1) := by decide +kernel
theorem d_ClassBook_rank_89 : decode c_ClassBook_rank 89 = .ok (.iload_n 3, 1) := by decide +kernel
theorem d_ClassBook_rank_90 : decode c_ClassBook_rank 90 = .ok (.iload 7, 2) := by decide +kernel
theorem d_ClassBook_rank_92 : decode c_ClassBook_rank 92 = .ok (.invokevirtual 81, 3) := by decide +kernel
theorem d_ClassBook_rank_95 : decode c_ClassBook_rank 95 = .ok (.iadd, 1) := by decide +kernel
theorem d_ClassBook_rank_96 : decode c_ClassBook_rank 96 = .ok (.istore 4, 2) := by decide +kernel
theorem d_ClassBook_rank_98 : decode c_ClassBook_rank 98 = .ok (.iload_n 2, 1) := by decide +kernel
theorem d_ClassBook_rank_99 : decode c_ClassBook_rank 99 = .ok (.iload 7, 2) := by decide +kernel
theorem d_ClassBook_rank_101 : decode c_ClassBook_rank 101 = .ok (.iconst (-1), 1) := by decide +kernel
theorem d_ClassBook_rank_102 : decode c_ClassBook_rank 102 = .ok (.ixor, 1) := by decide +kernel
theorem d_ClassBook_rank_103 : decode c_ClassBook_rank 103 = .ok (.iand, 1) := by decide +kernel
theorem d_ClassBook_rank_104 : decode c_ClassBook_rank 104 = .ok (.istore_n 2, 1) := by decide +kernel
theorem d_ClassBook_rank_105 : decode c_ClassBook_rank 105 = .ok (.iload_n 3, 1) := by decide +kernel
theorem d_ClassBook_rank_106 : decode c_ClassBook_rank 106 = .ok (.iload 8, 2) := by decide +kernel
theorem d_ClassBook_rank_108 : decode c_ClassBook_rank 108 = .ok (.isub, 1) := by decide +kernel
theorem d_ClassBook_rank_109 : decode c_ClassBook_rank 109 = .ok (.istore_n 3, 1) := by decide +kernel
theorem d_ClassBook_rank_110 : decode c_ClassBook_rank 110 = .ok (.iinc 5 (-1), 3) := by decide +kernel
theorem d_ClassBook_rank_113 : decode c_ClassBook_rank 113 = .ok (.goto (-91), 3) := by decide +kernel
theorem d_ClassBook_rank_116 : decode c_ClassBook_rank 116 = .ok (.iload 4, 2) := by decide +kernel
theorem d_ClassBook_rank_118 : decode c_ClassBook_rank 118 = .ok (.ireturn, 1) := by decide +kernel
theorem d_ClassBook_lay_0 : decode c_ClassBook_lay 0 = .ok (.aload_n 0, 1) := by decide +kernel
theorem d_ClassBook_lay_1 : decode c_ClassBook_lay 1 = .ok (.iload_n 1, 1) := by decide +kernel
theorem d_ClassBook_lay_2 : decode c_ClassBook_lay 2 = .ok (.invokevirtual 110, 3) := by decide +kernel
theorem d_ClassBook_lay_5 : decode c_ClassBook_lay 5 = .ok (.iconst 0, 1) := by decide +kernel
theorem d_ClassBook_lay_6 : decode c_ClassBook_lay 6 = .ok (.istore_n 3, 1) := by decide +kernel
theorem d_ClassBook_lay_7 : decode c_ClassBook_lay 7 = .ok (.iload_n 3, 1) := by decide +kernel
theorem d_ClassBook_lay_8 : decode c_ClassBook_lay 8 = .ok (.aload_n 0, 1) := by decide +kernel
theorem d_ClassBook_lay_9 : decode c_ClassBook_lay 9 = .ok (.getfield 15, 3) := by decide +kernel
theorem d_ClassBook_lay_12 : decode c_ClassBook_lay 12 = .ok (.getfield 78, 3) := by decide +kernel
theorem d_ClassBook_lay_15 : decode c_ClassBook_lay 15 = .ok (.if_icmp .ge 20, 3) := by decide +kernel
theorem d_ClassBook_lay_18 : decode c_ClassBook_lay 18 = .ok (.aload_n 2, 1) := by decide +kernel
theorem d_ClassBook_lay_19 : decode c_ClassBook_lay 19 = .ok (.iload_n 3, 1) := by decide +kernel
theorem d_ClassBook_lay_20 : decode c_ClassBook_lay 20 = .ok (.aload_n 0, 1) := by decide +kernel
theorem d_ClassBook_lay_21 : decode c_ClassBook_lay 21 = .ok (.getfield 31, 3) := by decide +kernel
theorem d_ClassBook_lay_24 : decode c_ClassBook_lay 24 = .ok (.iload_n 3, 1) := by decide +kernel
theorem d_ClassBook_lay_25 : decode c_ClassBook_lay 25 = .ok (.iaload, 1) := by decide +kernel
theorem d_ClassBook_lay_26 : decode c_ClassBook_lay 26 = .ok (.invokevirtual 114, 3) := by decide +kernel
theorem d_ClassBook_lay_29 : decode c_ClassBook_lay 29 = .ok (.iinc 3 1, 3) := by decide +kernel
theorem d_ClassBook_lay_32 : decode c_ClassBook_lay 32 = .ok (.goto (-25), 3) := by decide +kernel
theorem d_ClassBook_lay_35 : decode c_ClassBook_lay 35 = .ok (.return_, 1) := by decide +kernel
theorem d_ClassBook_survey_0 : decode c_ClassBook_survey 0 = .ok (.aload_n 0, 1) := by decide +kernel
theorem d_ClassBook_survey_1 : decode c_ClassBook_survey 1 = .ok (.ldc 118, 2) := by decide +kernel
theorem d_ClassBook_survey_3 : decode c_ClassBook_survey 3 = .ok (.putfield 119, 3) := by decide +kernel
theorem d_ClassBook_survey_6 : decode c_ClassBook_survey 6 = .ok (.aload_n 0, 1) := by decide +kernel
theorem d_ClassBook_survey_7 : decode c_ClassBook_survey 7 = .ok (.iload_n 2, 1) := by decide +kernel
theorem d_ClassBook_survey_8 : decode c_ClassBook_survey 8 = .ok (.putfield 122, 3) := by decide +kernel
theorem d_ClassBook_survey_11 : decode c_ClassBook_survey 11 = .ok (.aload_n 0, 1) := by decide +kernel
theorem d_ClassBook_survey_12 : decode c_ClassBook_survey 12 = .ok (.getfield 27, 3) := by decide +kernel
theorem d_ClassBook_survey_15 : decode c_ClassBook_survey 15 = .ok (.iconst 0, 1) := by decide +kernel
theorem d_ClassBook_survey_16 : decode c_ClassBook_survey 16 = .ok (.invokestatic 125, 3) := by decide +kernel
theorem d_ClassBook_survey_19 : decode c_ClassBook_survey 19 = .ok (.aload_n 0, 1) := by decide +kernel
theorem d_ClassBook_survey_20 : decode c_ClassBook_survey 20 = .ok (.getfield 89, 3) := by decide +kernel
theorem d_ClassBook_survey_23 : decode c_ClassBook_survey 23 = .ok (.ifCond .le 23, 3) := by decide +kernel
theorem d_ClassBook_survey_26 : decode c_ClassBook_survey 26 = .ok (.aload_n 0, 1) := by decide +kernel
theorem d_ClassBook_survey_27 : decode c_ClassBook_survey 27 = .ok (.aload_n 0, 1) := by decide +kernel
theorem d_ClassBook_survey_28 : decode c_ClassBook_survey 28 = .ok (.getfield 15, 3) := by decide +kernel
theorem d_ClassBook_survey_31 : decode c_ClassBook_survey 31 = .ok (.getfield 78, 3) := by decide +kernel
theorem d_ClassBook_survey_34 : decode c_ClassBook_survey 34 = .ok (.aload_n 0, 1) := by decide +kernel
theorem d_ClassBook_survey_35 : decode c_ClassBook_survey 35 = .ok (.getfield 51, 3) := by decide +kernel
theorem d_ClassBook_survey_38 : decode c_ClassBook_survey 38 = .ok (.aload_n 0, 1) := by decide +kernel
theorem d_ClassBook_survey_39 : decode c_ClassBook_survey 39 = .ok (.getfield 68, 3) := by decide +kernel
theorem d_ClassBook_survey_42 : decode c_ClassBook_survey 42 = .ok (.iload_n 1, 1) := by decide +kernel
theorem d_ClassBook_survey_43 : decode c_ClassBook_survey 43 = .ok (.invokevirtual 131, 3) := by decide +kernel
theorem d_ClassBook_survey_46 : decode c_ClassBook_survey 46 = .ok (.return_, 1) := by decide +kernel
theorem d_ClassBook_severalPlaceTowns_0 : decode c_ClassBook_severalPlaceTowns 0 = .ok (.iconst 0, 1) := by decide +kernel
theorem d_ClassBook_severalPlaceTowns_1 : decode c_ClassBook_severalPlaceTowns 1 = .ok (.istore_n 1, 1) := by decide +kernel
theorem d_ClassBook_severalPlaceTowns_2 : decode c_ClassBook_severalPlaceTowns 2 = .ok (.iconst 0, 1) := by decide +kernel
theorem d_ClassBook_severalPlaceTowns_3 : decode c_ClassBook_severalPlaceTowns 3 = .ok (.istore_n 2, 1) := by decide +kernel
theorem d_ClassBook_severalPlaceTowns_4 : decode c_ClassBook_severalPlaceTowns 4 = .ok (.iload_n 2, 1) := by decide +kernel
theorem d_ClassBook_severalPlaceTowns_5 : decode c_ClassBook_severalPlaceTowns 5 = .ok (.bipush 10, 2) := by decide +kernel
theorem d_ClassBook_severalPlaceTowns_7 : decode c_ClassBook_severalPlaceTowns 7 = .ok (.if_icmp .ge 28, 3) := by decide +kernel
theorem d_ClassBook_severalPlaceTowns_10 : decode c_ClassBook_severalPlaceTowns 10 = .ok (.aload_n 0, 1) := by decide +kernel
theorem d_ClassBook_severalPlaceTowns_11 : decode c_ClassBook_severalPlaceTowns 11 = .ok (.getfield 11, 3) := by decide +kernel
theorem d_ClassBook_severalPlaceTowns_14 : decode c_ClassBook_severalPlaceTowns 14 = .ok (.getfield 135, 3) := by decide +kernel
theorem d_ClassBook_severalPlaceTowns_17 : decode c_ClassBook_severalPlaceTowns 17 = .ok (.iload_n 2, 1) := by decide +kernel
theorem d_ClassBook_severalPlaceTowns_18 : decode c_ClassBook_severalPlaceTowns 18 = .ok (.iaload, 1) := by decide +kernel
theorem d_ClassBook_severalPlaceTowns_19 : decode c_ClassBook_severalPlaceTowns 19 = .ok (.invokestatic 138, 3) := by decide +kernel
theorem d_ClassBook_severalPlaceTowns_22 : decode c_ClassBook_severalPlaceTowns 22 = .ok (.iconst 1, 1) := by decide +kernel
theorem d_ClassBook_severalPlaceTowns_23 : decode c_ClassBook_severalPlaceTowns 23 = .ok (.if_icmp .le 6, 3) := by decide +kernel
theorem d_ClassBook_severalPlaceTowns_26 : decode c_ClassBook_severalPlaceTowns 26 = .ok (.iinc 1 1, 3) := by decide +kernel
theorem d_ClassBook_severalPlaceTowns_29 : decode c_ClassBook_severalPlaceTowns 29 = .ok (.iinc 2 1, 3) := by decide +kernel
theorem d_ClassBook_severalPlaceTowns_32 : decode c_ClassBook_severalPlaceTowns 32 = .ok (.goto (-28), 3) := by decide +kernel
theorem d_ClassBook_severalPlaceTowns_35 : decode c_ClassBook_severalPlaceTowns 35 = .ok (.iload_n 1, 1) := by decide +kernel
theorem d_ClassBook_severalPlaceTowns_36 : decode c_ClassBook_severalPlaceTowns 36 = .ok (.ireturn, 1) := by decide +kernel
theorem d_ClassBook_fillPrices_0 : decode c_ClassBook_fillPrices 0 = .ok (.iconst 1, 1) := by decide +kernel
theorem d_ClassBook_fillPrices_1 : decode c_ClassBook_fillPrices 1 = .ok (.aload_n 0, 1) := by decide +kernel
theorem d_ClassBook_fillPrices_2 : decode c_ClassBook_fillPrices 2 = .ok (.getfield 11, 3) := by decide +kernel
theorem d_ClassBook_fillPrices_5 : decode c_ClassBook_fillPrices 5 = .ok (.getfield 54, 3) := by decide +kernel
theorem d_ClassBook_fillPrices_8 : decode c_ClassBook_fillPrices 8 = .ok (.ishl, 1) := by decide +kernel
theorem d_ClassBook_fillPrices_9 : decode c_ClassBook_fillPrices 9 = .ok (.istore_n 2, 1) := by decide +kernel
theorem d_ClassBook_fillPrices_10 : decode c_ClassBook_fillPrices 10 = .ok (.iconst 0, 1) := by decide +kernel
theorem d_ClassBook_fillPrices_11 : decode c_ClassBook_fillPrices 11 = .ok (.istore_n 3, 1) := by decide +kernel
theorem d_ClassBook_fillPrices_12 : decode c_ClassBook_fillPrices 12 = .ok (.iload_n 3, 1) := by decide +kernel
theorem d_ClassBook_fillPrices_13 : decode c_ClassBook_fillPrices 13 = .ok (.iload_n 2, 1) := by decide +kernel
theorem d_ClassBook_fillPrices_14 : decode c_ClassBook_fillPrices 14 = .ok (.if_icmp .ge 62, 3) := by decide +kernel
theorem d_ClassBook_fillPrices_17 : decode c_ClassBook_fillPrices 17 = .ok (.iload_n 3, 1) := by decide +kernel
theorem d_ClassBook_fillPrices_18 : decode c_ClassBook_fillPrices 18 = .ok (.aload_n 0, 1) := by decide +kernel
theorem d_ClassBook_fillPrices_19 : decode c_ClassBook_fillPrices 19 = .ok (.getfield 57, 3) := by decide +kernel
theorem d_ClassBook_fillPrices_22 : decode c_ClassBook_fillPrices 22 = .ok (.ishl, 1) := by decide +kernel
theorem d_ClassBook_fillPrices_23 : decode c_ClassBook_fillPrices 23 = .ok (.istore 4, 2) := by decide +kernel
theorem d_ClassBook_fillPrices_25 : decode c_ClassBook_fillPrices 25 = .ok (.aload_n 0, 1) := by decide +kernel
theorem d_ClassBook_fillPrices_26 : decode c_ClassBook_fillPrices 26 = .ok (.getfield 19, 3) := by decide +kernel
theorem d_ClassBook_fillPrices_29 : decode c_ClassBook_fillPrices 29 = .ok (.iload 4, 2) := by decide +kernel
theorem d_ClassBook_fillPrices_31 : decode c_ClassBook_fillPrices 31 = .ok (.invokevirtual 143, 3) := by decide +kernel
theorem d_ClassBook_fillPrices_34 : decode c_ClassBook_fillPrices 34 = .ok (.ifCond .ne 13, 3) := by decide +kernel
theorem d_ClassBook_fillPrices_37 : decode c_ClassBook_fillPrices 37 = .ok (.aload_n 0, 1) := by decide +kernel
theorem d_ClassBook_fillPrices_38 : decode c_ClassBook_fillPrices 38 = .ok (.getfield 34, 3) := by decide +kernel
theorem d_ClassBook_fillPrices_41 : decode c_ClassBook_fillPrices 41 = .ok (.iload_n 3, 1) := by decide +kernel
theorem d_ClassBook_fillPrices_42 : decode c_ClassBook_fillPrices 42 = .ok (.iconst (-1), 1) := by decide +kernel
theorem d_ClassBook_fillPrices_43 : decode c_ClassBook_fillPrices 43 = .ok (.iastore, 1) := by decide +kernel
theorem d_ClassBook_fillPrices_44 : decode c_ClassBook_fillPrices 44 = .ok (.goto 26, 3) := by decide +kernel
theorem d_ClassBook_fillPrices_47 : decode c_ClassBook_fillPrices 47 = .ok (.aload_n 0, 1) := by decide +kernel
theorem d_ClassBook_fillPrices_48 : decode c_ClassBook_fillPrices 48 = .ok (.getfield 34, 3) := by decide +kernel
theorem d_ClassBook_fillPrices_51 : decode c_ClassBook_fillPrices 51 = .ok (.iload_n 3, 1) := by decide +kernel
theorem d_ClassBook_fillPrices_52 : decode c_ClassBook_fillPrices 52 = .ok (.iload_n 1, 1) := by decide +kernel
theorem d_ClassBook_fillPrices_53 : decode c_ClassBook_fillPrices 53 = .ok (.ifCond .eq 15, 3) := by decide +kernel
theorem d_ClassBook_fillPrices_56 : decode c_ClassBook_fillPrices 56 = .ok (.aload_n 0, 1) := by decide +kernel
theorem d_ClassBook_fillPrices_57 : decode c_ClassBook_fillPrices 57 = .ok (.getfield 23, 3) := by decide +kernel
theorem d_ClassBook_fillPrices_60 : decode c_ClassBook_fillPrices 60 = .ok (.iload 4, 2) := by decide +kernel
theorem d_ClassBook_fillPrices_62 : decode c_ClassBook_fillPrices 62 = .ok (.invokevirtual 149, 3) := by decide +kernel
theorem d_ClassBook_fillPrices_65 : decode c_ClassBook_fillPrices 65 = .ok (.goto 4, 3) := by decide +kernel
theorem d_ClassBook_fillPrices_68 : decode c_ClassBook_fillPrices 68 = .ok (.iconst 0, 1) := by decide +kernel
theorem d_ClassBook_fillPrices_69 : decode c_ClassBook_fillPrices 69 = .ok (.iastore, 1) := by decide +kernel
theorem d_ClassBook_fillPrices_70 : decode c_ClassBook_fillPrices 70 = .ok (.iinc 3 1, 3) := by decide +kernel
theorem d_ClassBook_fillPrices_73 : decode c_ClassBook_fillPrices 73 = .ok (.goto (-61), 3) := by decide +kernel
theorem d_ClassBook_fillPrices_76 : decode c_ClassBook_fillPrices 76 = .ok (.return_, 1) := by decide +kernel
theorem d_ClassBook_clearTold_0 : decode c_ClassBook_clearTold 0 = .ok (.aload_n 0, 1) := by decide +kernel
theorem d_ClassBook_clearTold_1 : decode c_ClassBook_clearTold 1 = .ok (.getfield 68, 3) := by decide +kernel
theorem d_ClassBook_clearTold_4 : decode c_ClassBook_clearTold 4 = .ok (.iconst 3, 1) := by decide +kernel
theorem d_ClassBook_clearTold_5 : decode c_ClassBook_clearTold 5 = .ok (.idiv, 1) := by decide +kernel
theorem d_ClassBook_clearTold_6 : decode c_ClassBook_clearTold 6 = .ok (.iconst 1, 1) := by decide +kernel
theorem d_ClassBook_clearTold_7 : decode c_ClassBook_clearTold 7 = .ok (.iadd, 1) := by decide +kernel
theorem d_ClassBook_clearTold_8 : decode c_ClassBook_clearTold 8 = .ok (.aload_n 0, 1) := by decide +kernel
theorem d_ClassBook_clearTold_9 : decode c_ClassBook_clearTold 9 = .ok (.getfield 11, 3) := by decide +kernel
theorem d_ClassBook_clearTold_12 : decode c_ClassBook_clearTold 12 = .ok (.getfield 54, 3) := by decide +kernel
theorem d_ClassBook_clearTold_15 : decode c_ClassBook_clearTold 15 = .ok (.ishl, 1) := by decide +kernel
theorem d_ClassBook_clearTold_16 : decode c_ClassBook_clearTold 16 = .ok (.istore_n 1, 1) := by decide +kernel
theorem d_ClassBook_clearTold_17 : decode c_ClassBook_clearTold 17 = .ok (.iconst 0, 1) := by decide +kernel
theorem d_ClassBook_clearTold_18 : decode c_ClassBook_clearTold 18 = .ok (.istore_n 2, 1) := by decide +kernel
theorem d_ClassBook_clearTold_19 : decode c_ClassBook_clearTold 19 = .ok (.iload_n 2, 1) := by decide +kernel
theorem d_ClassBook_clearTold_20 : decode c_ClassBook_clearTold 20 = .ok (.iload_n 1, 1) := by decide +kernel
theorem d_ClassBook_clearTold_21 : decode c_ClassBook_clearTold 21 = .ok (.if_icmp .ge 16, 3) := by decide +kernel
theorem d_ClassBook_clearTold_24 : decode c_ClassBook_clearTold 24 = .ok (.aload_n 0, 1) := by decide +kernel
theorem d_ClassBook_clearTold_25 : decode c_ClassBook_clearTold 25 = .ok (.getfield 37, 3) := by decide +kernel
theorem d_ClassBook_clearTold_28 : decode c_ClassBook_clearTold 28 = .ok (.iload_n 2, 1) := by decide +kernel
theorem d_ClassBook_clearTold_29 : decode c_ClassBook_clearTold 29 = .ok (.lconst 0, 1) := by decide +kernel
theorem d_ClassBook_clearTold_30 : decode c_ClassBook_clearTold 30 = .ok (.lastore, 1) := by decide +kernel
theorem d_ClassBook_clearTold_31 : decode c_ClassBook_clearTold 31 = .ok (.iinc 2 1, 3) := by decide +kernel
theorem d_ClassBook_clearTold_34 : decode c_ClassBook_clearTold 34 = .ok (.goto (-15), 3) := by decide +kernel
theorem d_ClassBook_clearTold_37 : decode c_ClassBook_clearTold 37 = .ok (.return_, 1) := by decide +kernel
theorem d_ClassBook_ways_0 : decode c_ClassBook_ways 0 = .ok (.iload_n 1, 1) := by decide +kernel
theorem d_ClassBook_ways_1 : decode c_ClassBook_ways 1 = .ok (.iconst 1, 1) := by decide +kernel
theorem d_ClassBook_ways_2 : decode c_ClassBook_ways 2 = .ok (.if_icmp .gt 34, 3) := by decide +kernel
theorem d_ClassBook_ways_5 : decode c_ClassBook_ways 5 = .ok (.aload_n 0, 1) := by decide +kernel
theorem d_ClassBook_ways_6 : decode c_ClassBook_ways 6 = .ok (.getfield 34, 3) := by decide +kernel
theorem d_ClassBook_ways_9 : decode c_ClassBook_ways 9 = .ok (.iload_n 2, 1) := by decide +kernel
theorem d_ClassBook_ways_10 : decode c_ClassBook_ways 10 = .ok (.aload_n 0, 1) := by decide +kernel
theorem d_ClassBook_ways_11 : decode c_ClassBook_ways 11 = .ok (.getfield 57, 3) := by decide +kernel
theorem d_ClassBook_ways_14 : decode c_ClassBook_ways 14 = .ok (.iushr, 1) := by decide +kernel
theorem d_ClassBook_ways_15 : decode c_ClassBook_ways 15 = .ok (.iaload, 1) := by decide +kernel
theorem d_ClassBook_ways_16 : decode c_ClassBook_ways 16 = .ok (.istore 4, 2) := by decide +kernel
theorem d_ClassBook_ways_18 : decode c_ClassBook_ways 18 = .ok (.iload 4, 2) := by decide +kernel
theorem d_ClassBook_ways_20 : decode c_ClassBook_ways 20 = .ok (.iconst (-1), 1) := by decide +kernel
theorem d_ClassBook_ways_21 : decode c_ClassBook_ways 21 = .ok (.if_icmp .eq 13, 3) := by decide +kernel
theorem d_ClassBook_ways_24 : decode c_ClassBook_ways 24 = .ok (.iload 4, 2) := by decide +kernel
theorem d_ClassBook_ways_26 : decode c_ClassBook_ways 26 = .ok (.iload_n 3, 1) := by decide +kernel
theorem d_ClassBook_ways_27 : decode c_ClassBook_ways 27 = .ok (.if_icmp .gt 7, 3) := by decide +kernel
theorem d_ClassBook_ways_30 : decode c_ClassBook_ways 30 = .ok (.iconst 1, 1) := by decide +kernel
theorem d_ClassBook_ways_31 : decode c_ClassBook_ways 31 = .ok (.goto 4, 3) := by decide +kernel
theorem d_ClassBook_ways_34 : decode c_ClassBook_ways 34 = .ok (.iconst 0, 1) := by decide +kernel
theorem d_ClassBook_ways_35 : decode c_ClassBook_ways 35 = .ok (.ireturn, 1) := by decide +kernel
theorem d_ClassBook_ways_36 : decode c_ClassBook_ways 36 = .ok (.iload_n 2, 1) := by decide +kernel
theorem d_ClassBook_ways_37 : decode c_ClassBook_ways 37 = .ok (.ifCond .ne 5, 3) := by decide +kernel
theorem d_ClassBook_ways_40 : decode c_ClassBook_ways 40 = .ok (.iconst 0, 1) := by decide +kernel
theorem d_ClassBook_ways_41 : decode c_ClassBook_ways 41 = .ok (.ireturn, 1) := by decide +kernel
theorem d_ClassBook_ways_42 : decode c_ClassBook_ways 42 = .ok (.aload_n 0, 1) := by decide +kernel
theorem d_ClassBook_ways_43 : decode c_ClassBook_ways 43 = .ok (.iload_n 1, 1) := by decide +kernel
theorem d_ClassBook_ways_44 : decode c_ClassBook_ways 44 = .ok (.iload_n 2, 1) := by decide +kernel
theorem d_ClassBook_ways_45 : decode c_ClassBook_ways 45 = .ok (.iload_n 3, 1) := by decide +kernel
theorem d_ClassBook_ways_46 : decode c_ClassBook_ways 46 = .ok (.invokevirtual 154, 3) := by decide +kernel
theorem d_ClassBook_ways_49 : decode c_ClassBook_ways 49 = .ok (.istore 4, 2) := by decide +kernel
theorem d_ClassBook_ways_51 : decode c_ClassBook_ways 51 = .ok (.iload_n 3, 1) := by decide +kernel
theorem d_ClassBook_ways_52 : decode c_ClassBook_ways 52 = .ok (.iconst 3, 1) := by decide +kernel
theorem d_ClassBook_ways_53 : decode c_ClassBook_ways 53 = .ok (.irem, 1) := by decide +kernel
theorem d_ClassBook_ways_54 : decode c_ClassBook_ways 54 = .ok (.bipush 21, 2) := by decide +kernel
theorem d_ClassBook_ways_56 : decode c_ClassBook_ways 56 = .ok (.imul, 1) := by decide +kernel
theorem d_ClassBook_ways_57 : decode c_ClassBook_ways 57 = .ok (.istore 5, 2) := by decide +kernel
theorem d_ClassBook_ways_59 : decode c_ClassBook_ways 59 = .ok (.aload_n 0, 1) := by decide +kernel
theorem d_ClassBook_ways_60 : decode c_ClassBook_ways 60 = .ok (.getfield 37, 3) := by decide +kernel
theorem d_ClassBook_ways_63 : decode c_ClassBook_ways 63 = .ok (.iload 4, 2) := by decide +kernel
theorem d_ClassBook_ways_65 : decode c_ClassBook_ways 65 = .ok (.laload, 1) := by decide +kernel
theorem d_ClassBook_ways_66 : decode c_ClassBook_ways 66 = .ok (.iload 5, 2) := by decide +kernel
theorem d_ClassBook_ways_68 : decode c_ClassBook_ways 68 = .ok (.lushr, 1) := by decide +kernel
theorem d_ClassBook_ways_69 : decode c_ClassBook_ways 69 = .ok (.l2i, 1) := by decide +kernel
theorem d_ClassBook_ways_70 : decode c_ClassBook_ways 70 = .ok (.ldc 157, 2) := by decide +kernel
theorem d_ClassBook_ways_72 : decode c_ClassBook_ways 72 = .ok (.iand, 1) := by decide +kernel
theorem d_ClassBook_ways_73 : decode c_ClassBook_ways 73 = .ok (.istore 6, 2) := by decide +kernel
theorem d_ClassBook_ways_75 : decode c_ClassBook_ways 75 = .ok (.iload 6, 2) := by decide +kernel
theorem d_ClassBook_ways_77 : decode c_ClassBook_ways 77 = .ok (.ifCond .ne 31, 3) := by decide +kernel
theorem d_ClassBook_ways_80 : decode c_ClassBook_ways 80 = .ok (.iconst 1, 1) := by decide +kernel
theorem d_ClassBook_ways_81 : decode c_ClassBook_ways 81 = .ok (.aload_n 0, 1) := by decide +kernel
theorem d_ClassBook_ways_82 : decode c_ClassBook_ways 82 = .ok (.iload_n 1, 1) := by decide +kernel
theorem d_ClassBook_ways_83 : decode c_ClassBook_ways 83 = .ok (.iload_n 2, 1) := by decide +kernel
theorem d_ClassBook_ways_84 : decode c_ClassBook_ways 84 = .ok (.iload_n 3, 1) := by decide +kernel
theorem d_ClassBook_ways_85 : decode c_ClassBook_ways 85 = .ok (.iconst 0, 1) := by decide +kernel
theorem d_ClassBook_ways_86 : decode c_ClassBook_ways 86 = .ok (.invokevirtual 81, 3) := by decide +kernel
theorem d_ClassBook_ways_89 : decode c_ClassBook_ways 89 = .ok (.iadd, 1) := by decide +kernel
theorem d_ClassBook_ways_90 : decode c_ClassBook_ways 90 = .ok (.istore 6, 2) := by decide +kernel
theorem d_ClassBook_ways_92 : decode c_ClassBook_ways 92 = .ok (.aload_n 0, 1) := by decide +kernel
theorem d_ClassBook_ways_93 : decode c_ClassBook_ways 93 = .ok (.getfield 37, 3) := by decide +kernel
theorem d_ClassBook_ways_96 : decode c_ClassBook_ways 96 = .ok (.iload 4, 2) := by decide +kernel
theorem d_ClassBook_ways_98 : decode c_ClassBook_ways 98 = .ok (.dup2, 1) := by decide +kernel
theorem d_ClassBook_ways_99 : decode c_ClassBook_ways 99 = .ok (.laload, 1) := by decide +kernel
theorem d_ClassBook_ways_100 : decode c_ClassBook_ways 100 = .ok (.iload 6, 2) := by decide +kernel
theorem d_ClassBook_ways_102 : decode c_ClassBook_ways 102 = .ok (.i2l, 1) := by decide +kernel
theorem d_ClassBook_ways_103 : decode c_ClassBook_ways 103 = .ok (.iload 5, 2) := by decide +kernel
theorem d_ClassBook_ways_105 : decode c_ClassBook_ways 105 = .ok (.lshl, 1) := by decide +kernel
theorem d_ClassBook_ways_106 : decode c_ClassBook_ways 106 = .ok (.lor, 1) := by decide +kernel
theorem d_ClassBook_ways_107 : decode c_ClassBook_ways 107 = .ok (.lastore, 1) := by decide +kernel
theorem d_ClassBook_ways_108 : decode c_ClassBook_ways 108 = .ok (.iload 6, 2) := by decide +kernel
theorem d_ClassBook_ways_110 : decode c_ClassBook_ways 110 = .ok (.iconst 1, 1) := by decide +kernel
theorem d_ClassBook_ways_111 : decode c_ClassBook_ways 111 = .ok (.isub, 1) := by decide +kernel
theorem d_ClassBook_ways_112 : decode c_ClassBook_ways 112 = .ok (.ireturn, 1) := by decide +kernel
theorem d_ClassBook_slotOf_0 : decode c_ClassBook_slotOf 0 = .ok (.iconst 1, 1) := by decide +kernel
theorem d_ClassBook_slotOf_1 : decode c_ClassBook_slotOf 1 = .ok (.aload_n 0, 1) := by decide +kernel
theorem d_ClassBook_slotOf_2 : decode c_ClassBook_slotOf 2 = .ok (.getfield 11, 3) := by decide +kernel
theorem d_ClassBook_slotOf_5 : decode c_ClassBook_slotOf 5 = .ok (.getfield 54, 3) := by decide +kernel
theorem d_ClassBook_slotOf_8 : decode c_ClassBook_slotOf 8 = .ok (.aload_n 0, 1) := by decide +kernel
theorem d_ClassBook_slotOf_9 : decode c_ClassBook_slotOf 9 = .ok (.getfield 15, 3) := by decide +kernel
theorem d_ClassBook_slotOf_12 : decode c_ClassBook_slotOf 12 = .ok (.getfield 78, 3) := by decide +kernel
theorem d_ClassBook_slotOf_15 : decode c_ClassBook_slotOf 15 = .ok (.iload_n 1, 1) := by decide +kernel
theorem d_ClassBook_slotOf_16 : decode c_ClassBook_slotOf 16 = .ok (.isub, 1) := by decide +kernel
theorem d_ClassBook_slotOf_17 : decode c_ClassBook_slotOf 17 = .ok (.isub, 1) := by decide +kernel
theorem d_ClassBook_slotOf_18 : decode c_ClassBook_slotOf 18 = .ok (.ishl, 1) := by decide +kernel
theorem d_ClassBook_slotOf_19 : decode c_ClassBook_slotOf 19 = .ok (.istore 4, 2) := by decide +kernel
theorem d_ClassBook_slotOf_21 : decode c_ClassBook_slotOf 21 = .ok (.iload_n 3, 1) := by decide +kernel
theorem d_ClassBook_slotOf_22 : decode c_ClassBook_slotOf 22 = .ok (.iconst 3, 1) := by decide +kernel
theorem d_ClassBook_slotOf_23 : decode c_ClassBook_slotOf 23 = .ok (.idiv, 1) := by decide +kernel
theorem d_ClassBook_slotOf_24 : decode c_ClassBook_slotOf 24 = .ok (.aload_n 0, 1) := by decide +kernel
theorem d_ClassBook_slotOf_25 : decode c_ClassBook_slotOf 25 = .ok (.getfield 11, 3) := by decide +kernel
theorem d_ClassBook_slotOf_28 : decode c_ClassBook_slotOf 28 = .ok (.getfield 54, 3) := by decide +kernel
theorem d_ClassBook_slotOf_31 : decode c_ClassBook_slotOf 31 = .ok (.ishl, 1) := by decide +kernel
theorem d_ClassBook_slotOf_32 : decode c_ClassBook_slotOf 32 = .ok (.iload 4, 2) := by decide +kernel
theorem d_ClassBook_slotOf_34 : decode c_ClassBook_slotOf 34 = .ok (.iadd, 1) := by decide +kernel
theorem d_ClassBook_slotOf_35 : decode c_ClassBook_slotOf 35 = .ok (.iload_n 2, 1) := by decide +kernel
theorem d_ClassBook_slotOf_36 : decode c_ClassBook_slotOf 36 = .ok (.aload_n 0, 1) := by decide +kernel
theorem d_ClassBook_slotOf_37 : decode c_ClassBook_slotOf 37 = .ok (.getfield 57, 3) := by decide +kernel
theorem d_ClassBook_slotOf_40 : decode c_ClassBook_slotOf 40 = .ok (.iushr, 1) := by decide +kernel
theorem d_ClassBook_slotOf_41 : decode c_ClassBook_slotOf 41 = .ok (.iadd, 1) := by decide +kernel
theorem d_ClassBook_slotOf_42 : decode c_ClassBook_slotOf 42 = .ok (.ireturn, 1) := by decide +kernel
theorem d_ClassBook_waysAhead_0 : decode c_ClassBook_waysAhead 0 = .ok (.iconst 0, 1) := by decide +kernel
theorem d_ClassBook_waysAhead_1 : decode c_ClassBook_waysAhead 1 = .ok (.istore 5, 2) := by decide +kernel
theorem d_ClassBook_waysAhead_3 : decode c_ClassBook_waysAhead 3 = .ok (.iload_n 2, 1) := by decide +kernel
theorem d_ClassBook_waysAhead_4 : decode c_ClassBook_waysAhead 4 = .ok (.istore 6, 2) := by decide +kernel
theorem d_ClassBook_waysAhead_6 : decode c_ClassBook_waysAhead 6 = .ok (.iload_n 2, 1) := by decide +kernel
theorem d_ClassBook_waysAhead_7 : decode c_ClassBook_waysAhead 7 = .ok (.invokestatic 158, 3) := by decide +kernel
theorem d_ClassBook_waysAhead_10 : decode c_ClassBook_waysAhead 10 = .ok (.istore 7, 2) := by decide +kernel
theorem d_ClassBook_waysAhead_12 : decode c_ClassBook_waysAhead 12 = .ok (.iconst 0, 1) := by decide +kernel
theorem d_ClassBook_waysAhead_13 : decode c_ClassBook_waysAhead 13 = .ok (.istore 8, 2) := by decide +kernel
theorem d_ClassBook_waysAhead_15 : decode c_ClassBook_waysAhead 15 = .ok (.iload 8, 2) := by decide +kernel
theorem d_ClassBook_waysAhead_17 : decode c_ClassBook_waysAhead 17 = .ok (.iload 7, 2) := by decide +kernel
theorem d_ClassBook_waysAhead_19 : decode c_ClassBook_waysAhead 19 = .ok (.if_icmp .ge 38, 3) := by decide +kernel
theorem d_ClassBook_waysAhead_22 : decode c_ClassBook_waysAhead 22 = .ok (.iload 6, 2) := by decide +kernel
theorem d_ClassBook_waysAhead_24 : decode c_ClassBook_waysAhead 24 = .ok (.iload 4, 2) := by decide +kernel
theorem d_ClassBook_waysAhead_26 : decode c_ClassBook_waysAhead 26 = .ok (.if_icmp .eq 31, 3) := by decide +kernel
theorem d_ClassBook_waysAhead_29 : decode c_ClassBook_waysAhead 29 = .ok (.iload 5, 2) := by decide +kernel
theorem d_ClassBook_waysAhead_31 : decode c_ClassBook_waysAhead 31 = .ok (.aload_n 0, 1) := by decide +kernel
theorem d_ClassBook_waysAhead_32 : decode c_ClassBook_waysAhead 32 = .ok (.iload_n 1, 1) := by decide +kernel
theorem d_ClassBook_waysAhead_33 : decode c_ClassBook_waysAhead 33 = .ok (.iload_n 2, 1) := by decide +kernel
theorem d_ClassBook_waysAhead_34 : decode c_ClassBook_waysAhead 34 = .ok (.iload_n 3, 1) := by decide +kernel
theorem d_ClassBook_waysAhead_35 : decode c_ClassBook_waysAhead 35 = .ok (.iload 6, 2) := by decide +kernel
theorem d_ClassBook_waysAhead_37 : decode c_ClassBook_waysAhead 37 = .ok (.invokevirtual 161, 3) := by decide +kernel
theorem d_ClassBook_waysAhead_40 : decode c_ClassBook_waysAhead 40 = .ok (.iadd, 1) := by decide +kernel
theorem d_ClassBook_waysAhead_41 : decode c_ClassBook_waysAhead 41 = .ok (.istore 5, 2) := by decide +kernel
theorem d_ClassBook_waysAhead_43 : decode c_ClassBook_waysAhead 43 = .ok (.iload 6, 2) := by decide +kernel
theorem d_ClassBook_waysAhead_45 : decode c_ClassBook_waysAhead 45 = .ok (.iload_n 2, 1) := by decide +kernel
theorem d_ClassBook_waysAhead_46 : decode c_ClassBook_waysAhead 46 = .ok (.invokestatic 164, 3) := by decide +kernel
theorem d_ClassBook_waysAhead_49 : decode c_ClassBook_waysAhead 49 = .ok (.istore 6, 2) := by decide +kernel
theorem d_ClassBook_waysAhead_51 : decode c_ClassBook_waysAhead 51 = .ok (.iinc 8 1, 3) := by decide +kernel
theorem d_ClassBook_waysAhead_54 : decode c_ClassBook_waysAhead 54 = .ok (.goto (-39), 3) := by decide +kernel
theorem d_ClassBook_waysAhead_57 : decode c_ClassBook_waysAhead 57 = .ok (.iload 5, 2) := by decide +kernel
theorem d_ClassBook_waysAhead_59 : decode c_ClassBook_waysAhead 59 = .ok (.ireturn, 1) := by decide +kernel
theorem d_ClassBook_waysWith_0 : decode c_ClassBook_waysWith 0 = .ok (.aload_n 0, 1) := by decide +kernel
theorem d_ClassBook_waysWith_1 : decode c_ClassBook_waysWith 1 = .ok (.getfield 34, 3) := by decide +kernel
theorem d_ClassBook_waysWith_4 : decode c_ClassBook_waysWith 4 = .ok (.iload 4, 2) := by decide +kernel
theorem d_ClassBook_waysWith_6 : decode c_ClassBook_waysWith 6 = .ok (.aload_n 0, 1) := by decide +kernel
theorem d_ClassBook_waysWith_7 : decode c_ClassBook_waysWith 7 = .ok (.getfield 57, 3) := by decide +kernel
theorem d_ClassBook_waysWith_10 : decode c_ClassBook_waysWith 10 = .ok (.iushr, 1) := by decide +kernel
theorem d_ClassBook_waysWith_11 : decode c_ClassBook_waysWith 11 = .ok (.iaload, 1) := by decide +kernel
theorem d_ClassBook_waysWith_12 : decode c_ClassBook_waysWith 12 = .ok (.istore 5, 2) := by decide +kernel
theorem d_ClassBook_waysWith_14 : decode c_ClassBook_waysWith 14 = .ok (.iload_n 1, 1) := by decide +kernel
theorem d_ClassBook_waysWith_15 : decode c_ClassBook_waysWith 15 = .ok (.iconst 1, 1) := by decide +kernel
theorem d_ClassBook_waysWith_16 : decode c_ClassBook_waysWith 16 = .ok (.if_icmp .le 15, 3) := by decide +kernel
theorem d_ClassBook_waysWith_19 : decode c_ClassBook_waysWith 19 = .ok (.iload 5, 2) := by decide +kernel
theorem d_ClassBook_waysWith_21 : decode c_ClassBook_waysWith 21 = .ok (.iconst (-1), 1) := by decide +kernel
theorem d_ClassBook_waysWith_22 : decode c_ClassBook_waysWith 22 = .ok (.if_icmp .eq 9, 3) := by decide +kernel
theorem d_ClassBook_waysWith_25 : decode c_ClassBook_waysWith 25 = .ok (.iload 5, 2) := by decide +kernel
theorem d_ClassBook_waysWith_27 : decode c_ClassBook_waysWith 27 = .ok (.iload_n 3, 1) := by decide +kernel
theorem d_ClassBook_waysWith_28 : decode c_ClassBook_waysWith 28 = .ok (.if_icmp .le 5, 3) := by decide +kernel
theorem d_ClassBook_waysWith_31 : decode c_ClassBook_waysWith 31 = .ok (.iconst 0, 1) := by decide +kernel
theorem d_ClassBook_waysWith_32 : decode c_ClassBook_waysWith 32 = .ok (.ireturn, 1) := by decide +kernel
theorem d_ClassBook_waysWith_33 : decode c_ClassBook_waysWith 33 = .ok (.aload_n 0, 1) := by decide +kernel
theorem d_ClassBook_waysWith_34 : decode c_ClassBook_waysWith 34 = .ok (.iload_n 1, 1) := by decide +kernel
theorem d_ClassBook_waysWith_35 : decode c_ClassBook_waysWith 35 = .ok (.iconst 1, 1) := by decide +kernel
theorem d_ClassBook_waysWith_36 : decode c_ClassBook_waysWith 36 = .ok (.isub, 1) := by decide +kernel
theorem d_ClassBook_waysWith_37 : decode c_ClassBook_waysWith 37 = .ok (.iload_n 2, 1) := by decide +kernel
theorem d_ClassBook_waysWith_38 : decode c_ClassBook_waysWith 38 = .ok (.iload 4, 2) := by decide +kernel
theorem d_ClassBook_waysWith_40 : decode c_ClassBook_waysWith 40 = .ok (.iconst (-1), 1) := by decide +kernel
theorem d_ClassBook_waysWith_41 : decode c_ClassBook_waysWith 41 = .ok (.ixor, 1) := by decide +kernel
theorem d_ClassBook_waysWith_42 : decode c_ClassBook_waysWith 42 = .ok (.iand, 1) := by decide +kernel
theorem d_ClassBook_waysWith_43 : decode c_ClassBook_waysWith 43 = .ok (.iload_n 3, 1) := by decide +kernel
theorem d_ClassBook_waysWith_44 : decode c_ClassBook_waysWith 44 = .ok (.iload 5, 2) := by decide +kernel
theorem d_ClassBook_waysWith_46 : decode c_ClassBook_waysWith 46 = .ok (.isub, 1) := by decide +kernel
theorem d_ClassBook_waysWith_47 : decode c_ClassBook_waysWith 47 = .ok (.invokevirtual 85, 3) := by decide +kernel
theorem d_ClassBook_waysWith_50 : decode c_ClassBook_waysWith 50 = .ok (.ireturn, 1) := by decide +kernel
theorem d_ClassBook_choicesOf_0 : decode c_ClassBook_choicesOf 0 = .ok (.iload_n 0, 1) := by decide +kernel
theorem d_ClassBook_choicesOf_1 : decode c_ClassBook_choicesOf 1 = .ok (.ifCond .ne 7, 3) := by decide +kernel
theorem d_ClassBook_choicesOf_4 : decode c_ClassBook_choicesOf 4 = .ok (.iconst 0, 1) := by decide +kernel
theorem d_ClassBook_choicesOf_5 : decode c_ClassBook_choicesOf 5 = .ok (.goto 11, 3) := by decide +kernel
theorem d_ClassBook_choicesOf_8 : decode c_ClassBook_choicesOf 8 = .ok (.iconst 1, 1) := by decide +kernel
theorem d_ClassBook_choicesOf_9 : decode c_ClassBook_choicesOf 9 = .ok (.iload_n 0, 1) := by decide +kernel
theorem d_ClassBook_choicesOf_10 : decode c_ClassBook_choicesOf 10 = .ok (.invokestatic 138, 3) := by decide +kernel
theorem d_ClassBook_choicesOf_13 : decode c_ClassBook_choicesOf 13 = .ok (.iconst 1, 1) := by decide +kernel
theorem d_ClassBook_choicesOf_14 : decode c_ClassBook_choicesOf 14 = .ok (.isub, 1) := by decide +kernel
theorem d_ClassBook_choicesOf_15 : decode c_ClassBook_choicesOf 15 = .ok (.ishl, 1) := by decide +kernel
theorem d_ClassBook_choicesOf_16 : decode c_ClassBook_choicesOf 16 = .ok (.ireturn, 1) := by decide +kernel
theorem d_ClassBook_following_0 : decode c_ClassBook_following 0 = .ok (.iload_n 0, 1) := by decide +kernel
theorem d_ClassBook_following_1 : decode c_ClassBook_following 1 = .ok (.iconst 1, 1) := by decide +kernel
theorem d_ClassBook_following_2 : decode c_ClassBook_following 2 = .ok (.isub, 1) := by decide +kernel
theorem d_ClassBook_following_3 : decode c_ClassBook_following 3 = .ok (.iload_n 1, 1) := by decide +kernel
theorem d_ClassBook_following_4 : decode c_ClassBook_following 4 = .ok (.iand, 1) := by decide +kernel
theorem d_ClassBook_following_5 : decode c_ClassBook_following 5 = .ok (.ireturn, 1) := by decide +kernel
theorem d_ClassBook_choose_0 : decode c_ClassBook_choose 0 = .ok (.aload_n 0, 1) := by decide +kernel
theorem d_ClassBook_choose_1 : decode c_ClassBook_choose 1 = .ok (.getfield 51, 3) := by decide +kernel
theorem d_ClassBook_choose_4 : decode c_ClassBook_choose 4 = .ok (.istore_n 2, 1) := by decide +kernel
theorem d_ClassBook_choose_5 : decode c_ClassBook_choose 5 = .ok (.aload_n 0, 1) := by decide +kernel
theorem d_ClassBook_choose_6 : decode c_ClassBook_choose 6 = .ok (.getfield 68, 3) := by decide +kernel
theorem d_ClassBook_choose_9 : decode c_ClassBook_choose 9 = .ok (.istore_n 3, 1) := by decide +kernel
theorem d_ClassBook_choose_10 : decode c_ClassBook_choose 10 = .ok (.iload_n 1, 1) := by decide +kernel
theorem d_ClassBook_choose_11 : decode c_ClassBook_choose 11 = .ok (.istore 4, 2) := by decide +kernel
theorem d_ClassBook_choose_13 : decode c_ClassBook_choose 13 = .ok (.aload_n 0, 1) := by decide +kernel
theorem d_ClassBook_choose_14 : decode c_ClassBook_choose 14 = .ok (.getfield 15, 3) := by decide +kernel
theorem d_ClassBook_choose_17 : decode c_ClassBook_choose 17 = .ok (.getfield 78, 3) := by decide +kernel
theorem d_ClassBook_choose_20 : decode c_ClassBook_choose 20 = .ok (.istore 5, 2) := by decide +kernel
theorem d_ClassBook_choose_22 : decode c_ClassBook_choose 22 = .ok (.iload 5, 2) := by decide +kernel
theorem d_ClassBook_choose_24 : decode c_ClassBook_choose 24 = .ok (.iconst 1, 1) := by decide +kernel
theorem d_ClassBook_choose_25 : decode c_ClassBook_choose 25 = .ok (.if_icmp .le 110, 3) := by decide +kernel
theorem d_ClassBook_choose_28 : decode c_ClassBook_choose 28 = .ok (.iload_n 2, 1) := by decide +kernel
theorem d_ClassBook_choose_29 : decode c_ClassBook_choose 29 = .ok (.istore 6, 2) := by decide +kernel
theorem d_ClassBook_choose_31 : decode c_ClassBook_choose 31 = .ok (.iload_n 2, 1) := by decide +kernel
theorem d_ClassBook_choose_32 : decode c_ClassBook_choose 32 = .ok (.invokestatic 158, 3) := by decide +kernel
theorem d_ClassBook_choose_35 : decode c_ClassBook_choose 35 = .ok (.istore 7, 2) := by decide +kernel
theorem d_ClassBook_choose_37 : decode c_ClassBook_choose 37 = .ok (.iconst 0, 1) := by decide +kernel
theorem d_ClassBook_choose_38 : decode c_ClassBook_choose 38 = .ok (.istore 8, 2) := by decide +kernel
theorem d_ClassBook_choose_40 : decode c_ClassBook_choose 40 = .ok (.iload 8, 2) := by decide +kernel
theorem d_ClassBook_choose_42 : decode c_ClassBook_choose 42 = .ok (.iload 7, 2) := by decide +kernel
theorem d_ClassBook_choose_44 : decode c_ClassBook_choose 44 = .ok (.if_icmp .ge 46, 3) := by decide +kernel
theorem d_ClassBook_choose_47 : decode c_ClassBook_choose 47 = .ok (.aload_n 0, 1) := by decide +kernel
theorem d_ClassBook_choose_48 : decode c_ClassBook_choose 48 = .ok (.iload 5, 2) := by decide +kernel
theorem d_ClassBook_choose_50 : decode c_ClassBook_choose 50 = .ok (.iload_n 2, 1) := by decide +kernel
theorem d_ClassBook_choose_51 : decode c_ClassBook_choose 51 = .ok (.iload_n 3, 1) := by decide +kernel
theorem d_ClassBook_choose_52 : decode c_ClassBook_choose 52 = .ok (.iload 6, 2) := by decide +kernel
theorem d_ClassBook_choose_54 : decode c_ClassBook_choose 54 = .ok (.invokevirtual 161, 3) := by decide +kernel
theorem d_ClassBook_choose_57 : decode c_ClassBook_choose 57 = .ok (.istore 9, 2) := by decide +kernel
theorem d_ClassBook_choose_59 : decode c_ClassBook_choose 59 = .ok (.iload 4, 2) := by decide +kernel
theorem d_ClassBook_choose_61 : decode c_ClassBook_choose 61 = .ok (.iload 9, 2) := by decide +kernel
theorem d_ClassBook_choose_63 : decode c_ClassBook_choose 63 = .ok (.if_icmp .ge 6, 3) := by decide +kernel
theorem d_ClassBook_choose_66 : decode c_ClassBook_choose 66 = .ok (.goto 24, 3) := by decide +kernel
theorem d_ClassBook_choose_69 : decode c_ClassBook_choose 69 = .ok (.iload 4, 2) := by decide +kernel
theorem d_ClassBook_choose_71 : decode c_ClassBook_choose 71 = .ok (.iload 9, 2) := by decide +kernel
theorem d_ClassBook_choose_73 : decode c_ClassBook_choose 73 = .ok (.isub, 1) := by decide +kernel
theorem d_ClassBook_choose_74 : decode c_ClassBook_choose 74 = .ok (.istore 4, 2) := by decide +kernel
theorem d_ClassBook_choose_76 : decode c_ClassBook_choose 76 = .ok (.iload 6, 2) := by decide +kernel
theorem d_ClassBook_choose_78 : decode c_ClassBook_choose 78 = .ok (.iload_n 2, 1) := by decide +kernel
theorem d_ClassBook_choose_79 : decode c_ClassBook_choose 79 = .ok (.invokestatic 164, 3) := by decide +kernel
theorem d_ClassBook_choose_82 : decode c_ClassBook_choose 82 = .ok (.istore 6, 2) := by decide +kernel
theorem d_ClassBook_choose_84 : decode c_ClassBook_choose 84 = .ok (.iinc 8 1, 3) := by decide +kernel
theorem d_ClassBook_choose_87 : decode c_ClassBook_choose 87 = .ok (.goto (-47), 3) := by decide +kernel
theorem d_ClassBook_choose_90 : decode c_ClassBook_choose 90 = .ok (.aload_n 0, 1) := by decide +kernel
theorem d_ClassBook_choose_91 : decode c_ClassBook_choose 91 = .ok (.getfield 31, 3) := by decide +kernel
theorem d_ClassBook_choose_94 : decode c_ClassBook_choose 94 = .ok (.aload_n 0, 1) := by decide +kernel
theorem d_ClassBook_choose_95 : decode c_ClassBook_choose 95 = .ok (.getfield 15, 3) := by decide +kernel
theorem d_ClassBook_choose_98 : decode c_ClassBook_choose 98 = .ok (.getfield 78, 3) := by decide +kernel
theorem d_ClassBook_choose_101 : decode c_ClassBook_choose 101 = .ok (.iload 5, 2) := by decide +kernel
theorem d_ClassBook_choose_103 : decode c_ClassBook_choose 103 = .ok (.isub, 1) := by decide +kernel
theorem d_ClassBook_choose_104 : decode c_ClassBook_choose 104 = .ok (.iload 6, 2) := by decide +kernel
theorem d_ClassBook_choose_106 : decode c_ClassBook_choose 106 = .ok (.iastore, 1) := by decide +kernel
theorem d_ClassBook_choose_107 : decode c_ClassBook_choose 107 = .ok (.iload_n 2, 1) := by decide +kernel
theorem d_ClassBook_choose_108 : decode c_ClassBook_choose 108 = .ok (.iload 6, 2) := by decide +kernel
theorem d_ClassBook_choose_110 : decode c_ClassBook_choose 110 = .ok (.iconst (-1), 1) := by decide +kernel
theorem d_ClassBook_choose_111 : decode c_ClassBook_choose 111 = .ok (.ixor, 1) := by decide +kernel
theorem d_ClassBook_choose_112 : decode c_ClassBook_choose 112 = .ok (.iand, 1) := by decide +kernel
theorem d_ClassBook_choose_113 : decode c_ClassBook_choose 113 = .ok (.istore_n 2, 1) := by decide +kernel
theorem d_ClassBook_choose_114 : decode c_ClassBook_choose 114 = .ok (.iload_n 3, 1) := by decide +kernel
theorem d_ClassBook_choose_115 : decode c_ClassBook_choose 115 = .ok (.aload_n 0, 1) := by decide +kernel
theorem d_ClassBook_choose_116 : decode c_ClassBook_choose 116 = .ok (.getfield 34, 3) := by decide +kernel
theorem d_ClassBook_choose_119 : decode c_ClassBook_choose 119 = .ok (.iload 6, 2) := by decide +kernel
theorem d_ClassBook_choose_121 : decode c_ClassBook_choose 121 = .ok (.aload_n 0, 1) := by decide +kernel
theorem d_ClassBook_choose_122 : decode c_ClassBook_choose 122 = .ok (.getfield 57, 3) := by decide +kernel
theorem d_ClassBook_choose_125 : decode c_ClassBook_choose 125 = .ok (.iushr, 1) := by decide +kernel
theorem d_ClassBook_choose_126 : decode c_ClassBook_choose 126 = .ok (.iaload, 1) := by decide +kernel
theorem d_ClassBook_choose_127 : decode c_ClassBook_choose 127 = .ok (.isub, 1) := by decide +kernel
theorem d_ClassBook_choose_128 : decode c_ClassBook_choose 128 = .ok (.istore_n 3, 1) := by decide +kernel
theorem d_ClassBook_choose_129 : decode c_ClassBook_choose 129 = .ok (.iinc 5 (-1), 3) := by decide +kernel
theorem d_ClassBook_choose_132 : decode c_ClassBook_choose 132 = .ok (.goto (-110), 3) := by decide +kernel
theorem d_ClassBook_choose_135 : decode c_ClassBook_choose 135 = .ok (.aload_n 0, 1) := by decide +kernel
theorem d_ClassBook_choose_136 : decode c_ClassBook_choose 136 = .ok (.getfield 31, 3) := by decide +kernel
theorem d_ClassBook_choose_139 : decode c_ClassBook_choose 139 = .ok (.aload_n 0, 1) := by decide +kernel
theorem d_ClassBook_choose_140 : decode c_ClassBook_choose 140 = .ok (.getfield 15, 3) := by decide +kernel
theorem d_ClassBook_choose_143 : decode c_ClassBook_choose 143 = .ok (.getfield 78, 3) := by decide +kernel
theorem d_ClassBook_choose_146 : decode c_ClassBook_choose 146 = .ok (.iconst 1, 1) := by decide +kernel
theorem d_ClassBook_choose_147 : decode c_ClassBook_choose 147 = .ok (.isub, 1) := by decide +kernel
theorem d_ClassBook_choose_148 : decode c_ClassBook_choose 148 = .ok (.iload_n 2, 1) := by decide +kernel
theorem d_ClassBook_choose_149 : decode c_ClassBook_choose 149 = .ok (.iastore, 1) := by decide +kernel
theorem d_ClassBook_choose_150 : decode c_ClassBook_choose 150 = .ok (.return_, 1) := by decide +kernel
theorem d_ClassBook_visit_0 : decode c_ClassBook_visit 0 = .ok (.iload_n 1, 1) := by decide +kernel
theorem d_ClassBook_visit_1 : decode c_ClassBook_visit 1 = .ok (.iconst 1, 1) := by decide +kernel
theorem d_ClassBook_visit_2 : decode c_ClassBook_visit 2 = .ok (.if_icmp .gt 44, 3) := by decide +kernel
theorem d_ClassBook_visit_5 : decode c_ClassBook_visit 5 = .ok (.aload_n 0, 1) := by decide +kernel
theorem d_ClassBook_visit_6 : decode c_ClassBook_visit 6 = .ok (.getfield 23, 3) := by decide +kernel
theorem d_ClassBook_visit_9 : decode c_ClassBook_visit 9 = .ok (.getfield 168, 3) := by decide +kernel
theorem d_ClassBook_visit_12 : decode c_ClassBook_visit 12 = .ok (.aload_n 0, 1) := by decide +kernel
theorem d_ClassBook_visit_13 : decode c_ClassBook_visit 13 = .ok (.getfield 15, 3) := by decide +kernel
theorem d_ClassBook_visit_16 : decode c_ClassBook_visit 16 = .ok (.getfield 78, 3) := by decide +kernel
theorem d_ClassBook_visit_19 : decode c_ClassBook_visit 19 = .ok (.iconst 1, 1) := by decide +kernel
theorem d_ClassBook_visit_20 : decode c_ClassBook_visit 20 = .ok (.isub, 1) := by decide +kernel
theorem d_ClassBook_visit_21 : decode c_ClassBook_visit 21 = .ok (.aload_n 0, 1) := by decide +kernel
theorem d_ClassBook_visit_22 : decode c_ClassBook_visit 22 = .ok (.getfield 23, 3) := by decide +kernel
theorem d_ClassBook_visit_25 : decode c_ClassBook_visit 25 = .ok (.iload_n 2, 1) := by decide +kernel
theorem d_ClassBook_visit_26 : decode c_ClassBook_visit 26 = .ok (.iload 4, 2) := by decide +kernel
theorem d_ClassBook_visit_28 : decode c_ClassBook_visit 28 = .ok (.invokevirtual 171, 3) := by decide +kernel
theorem d_ClassBook_visit_31 : decode c_ClassBook_visit 31 = .ok (.iastore, 1) := by decide +kernel
theorem d_ClassBook_visit_32 : decode c_ClassBook_visit 32 = .ok (.aload_n 0, 1) := by decide +kernel
theorem d_ClassBook_visit_33 : decode c_ClassBook_visit 33 = .ok (.aload_n 0, 1) := by decide +kernel
theorem d_ClassBook_visit_34 : decode c_ClassBook_visit 34 = .ok (.getfield 23, 3) := by decide +kernel
theorem d_ClassBook_visit_37 : decode c_ClassBook_visit 37 = .ok (.iload 4, 2) := by decide +kernel
theorem d_ClassBook_visit_39 : decode c_ClassBook_visit 39 = .ok (.invokevirtual 174, 3) := by decide +kernel
theorem d_ClassBook_visit_42 : decode c_ClassBook_visit 42 = .ok (.invokevirtual 177, 3) := by decide +kernel
theorem d_ClassBook_visit_45 : decode c_ClassBook_visit 45 = .ok (.return_, 1) := by decide +kernel
theorem d_ClassBook_visit_46 : decode c_ClassBook_visit 46 = .ok (.iload_n 2, 1) := by decide +kernel
theorem d_ClassBook_visit_47 : decode c_ClassBook_visit 47 = .ok (.istore 5, 2) := by decide +kernel
theorem d_ClassBook_visit_49 : decode c_ClassBook_visit 49 = .ok (.iload_n 2, 1) := by decide +kernel
theorem d_ClassBook_visit_50 : decode c_ClassBook_visit 50 = .ok (.invokestatic 158, 3) := by decide +kernel
theorem d_ClassBook_visit_53 : decode c_ClassBook_visit 53 = .ok (.istore 6, 2) := by decide +kernel
theorem d_ClassBook_visit_55 : decode c_ClassBook_visit 55 = .ok (.iconst 0, 1) := by decide +kernel
theorem d_ClassBook_visit_56 : decode c_ClassBook_visit 56 = .ok (.istore 7, 2) := by decide +kernel
theorem d_ClassBook_visit_58 : decode c_ClassBook_visit 58 = .ok (.iload 7, 2) := by decide +kernel
theorem d_ClassBook_visit_60 : decode c_ClassBook_visit 60 = .ok (.iload 6, 2) := by decide +kernel
theorem d_ClassBook_visit_62 : decode c_ClassBook_visit 62 = .ok (.if_icmp .ge 86, 3) := by decide +kernel
theorem d_ClassBook_visit_65 : decode c_ClassBook_visit 65 = .ok (.aload_n 0, 1) := by decide +kernel
theorem d_ClassBook_visit_66 : decode c_ClassBook_visit 66 = .ok (.iload_n 1, 1) := by decide +kernel
theorem d_ClassBook_visit_67 : decode c_ClassBook_visit 67 = .ok (.iload_n 2, 1) := by decide +kernel
theorem d_ClassBook_visit_68 : decode c_ClassBook_visit 68 = .ok (.iload_n 3, 1) := by decide +kernel
theorem d_ClassBook_visit_69 : decode c_ClassBook_visit 69 = .ok (.iload 5, 2) := by decide +kernel
theorem d_ClassBook_visit_71 : decode c_ClassBook_visit 71 = .ok (.invokevirtual 161, 3) := by decide +kernel
theorem d_ClassBook_visit_74 : decode c_ClassBook_visit 74 = .ok (.ifCond .le 60, 3) := by decide +kernel
theorem d_ClassBook_visit_77 : decode c_ClassBook_visit 77 = .ok (.aload_n 0, 1) := by decide +kernel
theorem d_ClassBook_visit_78 : decode c_ClassBook_visit 78 = .ok (.getfield 23, 3) := by decide +kernel
theorem d_ClassBook_visit_81 : decode c_ClassBook_visit 81 = .ok (.getfield 168, 3) := by decide +kernel
theorem d_ClassBook_visit_84 : decode c_ClassBook_visit 84 = .ok (.aload_n 0, 1) := by decide +kernel
theorem d_ClassBook_visit_85 : decode c_ClassBook_visit 85 = .ok (.getfield 15, 3) := by decide +kernel
theorem d_ClassBook_visit_88 : decode c_ClassBook_visit 88 = .ok (.getfield 78, 3) := by decide +kernel
theorem d_ClassBook_visit_91 : decode c_ClassBook_visit 91 = .ok (.iload_n 1, 1) := by decide +kernel
theorem d_ClassBook_visit_92 : decode c_ClassBook_visit 92 = .ok (.isub, 1) := by decide +kernel
theorem d_ClassBook_visit_93 : decode c_ClassBook_visit 93 = .ok (.aload_n 0, 1) := by decide +kernel
theorem d_ClassBook_visit_94 : decode c_ClassBook_visit 94 = .ok (.getfield 23, 3) := by decide +kernel
theorem d_ClassBook_visit_97 : decode c_ClassBook_visit 97 = .ok (.iload 5, 2) := by decide +kernel
theorem d_ClassBook_visit_99 : decode c_ClassBook_visit 99 = .ok (.iload 4, 2) := by decide +kernel
theorem d_ClassBook_visit_101 : decode c_ClassBook_visit 101 = .ok (.invokevirtual 171, 3) := by decide +kernel
theorem d_ClassBook_visit_104 : decode c_ClassBook_visit 104 = .ok (.iastore, 1) := by decide +kernel
theorem d_ClassBook_visit_105 : decode c_ClassBook_visit 105 = .ok (.aload_n 0, 1) := by decide +kernel
theorem d_ClassBook_visit_106 : decode c_ClassBook_visit 106 = .ok (.iload_n 1, 1) := by decide +kernel
theorem d_ClassBook_visit_107 : decode c_ClassBook_visit 107 = .ok (.iconst 1, 1) := by decide +kernel
theorem d_ClassBook_visit_108 : decode c_ClassBook_visit 108 = .ok (.isub, 1) := by decide +kernel
theorem d_ClassBook_visit_109 : decode c_ClassBook_visit 109 = .ok (.iload_n 2, 1) := by decide +kernel
theorem d_ClassBook_visit_110 : decode c_ClassBook_visit 110 = .ok (.iload 5, 2) := by decide +kernel
theorem d_ClassBook_visit_112 : decode c_ClassBook_visit 112 = .ok (.iconst (-1), 1) := by decide +kernel
theorem d_ClassBook_visit_113 : decode c_ClassBook_visit 113 = .ok (.ixor, 1) := by decide +kernel
theorem d_ClassBook_visit_114 : decode c_ClassBook_visit 114 = .ok (.iand, 1) := by decide +kernel
theorem d_ClassBook_visit_115 : decode c_ClassBook_visit 115 = .ok (.iload_n 3, 1) := by decide +kernel
theorem d_ClassBook_visit_116 : decode c_ClassBook_visit 116 = .ok (.aload_n 0, 1) := by decide +kernel
theorem d_ClassBook_visit_117 : decode c_ClassBook_visit 117 = .ok (.getfield 34, 3) := by decide +kernel
theorem d_ClassBook_visit_120 : decode c_ClassBook_visit 120 = .ok (.iload 5, 2) := by decide +kernel
theorem d_ClassBook_visit_122 : decode c_ClassBook_visit 122 = .ok (.aload_n 0, 1) := by decide +kernel
theorem d_ClassBook_visit_123 : decode c_ClassBook_visit 123 = .ok (.getfield 57, 3) := by decide +kernel
theorem d_ClassBook_visit_126 : decode c_ClassBook_visit 126 = .ok (.iushr, 1) := by decide +kernel
theorem d_ClassBook_visit_127 : decode c_ClassBook_visit 127 = .ok (.iaload, 1) := by decide +kernel
theorem d_ClassBook_visit_128 : decode c_ClassBook_visit 128 = .ok (.isub, 1) := by decide +kernel
theorem d_ClassBook_visit_129 : decode c_ClassBook_visit 129 = .ok (.iload 4, 2) := by decide +kernel
theorem d_ClassBook_visit_131 : decode c_ClassBook_visit 131 = .ok (.invokevirtual 131, 3) := by decide +kernel
theorem d_ClassBook_visit_134 : decode c_ClassBook_visit 134 = .ok (.iload 5, 2) := by decide +kernel
theorem d_ClassBook_visit_136 : decode c_ClassBook_visit 136 = .ok (.iload_n 2, 1) := by decide +kernel
theorem d_ClassBook_visit_137 : decode c_ClassBook_visit 137 = .ok (.invokestatic 164, 3) := by decide +kernel
theorem d_ClassBook_visit_140 : decode c_ClassBook_visit 140 = .ok (.istore 5, 2) := by decide +kernel
theorem d_ClassBook_visit_142 : decode c_ClassBook_visit 142 = .ok (.iinc 7 1, 3) := by decide +kernel
theorem d_ClassBook_visit_145 : decode c_ClassBook_visit 145 = .ok (.goto (-87), 3) := by decide +kernel
theorem d_ClassBook_visit_148 : decode c_ClassBook_visit 148 = .ok (.return_, 1) := by decide +kernel
theorem d_ClassBook_note_0 : decode c_ClassBook_note 0 = .ok (.aload_n 0, 1) := by decide +kernel
theorem d_ClassBook_note_1 : decode c_ClassBook_note 1 = .ok (.getfield 27, 3) := by decide +kernel
theorem d_ClassBook_note_4 : decode c_ClassBook_note 4 = .ok (.iconst 1, 1) := by decide +kernel
theorem d_ClassBook_note_5 : decode c_ClassBook_note 5 = .ok (.iload_n 1, 1) := by decide +kernel
theorem d_ClassBook_note_6 : decode c_ClassBook_note 6 = .ok (.aload_n 0, 1) := by decide +kernel
theorem d_ClassBook_note_7 : decode c_ClassBook_note 7 = .ok (.getfield 122, 3) := by decide +kernel
theorem d_ClassBook_note_10 : decode c_ClassBook_note 10 = .ok (.invokestatic 180, 3) := by decide +kernel
theorem d_ClassBook_note_13 : decode c_ClassBook_note 13 = .ok (.iadd, 1) := by decide +kernel
theorem d_ClassBook_note_14 : decode c_ClassBook_note 14 = .ok (.dup2, 1) := by decide +kernel
theorem d_ClassBook_note_15 : decode c_ClassBook_note 15 = .ok (.iaload, 1) := by decide +kernel
theorem d_ClassBook_note_16 : decode c_ClassBook_note 16 = .ok (.iconst 1, 1) := by decide +kernel
theorem d_ClassBook_note_17 : decode c_ClassBook_note 17 = .ok (.iadd, 1) := by decide +kernel
theorem d_ClassBook_note_18 : decode c_ClassBook_note 18 = .ok (.iastore, 1) := by decide +kernel
theorem d_ClassBook_note_19 : decode c_ClassBook_note 19 = .ok (.aload_n 0, 1) := by decide +kernel
theorem d_ClassBook_note_20 : decode c_ClassBook_note 20 = .ok (.getfield 119, 3) := by decide +kernel
theorem d_ClassBook_note_23 : decode c_ClassBook_note 23 = .ok (.ldc 118, 2) := by decide +kernel
theorem d_ClassBook_note_25 : decode c_ClassBook_note 25 = .ok (.if_icmp .eq 11, 3) := by decide +kernel
theorem d_ClassBook_note_28 : decode c_ClassBook_note 28 = .ok (.iload_n 1, 1) := by decide +kernel
theorem d_ClassBook_note_29 : decode c_ClassBook_note 29 = .ok (.aload_n 0, 1) := by decide +kernel
theorem d_ClassBook_note_30 : decode c_ClassBook_note 30 = .ok (.getfield 119, 3) := by decide +kernel
theorem d_ClassBook_note_33 : decode c_ClassBook_note 33 = .ok (.if_icmp .ge 8, 3) := by decide +kernel
theorem d_ClassBook_note_36 : decode c_ClassBook_note 36 = .ok (.aload_n 0, 1) := by decide +kernel
theorem d_ClassBook_note_37 : decode c_ClassBook_note 37 = .ok (.iload_n 1, 1) := by decide +kernel
theorem d_ClassBook_note_38 : decode c_ClassBook_note 38 = .ok (.putfield 119, 3) := by decide +kernel
theorem d_ClassBook_note_41 : decode c_ClassBook_note 41 = .ok (.return_, 1) := by decide +kernel
theorem d_Court_init_0 : decode c_Court_init 0 = .ok (.aload_n 0, 1) := by decide +kernel
theorem d_Court_init_1 : decode c_Court_init 1 = .ok (.invokespecial 3, 3) := by decide +kernel
theorem d_Court_init_4 : decode c_Court_init 4 = .ok (.aload_n 0, 1) := by decide +kernel
theorem d_Court_init_5 : decode c_Court_init 5 = .ok (.aload_n 1, 1) := by decide +kernel
theorem d_Court_init_6 : decode c_Court_init 6 = .ok (.putfield 9, 3) := by decide +kernel
theorem d_Court_init_9 : decode c_Court_init 9 = .ok (.aload_n 0, 1) := by decide +kernel
theorem d_Court_init_10 : decode c_Court_init 10 = .ok (.aload_n 2, 1) := by decide +kernel
theorem d_Court_init_11 : decode c_Court_init 11 = .ok (.putfield 15, 3) := by decide +kernel
theorem d_Court_init_14 : decode c_Court_init 14 = .ok (.return_, 1) := by decide +kernel
theorem d_Court_brokenLaw_0 : decode c_Court_brokenLaw 0 = .ok (.iconst 1, 1) := by decide +kernel
theorem d_Court_brokenLaw_1 : decode c_Court_brokenLaw 1 = .ok (.istore_n 2, 1) := by decide +kernel
theorem d_Court_brokenLaw_2 : decode c_Court_brokenLaw 2 = .ok (.iload_n 2, 1) := by decide +kernel
theorem d_Court_brokenLaw_3 : decode c_Court_brokenLaw 3 = .ok (.bipush 6, 2) := by decide +kernel
theorem d_Court_brokenLaw_5 : decode c_Court_brokenLaw 5 = .ok (.if_icmp .gt 20, 3) := by decide +kernel
theorem d_Court_brokenLaw_8 : decode c_Court_brokenLaw 8 = .ok (.aload_n 0, 1) := by decide +kernel
theorem d_Court_brokenLaw_9 : decode c_Court_brokenLaw 9 = .ok (.iload_n 2, 1) := by decide +kernel
theorem d_Court_brokenLaw_10 : decode c_Court_brokenLaw 10 = .ok (.aload_n 1, 1) := by decide +kernel
theorem d_Court_brokenLaw_11 : decode c_Court_brokenLaw 11 = .ok (.invokevirtual 19, 3) := by decide +kernel
theorem d_Court_brokenLaw_14 : decode c_Court_brokenLaw 14 = .ok (.ifCond .lt 5, 3) := by decide +kernel
theorem d_Court_brokenLaw_17 : decode c_Court_brokenLaw 17 = .ok (.iload_n 2, 1) := by decide +kernel
theorem d_Court_brokenLaw_18 : decode c_Court_brokenLaw 18 = .ok (.ireturn, 1) := by decide +kernel
theorem d_Court_brokenLaw_19 : decode c_Court_brokenLaw 19 = .ok (.iinc 2 1, 3) := by decide +kernel
theorem d_Court_brokenLaw_22 : decode c_Court_brokenLaw 22 = .ok (.goto (-20), 3) := by decide +kernel
theorem d_Court_brokenLaw_25 : decode c_Court_brokenLaw 25 = .ok (.iconst 0, 1) := by decide +kernel
theorem d_Court_brokenLaw_26 : decode c_Court_brokenLaw 26 = .ok (.ireturn, 1) := by decide +kernel
theorem d_Court_culprit_0 : decode c_Court_culprit 0 = .ok (.iload_n 1, 1) := by decide +kernel
theorem d_Court_culprit_1 : decode c_Court_culprit 1 = .ok (.tableswitch 54 1 5 #[35, 35, 35, 42, 48], 35) := by decide +kernel
theorem d_Court_culprit_36 : decode c_Court_culprit 36 = .ok (.aload_n 0, 1) := by decide +kernel
theorem d_Court_culprit_37 : decode c_Court_culprit 37 = .ok (.iload_n 1, 1) := by decide +kernel
theorem d_Court_culprit_38 : decode c_Court_culprit 38 = .ok (.aload_n 2, 1) := by decide +kernel
theorem d_Court_culprit_39 : decode c_Court_culprit 39 = .ok (.invokevirtual 23, 3) := by decide +kernel
theorem d_Court_culprit_42 : decode c_Court_culprit 42 = .ok (.ireturn, 1) := by decide +kernel
theorem d_Court_culprit_43 : decode c_Court_culprit 43 = .ok (.aload_n 0, 1) := by decide +kernel
theorem d_Court_culprit_44 : decode c_Court_culprit 44 = .ok (.aload_n 2, 1) := by decide +kernel
theorem d_Court_culprit_45 : decode c_Court_culprit 45 = .ok (.invokevirtual 26, 3) := by decide +kernel
theorem d_Court_culprit_48 : decode c_Court_culprit 48 = .ok (.ireturn, 1) := by decide +kernel
theorem d_Court_culprit_49 : decode c_Court_culprit 49 = .ok (.aload_n 0, 1) := by decide +kernel
theorem d_Court_culprit_50 : decode c_Court_culprit 50 = .ok (.aload_n 2, 1) := by decide +kernel
theorem d_Court_culprit_51 : decode c_Court_culprit 51 = .ok (.invokevirtual 30, 3) := by decide +kernel
theorem d_Court_culprit_54 : decode c_Court_culprit 54 = .ok (.ireturn, 1) := by decide +kernel
theorem d_Court_culprit_55 : decode c_Court_culprit 55 = .ok (.aload_n 0, 1) := by decide +kernel
theorem d_Court_culprit_56 : decode c_Court_culprit 56 = .ok (.aload_n 2, 1) := by decide +kernel
theorem d_Court_culprit_57 : decode c_Court_culprit 57 = .ok (.invokevirtual 33, 3) := by decide +kernel
theorem d_Court_culprit_60 : decode c_Court_culprit 60 = .ok (.ireturn, 1) := by decide +kernel
theorem d_Court_looseEnd_0 : decode c_Court_looseEnd 0 = .ok (.iload_n 1, 1) := by decide +kernel
theorem d_Court_looseEnd_1 : decode c_Court_looseEnd 1 = .ok (.invokestatic 36, 3) := by decide +kernel
theorem d_Court_looseEnd_4 : decode c_Court_looseEnd 4 = .ok (.istore_n 3, 1) := by decide +kernel
theorem d_Court_looseEnd_5 : decode c_Court_looseEnd 5 = .ok (.iload_n 2, 1) := by decide +kernel
theorem d_Court_looseEnd_6 : decode c_Court_looseEnd 6 = .ok (.iconst 1, 1) := by decide +kernel
theorem d_Court_looseEnd_7 : decode c_Court_looseEnd 7 = .ok (.if_icmp .ne 5, 3) := by decide +kernel
theorem d_Court_looseEnd_10 : decode c_Court_looseEnd 10 = .ok (.iload_n 3, 1) := by decide +kernel
theorem d_Court_looseEnd_11 : decode c_Court_looseEnd 11 = .ok (.ireturn, 1) := by decide +kernel
theorem d_Court_looseEnd_12 : decode c_Court_looseEnd 12 = .ok (.iload_n 2, 1) := by decide +kernel
theorem d_Court_looseEnd_13 : decode c_Court_looseEnd 13 = .ok (.iconst 2, 1) := by decide +kernel
theorem d_Court_looseEnd_14 : decode c_Court_looseEnd 14 = .ok (.if_icmp .ne 8, 3) := by decide +kernel
theorem d_Court_looseEnd_17 : decode c_Court_looseEnd 17 = .ok (.iload_n 3, 1) := by decide +kernel
theorem d_Court_looseEnd_18 : decode c_Court_looseEnd 18 = .ok (.iconst (-1), 1) := by decide +kernel
theorem d_Court_looseEnd_19 : decode c_Court_looseEnd 19 = .ok (.if_icmp .ne 5, 3) := by decide +kernel
theorem d_Court_looseEnd_22 : decode c_Court_looseEnd 22 = .ok (.iconst (-1), 1) := by decide +kernel
theorem d_Court_looseEnd_23 : decode c_Court_looseEnd 23 = .ok (.ireturn, 1) := by decide +kernel
theorem d_Court_looseEnd_24 : decode c_Court_looseEnd 24 = .ok (.iload_n 1, 1) := by decide +kernel
theorem d_Court_looseEnd_25 : decode c_Court_looseEnd 25 = .ok (.aload_n 0, 1) := by decide +kernel
theorem d_Court_looseEnd_26 : decode c_Court_looseEnd 26 = .ok (.getfield 9, 3) := by decide +kernel
theorem d_Court_looseEnd_29 : decode c_Court_looseEnd 29 = .ok (.getfield 42, 3) := by decide +kernel
theorem d_Court_looseEnd_32 : decode c_Court_looseEnd 32 = .ok (.iload_n 1, 1) := by decide +kernel
theorem d_Court_looseEnd_33 : decode c_Court_looseEnd 33 = .ok (.iload_n 3, 1) := by decide +kernel
theorem d_Court_looseEnd_34 : decode c_Court_looseEnd 34 = .ok (.invokestatic 48, 3) := by decide +kernel
theorem d_Court_looseEnd_37 : decode c_Court_looseEnd 37 = .ok (.invokestatic 51, 3) := by decide +kernel
theorem d_Court_looseEnd_40 : decode c_Court_looseEnd 40 = .ok (.iconst (-1), 1) := by decide +kernel
theorem d_Court_looseEnd_41 : decode c_Court_looseEnd 41 = .ok (.ixor, 1) := by decide +kernel
theorem d_Court_looseEnd_42 : decode c_Court_looseEnd 42 = .ok (.iand, 1) := by decide +kernel
theorem d_Court_looseEnd_43 : decode c_Court_looseEnd 43 = .ok (.invokestatic 36, 3) := by decide +kernel
theorem d_Court_looseEnd_46 : decode c_Court_looseEnd 46 = .ok (.ireturn, 1) := by decide +kernel
theorem d_Court_allows_0 : decode c_Court_allows 0 = .ok (.iconst 0, 1) := by decide +kernel
theorem d_Court_allows_1 : decode c_Court_allows 1 = .ok (.istore_n 2, 1) := by decide +kernel
theorem d_Court_allows_2 : decode c_Court_allows 2 = .ok (.iload_n 2, 1) := by decide +kernel
theorem d_Court_allows_3 : decode c_Court_allows 3 = .ok (.aload_n 0, 1) := by decide +kernel
theorem d_Court_allows_4 : decode c_Court_allows 4 = .ok (.getfield 15, 3) := by decide +kernel
theorem d_Court_allows_7 : decode c_Court_allows 7 = .ok (.getfield 55, 3) := by decide +kernel
theorem d_Court_allows_10 : decode c_Court_allows 10 = .ok (.if_icmp .ge 24, 3) := by decide +kernel
theorem d_Court_allows_13 : decode c_Court_allows 13 = .ok (.aload_n 0, 1) := by decide +kernel
theorem d_Court_allows_14 : decode c_Court_allows 14 = .ok (.aload_n 1, 1) := by decide +kernel
theorem d_Court_allows_15 : decode c_Court_allows 15 = .ok (.getfield 61, 3) := by decide +kernel
theorem d_Court_allows_18 : decode c_Court_allows 18 = .ok (.iload_n 2, 1) := by decide +kernel
theorem d_Court_allows_19 : decode c_Court_allows 19 = .ok (.iaload, 1) := by decide +kernel
theorem d_Court_allows_20 : decode c_Court_allows 20 = .ok (.invokevirtual 66, 3) := by decide +kernel
theorem d_Court_allows_23 : decode c_Court_allows 23 = .ok (.ifCond .ne 5, 3) := by decide +kernel
theorem d_Court_allows_26 : decode c_Court_allows 26 = .ok (.iconst 0, 1) := by decide +kernel
theorem d_Court_allows_27 : decode c_Court_allows 27 = .ok (.ireturn, 1) := by decide +kernel
theorem d_Court_allows_28 : decode c_Court_allows 28 = .ok (.iinc 2 1, 3) := by decide +kernel
theorem d_Court_allows_31 : decode c_Court_allows 31 = .ok (.goto (-29), 3) := by decide +kernel
theorem d_Court_allows_34 : decode c_Court_allows 34 = .ok (.aload_n 0, 1) := by decide +kernel
theorem d_Court_allows_35 : decode c_Court_allows 35 = .ok (.aload_n 1, 1) := by decide +kernel
theorem d_Court_allows_36 : decode c_Court_allows 36 = .ok (.invokevirtual 30, 3) := by decide +kernel
theorem d_Court_allows_39 : decode c_Court_allows 39 = .ok (.iconst (-1), 1) := by decide +kernel
theorem d_Court_allows_40 : decode c_Court_allows 40 = .ok (.if_icmp .ne 16, 3) := by decide +kernel
theorem d_Court_allows_43 : decode c_Court_allows 43 = .ok (.aload_n 0, 1) := by decide +kernel
theorem d_Court_allows_44 : decode c_Court_allows 44 = .ok (.aload_n 1, 1) := by decide +kernel
theorem d_Court_allows_45 : decode c_Court_allows 45 = .ok (.invokevirtual 33, 3) := by decide +kernel
theorem d_Court_allows_48 : decode c_Court_allows 48 = .ok (.iconst (-1), 1) := by decide +kernel
theorem d_Court_allows_49 : decode c_Court_allows 49 = .ok (.if_icmp .ne 7, 3) := by decide +kernel
theorem d_Court_allows_52 : decode c_Court_allows 52 = .ok (.iconst 1, 1) := by decide +kernel
theorem d_Court_allows_53 : decode c_Court_allows 53 = .ok (.goto 4, 3) := by decide +kernel
theorem d_Court_allows_56 : decode c_Court_allows 56 = .ok (.iconst 0, 1) := by decide +kernel
theorem d_Court_allows_57 : decode c_Court_allows 57 = .ok (.ireturn, 1) := by decide +kernel
theorem d_Court_mayBeDistrict_0 : decode c_Court_mayBeDistrict 0 = .ok (.iload_n 1, 1) := by decide +kernel
theorem d_Court_mayBeDistrict_1 : decode c_Court_mayBeDistrict 1 = .ok (.ifCond .eq 41, 3) := by decide +kernel
theorem d_Court_mayBeDistrict_4 : decode c_Court_mayBeDistrict 4 = .ok (.aload_n 0, 1) := by decide +kernel
theorem d_Court_mayBeDistrict_5 : decode c_Court_mayBeDistrict 5 = .ok (.aload_n 0, 1) := by decide +kernel
theorem d_Court_mayBeDistrict_6 : decode c_Court_mayBeDistrict 6 = .ok (.getfield 9, 3) := by decide +kernel
theorem d_Court_mayBeDistrict_9 : decode c_Court_mayBeDistrict 9 = .ok (.getfield 70, 3) := by decide +kernel
theorem d_Court_mayBeDistrict_12 : decode c_Court_mayBeDistrict 12 = .ok (.iload_n 1, 1) := by decide +kernel
theorem d_Court_mayBeDistrict_13 : decode c_Court_mayBeDistrict 13 = .ok (.invokestatic 73, 3) := by decide +kernel
theorem d_Court_mayBeDistrict_16 : decode c_Court_mayBeDistrict 16 = .ok (.invokevirtual 77, 3) := by decide +kernel
theorem d_Court_mayBeDistrict_19 : decode c_Court_mayBeDistrict 19 = .ok (.ifCond .eq 23, 3) := by decide +kernel
theorem d_Court_mayBeDistrict_22 : decode c_Court_mayBeDistrict 22 = .ok (.aload_n 0, 1) := by decide +kernel
theorem d_Court_mayBeDistrict_23 : decode c_Court_mayBeDistrict 23 = .ok (.iload_n 1, 1) := by decide +kernel
theorem d_Court_mayBeDistrict_24 : decode c_Court_mayBeDistrict 24 = .ok (.invokevirtual 80, 3) := by decide +kernel
theorem d_Court_mayBeDistrict_27 : decode c_Court_mayBeDistrict 27 = .ok (.ifCond .eq 15, 3) := by decide +kernel
theorem d_Court_mayBeDistrict_30 : decode c_Court_mayBeDistrict 30 = .ok (.aload_n 0, 1) := by decide +kernel
theorem d_Court_mayBeDistrict_31 : decode c_Court_mayBeDistrict 31 = .ok (.iload_n 1, 1) := by decide +kernel
theorem d_Court_mayBeDistrict_32 : decode c_Court_mayBeDistrict 32 = .ok (.invokevirtual 83, 3) := by decide +kernel
theorem d_Court_mayBeDistrict_35 : decode c_Court_mayBeDistrict 35 = .ok (.ifCond .eq 7, 3) := by decide +kernel
theorem d_Court_mayBeDistrict_38 : decode c_Court_mayBeDistrict 38 = .ok (.iconst 1, 1) := by decide +kernel
theorem d_Court_mayBeDistrict_39 : decode c_Court_mayBeDistrict 39 = .ok (.goto 4, 3) := by decide +kernel
theorem d_Court_mayBeDistrict_42 : decode c_Court_mayBeDistrict 42 = .ok (.iconst 0, 1) := by decide +kernel
theorem d_Court_mayBeDistrict_43 : decode c_Court_mayBeDistrict 43 = .ok (.ireturn, 1) := by decide +kernel
theorem d_Court_hangs_0 : decode c_Court_hangs 0 = .ok (.aload_n 0, 1) := by decide +kernel
theorem d_Court_hangs_1 : decode c_Court_hangs 1 = .ok (.getfield 9, 3) := by decide +kernel
theorem d_Court_hangs_4 : decode c_Court_hangs 4 = .ok (.getfield 42, 3) := by decide +kernel
theorem d_Court_hangs_7 : decode c_Court_hangs 7 = .ok (.iload_n 1, 1) := by decide +kernel
theorem d_Court_hangs_8 : decode c_Court_hangs 8 = .ok (.iload_n 1, 1) := by decide +kernel
theorem d_Court_hangs_9 : decode c_Court_hangs 9 = .ok (.iload_n 1, 1) := by decide +kernel
theorem d_Court_hangs_10 : decode c_Court_hangs 10 = .ok (.ineg, 1) := by decide +kernel
theorem d_Court_hangs_11 : decode c_Court_hangs 11 = .ok (.iand, 1) := by decide +kernel
theorem d_Court_hangs_12 : decode c_Court_hangs 12 = .ok (.invokestatic 51, 3) := by decide +kernel
theorem d_Court_hangs_15 : decode c_Court_hangs 15 = .ok (.iload_n 1, 1) := by decide +kernel
theorem d_Court_hangs_16 : decode c_Court_hangs 16 = .ok (.if_icmp .ne 7, 3) := by decide +kernel
theorem d_Court_hangs_19 : decode c_Court_hangs 19 = .ok (.iconst 1, 1) := by decide +kernel
theorem d_Court_hangs_20 : decode c_Court_hangs 20 = .ok (.goto 4, 3) := by decide +kernel
theorem d_Court_hangs_23 : decode c_Court_hangs 23 = .ok (.iconst 0, 1) := by decide +kernel
theorem d_Court_hangs_24 : decode c_Court_hangs 24 = .ok (.ireturn, 1) := by decide +kernel
theorem d_Court_fits_0 : decode c_Court_fits 0 = .ok (.aload_n 0, 1) := by decide +kernel
theorem d_Court_fits_1 : decode c_Court_fits 1 = .ok (.getfield 15, 3) := by decide +kernel
theorem d_Court_fits_4 : decode c_Court_fits 4 = .ok (.getfield 55, 3) := by decide +kernel
theorem d_Court_fits_7 : decode c_Court_fits 7 = .ok (.iload_n 1, 1) := by decide +kernel
theorem d_Court_fits_8 : decode c_Court_fits 8 = .ok (.imul, 1) := by decide +kernel
theorem d_Court_fits_9 : decode c_Court_fits 9 = .ok (.aload_n 0, 1) := by decide +kernel
theorem d_Court_fits_10 : decode c_Court_fits 10 = .ok (.getfield 9, 3) := by decide +kernel
theorem d_Court_fits_13 : decode c_Court_fits 13 = .ok (.getfield 86, 3) := by decide +kernel
theorem d_Court_fits_16 : decode c_Court_fits 16 = .ok (.isub, 1) := by decide +kernel
theorem d_Court_fits_17 : decode c_Court_fits 17 = .ok (.invokestatic 89, 3) := by decide +kernel
theorem d_Court_fits_20 : decode c_Court_fits 20 = .ok (.istore_n 2, 1) := by decide +kernel
theorem d_Court_fits_21 : decode c_Court_fits 21 = .ok (.sipush 1000, 3) := by decide +kernel
theorem d_Court_fits_24 : decode c_Court_fits 24 = .ok (.iload_n 2, 1) := by decide +kernel
theorem d_Court_fits_25 : decode c_Court_fits 25 = .ok (.imul, 1) := by decide +kernel
theorem d_Court_fits_26 : decode c_Court_fits 26 = .ok (.aload_n 0, 1) := by decide +kernel
theorem d_Court_fits_27 : decode c_Court_fits 27 = .ok (.getfield 15, 3) := by decide +kernel
theorem d_Court_fits_30 : decode c_Court_fits 30 = .ok (.getfield 94, 3) := by decide +kernel
theorem d_Court_fits_33 : decode c_Court_fits 33 = .ok (.aload_n 0, 1) := by decide +kernel
theorem d_Court_fits_34 : decode c_Court_fits 34 = .ok (.getfield 9, 3) := by decide +kernel
theorem d_Court_fits_37 : decode c_Court_fits 37 = .ok (.getfield 86, 3) := by decide +kernel
theorem d_Court_fits_40 : decode c_Court_fits 40 = .ok (.imul, 1) := by decide +kernel
theorem d_Court_fits_41 : decode c_Court_fits 41 = .ok (.if_icmp .gt 7, 3) := by decide +kernel
theorem d_Court_fits_44 : decode c_Court_fits 44 = .ok (.iconst 1, 1) := by decide +kernel
theorem d_Court_fits_45 : decode c_Court_fits 45 = .ok (.goto 4, 3) := by decide +kernel
theorem d_Court_fits_48 : decode c_Court_fits 48 = .ok (.iconst 0, 1) := by decide +kernel
theorem d_Court_fits_49 : decode c_Court_fits 49 = .ok (.ireturn, 1) := by decide +kernel
theorem d_Court_leavesKeptWhole_0 : decode c_Court_leavesKeptWhole 0 = .ok (.iconst 0, 1) := by decide +kernel
theorem d_Court_leavesKeptWhole_1 : decode c_Court_leavesKeptWhole 1 = .ok (.istore_n 2, 1) := by decide +kernel
theorem d_Court_leavesKeptWhole_2 : decode c_Court_leavesKeptWhole 2 = .ok (.iload_n 2, 1) := by decide +kernel
theorem d_Court_leavesKeptWhole_3 : decode c_Court_leavesKeptWhole 3 = .ok (.bipush 10, 2) := by decide +kernel
theorem d_Court_leavesKeptWhole_5 : decode c_Court_leavesKeptWhole 5 = .ok (.if_icmp .ge 52, 3) := by decide +kernel
theorem d_Court_leavesKeptWhole_8 : decode c_Court_leavesKeptWhole 8 = .ok (.aload_n 0, 1) := by decide +kernel
theorem d_Court_leavesKeptWhole_9 : decode c_Court_leavesKeptWhole 9 = .ok (.getfield 9, 3) := by decide +kernel
theorem d_Court_leavesKeptWhole_12 : decode c_Court_leavesKeptWhole 12 = .ok (.getfield 97, 3) := by decide +kernel
theorem d_Court_leavesKeptWhole_15 : decode c_Court_leavesKeptWhole 15 = .ok (.iload_n 2, 1) := by decide +kernel
theorem d_Court_leavesKeptWhole_16 : decode c_Court_leavesKeptWhole 16 = .ok (.iaload, 1) := by decide +kernel
theorem d_Court_leavesKeptWhole_17 : decode c_Court_leavesKeptWhole 17 = .ok (.iload_n 1, 1) := by decide +kernel
theorem d_Court_leavesKeptWhole_18 : decode c_Court_leavesKeptWhole 18 = .ok (.iand, 1) := by decide +kernel
theorem d_Court_leavesKeptWhole_19 : decode c_Court_leavesKeptWhole 19 = .ok (.istore_n 3, 1) := by decide +kernel
theorem d_Court_leavesKeptWhole_20 : decode c_Court_leavesKeptWhole 20 = .ok (.aload_n 0, 1) := by decide +kernel
theorem d_Court_leavesKeptWhole_21 : decode c_Court_leavesKeptWhole 21 = .ok (.getfield 15, 3) := by decide +kernel
theorem d_Court_leavesKeptWhole_24 : decode c_Court_leavesKeptWhole 24 = .ok (.getfield 100, 3) := by decide +kernel
theorem d_Court_leavesKeptWhole_27 : decode c_Court_leavesKeptWhole 27 = .ok (.iload_n 2, 1) := by decide +kernel
theorem d_Court_leavesKeptWhole_28 : decode c_Court_leavesKeptWhole 28 = .ok (.baload, 1) := by decide +kernel
theorem d_Court_leavesKeptWhole_29 : decode c_Court_leavesKeptWhole 29 = .ok (.ifCond .eq 22, 3) := by decide +kernel
theorem d_Court_leavesKeptWhole_32 : decode c_Court_leavesKeptWhole 32 = .ok (.iload_n 3, 1) := by decide +kernel
theorem d_Court_leavesKeptWhole_33 : decode c_Court_leavesKeptWhole 33 = .ok (.ifCond .eq 18, 3) := by decide +kernel
theorem d_Court_leavesKeptWhole_36 : decode c_Court_leavesKeptWhole 36 = .ok (.iload_n 3, 1) := by decide +kernel
theorem d_Court_leavesKeptWhole_37 : decode c_Court_leavesKeptWhole 37 = .ok (.aload_n 0, 1) := by decide +kernel
theorem d_Court_leavesKeptWhole_38 : decode c_Court_leavesKeptWhole 38 = .ok (.getfield 9, 3) := by decide +kernel
theorem d_Court_leavesKeptWhole_41 : decode c_Court_leavesKeptWhole 41 = .ok (.getfield 97, 3) := by decide +kernel
theorem d_Court_leavesKeptWhole_44 : decode c_Court_leavesKeptWhole 44 = .ok (.iload_n 2, 1) := by decide +kernel
theorem d_Court_leavesKeptWhole_45 : decode c_Court_leavesKeptWhole 45 = .ok (.iaload, 1) := by decide +kernel
theorem d_Court_leavesKeptWhole_46 : decode c_Court_leavesKeptWhole 46 = .ok (.if_icmp .eq 5, 3) := by decide +kernel
theorem d_Court_leavesKeptWhole_49 : decode c_Court_leavesKeptWhole 49 = .ok (.iconst 0, 1) := by decide +kernel
theorem d_Court_leavesKeptWhole_50 : decode c_Court_leavesKeptWhole 50 = .ok (.ireturn, 1) := by decide +kernel
theorem d_Court_leavesKeptWhole_51 : decode c_Court_leavesKeptWhole 51 = .ok (.iinc 2 1, 3) := by decide +kernel
theorem d_Court_leavesKeptWhole_54 : decode c_Court_leavesKeptWhole 54 = .ok (.goto (-52), 3) := by decide +kernel
theorem d_Court_leavesKeptWhole_57 : decode c_Court_leavesKeptWhole 57 = .ok (.iconst 1, 1) := by decide +kernel
theorem d_Court_leavesKeptWhole_58 : decode c_Court_leavesKeptWhole 58 = .ok (.ireturn, 1) := by decide +kernel
theorem d_Court_badDistrict_0 : decode c_Court_badDistrict 0 = .ok (.iconst 0, 1) := by decide +kernel
theorem d_Court_badDistrict_1 : decode c_Court_badDistrict 1 = .ok (.istore_n 3, 1) := by decide +kernel
theorem d_Court_badDistrict_2 : decode c_Court_badDistrict 2 = .ok (.iload_n 3, 1) := by decide +kernel
theorem d_Court_badDistrict_3 : decode c_Court_badDistrict 3 = .ok (.aload_n 0, 1) := by decide +kernel
theorem d_Court_badDistrict_4 : decode c_Court_badDistrict 4 = .ok (.getfield 15, 3) := by decide +kernel
theorem d_Court_badDistrict_7 : decode c_Court_badDistrict 7 = .ok (.getfield 55, 3) := by decide +kernel
theorem d_Court_badDistrict_10 : decode c_Court_badDistrict 10 = .ok (.if_icmp .ge 25, 3) := by decide +kernel
theorem d_Court_badDistrict_13 : decode c_Court_badDistrict 13 = .ok (.aload_n 0, 1) := by decide +kernel
theorem d_Court_badDistrict_14 : decode c_Court_badDistrict 14 = .ok (.iload_n 1, 1) := by decide +kernel
theorem d_Court_badDistrict_15 : decode c_Court_badDistrict 15 = .ok (.aload_n 2, 1) := by decide +kernel
theorem d_Court_badDistrict_16 : decode c_Court_badDistrict 16 = .ok (.getfield 61, 3) := by decide +kernel
theorem d_Court_badDistrict_19 : decode c_Court_badDistrict 19 = .ok (.iload_n 3, 1) := by decide +kernel
theorem d_Court_badDistrict_20 : decode c_Court_badDistrict 20 = .ok (.iaload, 1) := by decide +kernel
theorem d_Court_badDistrict_21 : decode c_Court_badDistrict 21 = .ok (.invokevirtual 104, 3) := by decide +kernel
theorem d_Court_badDistrict_24 : decode c_Court_badDistrict 24 = .ok (.ifCond .eq 5, 3) := by decide +kernel
theorem d_Court_badDistrict_27 : decode c_Court_badDistrict 27 = .ok (.iload_n 3, 1) := by decide +kernel
theorem d_Court_badDistrict_28 : decode c_Court_badDistrict 28 = .ok (.ireturn, 1) := by decide +kernel
theorem d_Court_badDistrict_29 : decode c_Court_badDistrict 29 = .ok (.iinc 3 1, 3) := by decide +kernel
theorem d_Court_badDistrict_32 : decode c_Court_badDistrict 32 = .ok (.goto (-30), 3) := by decide +kernel
theorem d_Court_badDistrict_35 : decode c_Court_badDistrict 35 = .ok (.iconst (-1), 1) := by decide +kernel
theorem d_Court_badDistrict_36 : decode c_Court_badDistrict 36 = .ok (.ireturn, 1) := by decide +kernel
theorem d_Court_isBad_0 : decode c_Court_isBad 0 = .ok (.iload_n 1, 1) := by decide +kernel
theorem d_Court_isBad_1 : decode c_Court_isBad 1 = .ok (.lookupswitch 51 #[(1, 27), (2, 37)], 27) := by decide +kernel
theorem d_Court_isBad_28 : decode c_Court_isBad 28 = .ok (.iload_n 2, 1) := by decide +kernel
theorem d_Court_isBad_29 : decode c_Court_isBad 29 = .ok (.ifCond .ne 7, 3) := by decide +kernel
theorem d_Court_isBad_32 : decode c_Court_isBad 32 = .ok (.iconst 1, 1) := by decide +kernel
theorem d_Court_isBad_33 : decode c_Court_isBad 33 = .ok (.goto 4, 3) := by decide +kernel
theorem d_Court_isBad_36 : decode c_Court_isBad 36 = .ok (.iconst 0, 1) := by decide +kernel
theorem d_Court_isBad_37 : decode c_Court_isBad 37 = .ok (.ireturn, 1) := by decide +kernel
theorem d_Court_isBad_38 : decode c_Court_isBad 38 = .ok (.aload_n 0, 1) := by decide +kernel
theorem d_Court_isBad_39 : decode c_Court_isBad 39 = .ok (.iload_n 2, 1) := by decide +kernel
theorem d_Court_isBad_40 : decode c_Court_isBad 40 = .ok (.invokevirtual 83, 3) := by decide +kernel
theorem d_Court_isBad_43 : decode c_Court_isBad 43 = .ok (.ifCond .ne 7, 3) := by decide +kernel
theorem d_Court_isBad_46 : decode c_Court_isBad 46 = .ok (.iconst 1, 1) := by decide +kernel
theorem d_Court_isBad_47 : decode c_Court_isBad 47 = .ok (.goto 4, 3) := by decide +kernel
theorem d_Court_isBad_50 : decode c_Court_isBad 50 = .ok (.iconst 0, 1) := by decide +kernel
theorem d_Court_isBad_51 : decode c_Court_isBad 51 = .ok (.ireturn, 1) := by decide +kernel
theorem d_Court_isBad_52 : decode c_Court_isBad 52 = .ok (.aload_n 0, 1) := by decide +kernel
theorem d_Court_isBad_53 : decode c_Court_isBad 53 = .ok (.aload_n 0, 1) := by decide +kernel
theorem d_Court_isBad_54 : decode c_Court_isBad 54 = .ok (.getfield 9, 3) := by decide +kernel
theorem d_Court_isBad_57 : decode c_Court_isBad 57 = .ok (.getfield 70, 3) := by decide +kernel
theorem d_Court_isBad_60 : decode c_Court_isBad 60 = .ok (.iload_n 2, 1) := by decide +kernel
theorem d_Court_isBad_61 : decode c_Court_isBad 61 = .ok (.invokestatic 73, 3) := by decide +kernel
theorem d_Court_isBad_64 : decode c_Court_isBad 64 = .ok (.invokevirtual 77, 3) := by decide +kernel
theorem d_Court_isBad_67 : decode c_Court_isBad 67 = .ok (.ifCond .ne 7, 3) := by decide +kernel
theorem d_Court_isBad_70 : decode c_Court_isBad 70 = .ok (.iconst 1, 1) := by decide +kernel
theorem d_Court_isBad_71 : decode c_Court_isBad 71 = .ok (.goto 4, 3) := by decide +kernel
theorem d_Court_isBad_74 : decode c_Court_isBad 74 = .ok (.iconst 0, 1) := by decide +kernel
theorem d_Court_isBad_75 : decode c_Court_isBad 75 = .ok (.ireturn, 1) := by decide +kernel
theorem d_Court_cutKeptTown_0 : decode c_Court_cutKeptTown 0 = .ok (.iconst 0, 1) := by decide +kernel
theorem d_Court_cutKeptTown_1 : decode c_Court_cutKeptTown 1 = .ok (.istore_n 2, 1) := by decide +kernel
theorem d_Court_cutKeptTown_2 : decode c_Court_cutKeptTown 2 = .ok (.iload_n 2, 1) := by decide +kernel
theorem d_Court_cutKeptTown_3 : decode c_Court_cutKeptTown 3 = .ok (.bipush 10, 2) := by decide +kernel
theorem d_Court_cutKeptTown_5 : decode c_Court_cutKeptTown 5 = .ok (.if_icmp .ge 32, 3) := by decide +kernel
theorem d_Court_cutKeptTown_8 : decode c_Court_cutKeptTown 8 = .ok (.aload_n 0, 1) := by decide +kernel
theorem d_Court_cutKeptTown_9 : decode c_Court_cutKeptTown 9 = .ok (.getfield 15, 3) := by decide +kernel
theorem d_Court_cutKeptTown_12 : decode c_Court_cutKeptTown 12 = .ok (.getfield 100, 3) := by decide +kernel
theorem d_Court_cutKeptTown_15 : decode c_Court_cutKeptTown 15 = .ok (.iload_n 2, 1) := by decide +kernel
theorem d_Court_cutKeptTown_16 : decode c_Court_cutKeptTown 16 = .ok (.baload, 1) := by decide +kernel
theorem d_Court_cutKeptTown_17 : decode c_Court_cutKeptTown 17 = .ok (.ifCond .eq 14, 3) := by decide +kernel
theorem d_Court_cutKeptTown_20 : decode c_Court_cutKeptTown 20 = .ok (.aload_n 0, 1) := by decide +kernel
theorem d_Court_cutKeptTown_21 : decode c_Court_cutKeptTown 21 = .ok (.iload_n 2, 1) := by decide +kernel
theorem d_Court_cutKeptTown_22 : decode c_Court_cutKeptTown 22 = .ok (.aload_n 1, 1) := by decide +kernel
theorem d_Court_cutKeptTown_23 : decode c_Court_cutKeptTown 23 = .ok (.invokevirtual 108, 3) := by decide +kernel
theorem d_Court_cutKeptTown_26 : decode c_Court_cutKeptTown 26 = .ok (.ifCond .eq 5, 3) := by decide +kernel
theorem d_Court_cutKeptTown_29 : decode c_Court_cutKeptTown 29 = .ok (.iload_n 2, 1) := by decide +kernel
theorem d_Court_cutKeptTown_30 : decode c_Court_cutKeptTown 30 = .ok (.ireturn, 1) := by decide +kernel
theorem d_Court_cutKeptTown_31 : decode c_Court_cutKeptTown 31 = .ok (.iinc 2 1, 3) := by decide +kernel
theorem d_Court_cutKeptTown_34 : decode c_Court_cutKeptTown 34 = .ok (.goto (-32), 3) := by decide +kernel
theorem d_Court_cutKeptTown_37 : decode c_Court_cutKeptTown 37 = .ok (.iconst (-1), 1) := by decide +kernel
theorem d_Court_cutKeptTown_38 : decode c_Court_cutKeptTown 38 = .ok (.ireturn, 1) := by decide +kernel
theorem d_Court_strayPlace_0 : decode c_Court_strayPlace 0 = .ok (.iconst 0, 1) := by decide +kernel
theorem d_Court_strayPlace_1 : decode c_Court_strayPlace 1 = .ok (.istore_n 2, 1) := by decide +kernel
theorem d_Court_strayPlace_2 : decode c_Court_strayPlace 2 = .ok (.iload_n 2, 1) := by decide +kernel
theorem d_Court_strayPlace_3 : decode c_Court_strayPlace 3 = .ok (.aload_n 0, 1) := by decide +kernel
theorem d_Court_strayPlace_4 : decode c_Court_strayPlace 4 = .ok (.getfield 9, 3) := by decide +kernel
theorem d_Court_strayPlace_7 : decode c_Court_strayPlace 7 = .ok (.getfield 112, 3) := by decide +kernel
theorem d_Court_strayPlace_10 : decode c_Court_strayPlace 10 = .ok (.if_icmp .ge 42, 3) := by decide +kernel
theorem d_Court_strayPlace_13 : decode c_Court_strayPlace 13 = .ok (.aload_n 0, 1) := by decide +kernel
theorem d_Court_strayPlace_14 : decode c_Court_strayPlace 14 = .ok (.getfield 15, 3) := by decide +kernel
theorem d_Court_strayPlace_17 : decode c_Court_strayPlace 17 = .ok (.getfield 115, 3) := by decide +kernel
theorem d_Court_strayPlace_20 : decode c_Court_strayPlace 20 = .ok (.iload_n 2, 1) := by decide +kernel
theorem d_Court_strayPlace_21 : decode c_Court_strayPlace 21 = .ok (.iaload, 1) := by decide +kernel
theorem d_Court_strayPlace_22 : decode c_Court_strayPlace 22 = .ok (.iconst (-1), 1) := by decide +kernel
theorem d_Court_strayPlace_23 : decode c_Court_strayPlace 23 = .ok (.if_icmp .eq 23, 3) := by decide +kernel
theorem d_Court_strayPlace_26 : decode c_Court_strayPlace 26 = .ok (.aload_n 0, 1) := by decide +kernel
theorem d_Court_strayPlace_27 : decode c_Court_strayPlace 27 = .ok (.getfield 15, 3) := by decide +kernel
theorem d_Court_strayPlace_30 : decode c_Court_strayPlace 30 = .ok (.getfield 115, 3) := by decide +kernel
theorem d_Court_strayPlace_33 : decode c_Court_strayPlace 33 = .ok (.iload_n 2, 1) := by decide +kernel
theorem d_Court_strayPlace_34 : decode c_Court_strayPlace 34 = .ok (.iaload, 1) := by decide +kernel
theorem d_Court_strayPlace_35 : decode c_Court_strayPlace 35 = .ok (.aload_n 1, 1) := by decide +kernel
theorem d_Court_strayPlace_36 : decode c_Court_strayPlace 36 = .ok (.getfield 118, 3) := by decide +kernel
theorem d_Court_strayPlace_39 : decode c_Court_strayPlace 39 = .ok (.iload_n 2, 1) := by decide +kernel
theorem d_Court_strayPlace_40 : decode c_Court_strayPlace 40 = .ok (.iaload, 1) := by decide +kernel
theorem d_Court_strayPlace_41 : decode c_Court_strayPlace 41 = .ok (.if_icmp .eq 5, 3) := by decide +kernel
theorem d_Court_strayPlace_44 : decode c_Court_strayPlace 44 = .ok (.iload_n 2, 1) := by decide +kernel
theorem d_Court_strayPlace_45 : decode c_Court_strayPlace 45 = .ok (.ireturn, 1) := by decide +kernel
theorem d_Court_strayPlace_46 : decode c_Court_strayPlace 46 = .ok (.iinc 2 1, 3) := by decide +kernel
theorem d_Court_strayPlace_49 : decode c_Court_strayPlace 49 = .ok (.goto (-47), 3) := by decide +kernel
theorem d_Court_strayPlace_52 : decode c_Court_strayPlace 52 = .ok (.iconst (-1), 1) := by decide +kernel
theorem d_Court_strayPlace_53 : decode c_Court_strayPlace 53 = .ok (.ireturn, 1) := by decide +kernel
theorem d_Court_townTooMany_0 : decode c_Court_townTooMany 0 = .ok (.iconst 0, 1) := by decide +kernel
theorem d_Court_townTooMany_1 : decode c_Court_townTooMany 1 = .ok (.istore_n 2, 1) := by decide +kernel
theorem d_Court_townTooMany_2 : decode c_Court_townTooMany 2 = .ok (.iconst 0, 1) := by decide +kernel
theorem d_Court_townTooMany_3 : decode c_Court_townTooMany 3 = .ok (.istore_n 3, 1) := by decide +kernel
theorem d_Court_townTooMany_4 : decode c_Court_townTooMany 4 = .ok (.iload_n 3, 1) := by decide +kernel
theorem d_Court_townTooMany_5 : decode c_Court_townTooMany 5 = .ok (.bipush 10, 2) := by decide +kernel
theorem d_Court_townTooMany_7 : decode c_Court_townTooMany 7 = .ok (.if_icmp .ge 34, 3) := by decide +kernel
theorem d_Court_townTooMany_10 : decode c_Court_townTooMany 10 = .ok (.aload_n 0, 1) := by decide +kernel
theorem d_Court_townTooMany_11 : decode c_Court_townTooMany 11 = .ok (.iload_n 3, 1) := by decide +kernel
theorem d_Court_townTooMany_12 : decode c_Court_townTooMany 12 = .ok (.aload_n 1, 1) := by decide +kernel
theorem d_Court_townTooMany_13 : decode c_Court_townTooMany 13 = .ok (.invokevirtual 108, 3) := by decide +kernel
theorem d_Court_townTooMany_16 : decode c_Court_townTooMany 16 = .ok (.ifCond .eq 19, 3) := by decide +kernel
theorem d_Court_townTooMany_19 : decode c_Court_townTooMany 19 = .ok (.iinc 2 1, 3) := by decide +kernel
theorem d_Court_townTooMany_22 : decode c_Court_townTooMany 22 = .ok (.iload_n 2, 1) := by decide +kernel
theorem d_Court_townTooMany_23 : decode c_Court_townTooMany 23 = .ok (.aload_n 0, 1) := by decide +kernel
theorem d_Court_townTooMany_24 : decode c_Court_townTooMany 24 = .ok (.getfield 15, 3) := by decide +kernel
theorem d_Court_townTooMany_27 : decode c_Court_townTooMany 27 = .ok (.getfield 121, 3) := by decide +kernel
theorem d_Court_townTooMany_30 : decode c_Court_townTooMany 30 = .ok (.if_icmp .le 5, 3) := by decide +kernel
theorem d_Court_townTooMany_33 : decode c_Court_townTooMany 33 = .ok (.iload_n 3, 1) := by decide +kernel
theorem d_Court_townTooMany_34 : decode c_Court_townTooMany 34 = .ok (.ireturn, 1) := by decide +kernel
theorem d_Court_townTooMany_35 : decode c_Court_townTooMany 35 = .ok (.iinc 3 1, 3) := by decide +kernel
theorem d_Court_townTooMany_38 : decode c_Court_townTooMany 38 = .ok (.goto (-34), 3) := by decide +kernel
theorem d_Court_townTooMany_41 : decode c_Court_townTooMany 41 = .ok (.iconst (-1), 1) := by decide +kernel
theorem d_Court_townTooMany_42 : decode c_Court_townTooMany 42 = .ok (.ireturn, 1) := by decide +kernel
theorem d_Court_isCut_0 : decode c_Court_isCut 0 = .ok (.aload_n 0, 1) := by decide +kernel
theorem d_Court_isCut_1 : decode c_Court_isCut 1 = .ok (.getfield 9, 3) := by decide +kernel
theorem d_Court_isCut_4 : decode c_Court_isCut 4 = .ok (.getfield 97, 3) := by decide +kernel
theorem d_Court_isCut_7 : decode c_Court_isCut 7 = .ok (.iload_n 1, 1) := by decide +kernel
theorem d_Court_isCut_8 : decode c_Court_isCut 8 = .ok (.iaload, 1) := by decide +kernel
theorem d_Court_isCut_9 : decode c_Court_isCut 9 = .ok (.istore_n 3, 1) := by decide +kernel
theorem d_Court_isCut_10 : decode c_Court_isCut 10 = .ok (.iload_n 3, 1) := by decide +kernel
theorem d_Court_isCut_11 : decode c_Court_isCut 11 = .ok (.ifCond .eq 28, 3) := by decide +kernel
theorem d_Court_isCut_14 : decode c_Court_isCut 14 = .ok (.iload_n 3, 1) := by decide +kernel
theorem d_Court_isCut_15 : decode c_Court_isCut 15 = .ok (.aload_n 2, 1) := by decide +kernel
theorem d_Court_isCut_16 : decode c_Court_isCut 16 = .ok (.getfield 61, 3) := by decide +kernel
theorem d_Court_isCut_19 : decode c_Court_isCut 19 = .ok (.aload_n 2, 1) := by decide +kernel
theorem d_Court_isCut_20 : decode c_Court_isCut 20 = .ok (.getfield 118, 3) := by decide +kernel
theorem d_Court_isCut_23 : decode c_Court_isCut 23 = .ok (.iload_n 3, 1) := by decide +kernel
theorem d_Court_isCut_24 : decode c_Court_isCut 24 = .ok (.invokestatic 124, 3) := by decide +kernel
theorem d_Court_isCut_27 : decode c_Court_isCut 27 = .ok (.iaload, 1) := by decide +kernel
theorem d_Court_isCut_28 : decode c_Court_isCut 28 = .ok (.iaload, 1) := by decide +kernel
theorem d_Court_isCut_29 : decode c_Court_isCut 29 = .ok (.iconst (-1), 1) := by decide +kernel
theorem d_Court_isCut_30 : decode c_Court_isCut 30 = .ok (.ixor, 1) := by decide +kernel
theorem d_Court_isCut_31 : decode c_Court_isCut 31 = .ok (.iand, 1) := by decide +kernel
theorem d_Court_isCut_32 : decode c_Court_isCut 32 = .ok (.ifCond .eq 7, 3) := by decide +kernel
theorem d_Court_isCut_35 : decode c_Court_isCut 35 = .ok (.iconst 1, 1) := by decide +kernel
theorem d_Court_isCut_36 : decode c_Court_isCut 36 = .ok (.goto 4, 3) := by decide +kernel
theorem d_Court_isCut_39 : decode c_Court_isCut 39 = .ok (.iconst 0, 1) := by decide +kernel
theorem d_Court_isCut_40 : decode c_Court_isCut 40 = .ok (.ireturn, 1) := by decide +kernel
theorem d_Improver_init_0 : decode c_Improver_init 0 = .ok (.aload_n 0, 1) := by decide +kernel
theorem d_Improver_init_1 : decode c_Improver_init 1 = .ok (.invokespecial 3, 3) := by decide +kernel
theorem d_Improver_init_4 : decode c_Improver_init 4 = .ok (.aload_n 0, 1) := by decide +kernel
theorem d_Improver_init_5 : decode c_Improver_init 5 = .ok (.aload_n 1, 1) := by decide +kernel
theorem d_Improver_init_6 : decode c_Improver_init 6 = .ok (.putfield 9, 3) := by decide +kernel
theorem d_Improver_init_9 : decode c_Improver_init 9 = .ok (.aload_n 0, 1) := by decide +kernel
theorem d_Improver_init_10 : decode c_Improver_init 10 = .ok (.aload_n 2, 1) := by decide +kernel
theorem d_Improver_init_11 : decode c_Improver_init 11 = .ok (.putfield 15, 3) := by decide +kernel
theorem d_Improver_init_14 : decode c_Improver_init 14 = .ok (.aload_n 0, 1) := by decide +kernel
theorem d_Improver_init_15 : decode c_Improver_init 15 = .ok (.aload_n 3, 1) := by decide +kernel
theorem d_Improver_init_16 : decode c_Improver_init 16 = .ok (.putfield 19, 3) := by decide +kernel
theorem d_Improver_init_19 : decode c_Improver_init 19 = .ok (.return_, 1) := by decide +kernel
theorem d_Improver_improve_0 : decode c_Improver_improve 0 = .ok (.iconst 0, 1) := by decide +kernel
theorem d_Improver_improve_1 : decode c_Improver_improve 1 = .ok (.istore_n 2, 1) := by decide +kernel
theorem d_Improver_improve_2 : decode c_Improver_improve 2 = .ok (.iload_n 2, 1) := by decide +kernel
theorem d_Improver_improve_3 : decode c_Improver_improve 3 = .ok (.sipush 10000, 3) := by decide +kernel
theorem d_Improver_improve_6 : decode c_Improver_improve 6 = .ok (.if_icmp .ge 17, 3) := by decide +kernel
theorem d_Improver_improve_9 : decode c_Improver_improve 9 = .ok (.aload_n 0, 1) := by decide +kernel
theorem d_Improver_improve_10 : decode c_Improver_improve 10 = .ok (.aload_n 1, 1) := by decide +kernel
theorem d_Improver_improve_11 : decode c_Improver_improve 11 = .ok (.invokevirtual 23, 3) := by decide +kernel
theorem d_Improver_improve_14 : decode c_Improver_improve 14 = .ok (.ifCond .eq 9, 3) := by decide +kernel
theorem d_Improver_improve_17 : decode c_Improver_improve 17 = .ok (.iinc 2 1, 3) := by decide +kernel
theorem d_Improver_improve_20 : decode c_Improver_improve 20 = .ok (.goto (-18), 3) := by decide +kernel
theorem d_Improver_improve_23 : decode c_Improver_improve 23 = .ok (.iload_n 2, 1) := by decide +kernel
theorem d_Improver_improve_24 : decode c_Improver_improve 24 = .ok (.ireturn, 1) := by decide +kernel
theorem d_Improver_moveOne_0 : decode c_Improver_moveOne 0 = .ok (.iconst 0, 1) := by decide +kernel
theorem d_Improver_moveOne_1 : decode c_Improver_moveOne 1 = .ok (.istore_n 2, 1) := by decide +kernel
theorem d_Improver_moveOne_2 : decode c_Improver_moveOne 2 = .ok (.iload_n 2, 1) := by decide +kernel
theorem d_Improver_moveOne_3 : decode c_Improver_moveOne 3 = .ok (.aload_n 0, 1) := by decide +kernel
theorem d_Improver_moveOne_4 : decode c_Improver_moveOne 4 = .ok (.getfield 9, 3) := by decide +kernel
theorem d_Improver_moveOne_7 : decode c_Improver_moveOne 7 = .ok (.getfield 27, 3) := by decide +kernel
theorem d_Improver_moveOne_10 : decode c_Improver_moveOne 10 = .ok (.if_icmp .ge 74, 3) := by decide +kernel
theorem d_Improver_moveOne_13 : decode c_Improver_moveOne 13 = .ok (.aload_n 1, 1) := by decide +kernel
theorem d_Improver_moveOne_14 : decode c_Improver_moveOne 14 = .ok (.getfield 33, 3) := by decide +kernel
theorem d_Improver_moveOne_17 : decode c_Improver_moveOne 17 = .ok (.iload_n 2, 1) := by decide +kernel
theorem d_Improver_moveOne_18 : decode c_Improver_moveOne 18 = .ok (.iaload, 1) := by decide +kernel
theorem d_Improver_moveOne_19 : decode c_Improver_moveOne 19 = .ok (.istore_n 3, 1) := by decide +kernel
theorem d_Improver_moveOne_20 : decode c_Improver_moveOne 20 = .ok (.iconst 0, 1) := by decide +kernel
theorem d_Improver_moveOne_21 : decode c_Improver_moveOne 21 = .ok (.istore 4, 2) := by decide +kernel
theorem d_Improver_moveOne_23 : decode c_Improver_moveOne 23 = .ok (.iload 4, 2) := by decide +kernel
theorem d_Improver_moveOne_25 : decode c_Improver_moveOne 25 = .ok (.aload_n 0, 1) := by decide +kernel
theorem d_Improver_moveOne_26 : decode c_Improver_moveOne 26 = .ok (.getfield 15, 3) := by decide +kernel
theorem d_Improver_moveOne_29 : decode c_Improver_moveOne 29 = .ok (.getfield 39, 3) := by decide +kernel
theorem d_Improver_moveOne_32 : decode c_Improver_moveOne 32 = .ok (.if_icmp .ge 46, 3) := by decide +kernel
theorem d_Improver_moveOne_35 : decode c_Improver_moveOne 35 = .ok (.aload_n 0, 1) := by decide +kernel
theorem d_Improver_moveOne_36 : decode c_Improver_moveOne 36 = .ok (.aload_n 1, 1) := by decide +kernel
theorem d_Improver_moveOne_37 : decode c_Improver_moveOne 37 = .ok (.iload_n 2, 1) := by decide +kernel
theorem d_Improver_moveOne_38 : decode c_Improver_moveOne 38 = .ok (.iload 4, 2) := by decide +kernel
theorem d_Improver_moveOne_40 : decode c_Improver_moveOne 40 = .ok (.invokevirtual 44, 3) := by decide +kernel
theorem d_Improver_moveOne_43 : decode c_Improver_moveOne 43 = .ok (.ifCond .eq 29, 3) := by decide +kernel
theorem d_Improver_moveOne_46 : decode c_Improver_moveOne 46 = .ok (.aload_n 1, 1) := by decide +kernel
theorem d_Improver_moveOne_47 : decode c_Improver_moveOne 47 = .ok (.iload_n 2, 1) := by decide +kernel
theorem d_Improver_moveOne_48 : decode c_Improver_moveOne 48 = .ok (.iload 4, 2) := by decide +kernel
theorem d_Improver_moveOne_50 : decode c_Improver_moveOne 50 = .ok (.invokevirtual 48, 3) := by decide +kernel
theorem d_Improver_moveOne_53 : decode c_Improver_moveOne 53 = .ok (.aload_n 0, 1) := by decide +kernel
theorem d_Improver_moveOne_54 : decode c_Improver_moveOne 54 = .ok (.getfield 19, 3) := by decide +kernel
theorem d_Improver_moveOne_57 : decode c_Improver_moveOne 57 = .ok (.aload_n 1, 1) := by decide +kernel
theorem d_Improver_moveOne_58 : decode c_Improver_moveOne 58 = .ok (.invokevirtual 52, 3) := by decide +kernel
theorem d_Improver_moveOne_61 : decode c_Improver_moveOne 61 = .ok (.ifCond .eq 5, 3) := by decide +kernel
theorem d_Improver_moveOne_64 : decode c_Improver_moveOne 64 = .ok (.iconst 1, 1) := by decide +kernel
theorem d_Improver_moveOne_65 : decode c_Improver_moveOne 65 = .ok (.ireturn, 1) := by decide +kernel
theorem d_Improver_moveOne_66 : decode c_Improver_moveOne 66 = .ok (.aload_n 1, 1) := by decide +kernel
theorem d_Improver_moveOne_67 : decode c_Improver_moveOne 67 = .ok (.iload_n 2, 1) := by decide +kernel
theorem d_Improver_moveOne_68 : decode c_Improver_moveOne 68 = .ok (.iload_n 3, 1) := by decide +kernel
theorem d_Improver_moveOne_69 : decode c_Improver_moveOne 69 = .ok (.invokevirtual 48, 3) := by decide +kernel
theorem d_Improver_moveOne_72 : decode c_Improver_moveOne 72 = .ok (.iinc 4 1, 3) := by decide +kernel
theorem d_Improver_moveOne_75 : decode c_Improver_moveOne 75 = .ok (.goto (-52), 3) := by decide +kernel
theorem d_Improver_moveOne_78 : decode c_Improver_moveOne 78 = .ok (.iinc 2 1, 3) := by decide +kernel
theorem d_Improver_moveOne_81 : decode c_Improver_moveOne 81 = .ok (.goto (-79), 3) := by decide +kernel
theorem d_Improver_moveOne_84 : decode c_Improver_moveOne 84 = .ok (.iconst 0, 1) := by decide +kernel
theorem d_Improver_moveOne_85 : decode c_Improver_moveOne 85 = .ok (.ireturn, 1) := by decide +kernel
theorem d_Improver_isShorter_0 : decode c_Improver_isShorter 0 = .ok (.aload_n 1, 1) := by decide +kernel
theorem d_Improver_isShorter_1 : decode c_Improver_isShorter 1 = .ok (.getfield 33, 3) := by decide +kernel
theorem d_Improver_isShorter_4 : decode c_Improver_isShorter 4 = .ok (.iload_n 2, 1) := by decide +kernel
theorem d_Improver_isShorter_5 : decode c_Improver_isShorter 5 = .ok (.iaload, 1) := by decide +kernel
theorem d_Improver_isShorter_6 : decode c_Improver_isShorter 6 = .ok (.istore 4, 2) := by decide +kernel
theorem d_Improver_isShorter_8 : decode c_Improver_isShorter 8 = .ok (.iload_n 3, 1) := by decide +kernel
theorem d_Improver_isShorter_9 : decode c_Improver_isShorter 9 = .ok (.iload 4, 2) := by decide +kernel
theorem d_Improver_isShorter_11 : decode c_Improver_isShorter 11 = .ok (.if_icmp .eq 39, 3) := by decide +kernel
theorem d_Improver_isShorter_14 : decode c_Improver_isShorter 14 = .ok (.aload_n 0, 1) := by decide +kernel
theorem d_Improver_isShorter_15 : decode c_Improver_isShorter 15 = .ok (.getfield 9, 3) := by decide +kernel
theorem d_Improver_isShorter_18 : decode c_Improver_isShorter 18 = .ok (.iload_n 2, 1) := by decide +kernel
theorem d_Improver_isShorter_19 : decode c_Improver_isShorter 19 = .ok (.aload_n 1, 1) := by decide +kernel
theorem d_Improver_isShorter_20 : decode c_Improver_isShorter 20 = .ok (.getfield 57, 3) := by decide +kernel
theorem d_Improver_isShorter_23 : decode c_Improver_isShorter 23 = .ok (.iload_n 3, 1) := by decide +kernel
theorem d_Improver_isShorter_24 : decode c_Improver_isShorter 24 = .ok (.iaload, 1) := by decide +kernel
theorem d_Improver_isShorter_25 : decode c_Improver_isShorter 25 = .ok (.invokevirtual 60, 3) := by decide +kernel
theorem d_Improver_isShorter_28 : decode c_Improver_isShorter 28 = .ok (.aload_n 0, 1) := by decide +kernel
theorem d_Improver_isShorter_29 : decode c_Improver_isShorter 29 = .ok (.getfield 9, 3) := by decide +kernel
theorem d_Improver_isShorter_32 : decode c_Improver_isShorter 32 = .ok (.iload_n 2, 1) := by decide +kernel
theorem d_Improver_isShorter_33 : decode c_Improver_isShorter 33 = .ok (.aload_n 1, 1) := by decide +kernel
theorem d_Improver_isShorter_34 : decode c_Improver_isShorter 34 = .ok (.getfield 57, 3) := by decide +kernel
theorem d_Improver_isShorter_37 : decode c_Improver_isShorter 37 = .ok (.iload 4, 2) := by decide +kernel
theorem d_Improver_isShorter_39 : decode c_Improver_isShorter 39 = .ok (.iaload, 1) := by decide +kernel
theorem d_Improver_isShorter_40 : decode c_Improver_isShorter 40 = .ok (.invokevirtual 60, 3) := by decide +kernel
theorem d_Improver_isShorter_43 : decode c_Improver_isShorter 43 = .ok (.if_icmp .le 7, 3) := by decide +kernel
theorem d_Improver_isShorter_46 : decode c_Improver_isShorter 46 = .ok (.iconst 1, 1) := by decide +kernel
theorem d_Improver_isShorter_47 : decode c_Improver_isShorter 47 = .ok (.goto 4, 3) := by decide +kernel
theorem d_Improver_isShorter_50 : decode c_Improver_isShorter 50 = .ok (.iconst 0, 1) := by decide +kernel
theorem d_Improver_isShorter_51 : decode c_Improver_isShorter 51 = .ok (.ireturn, 1) := by decide +kernel
theorem d_Land_init_0 : decode c_Land_init 0 = .ok (.aload_n 0, 1) := by decide +kernel
theorem d_Land_init_1 : decode c_Land_init 1 = .ok (.invokespecial 3, 3) := by decide +kernel
theorem d_Land_init_4 : decode c_Land_init 4 = .ok (.aload_n 0, 1) := by decide +kernel
theorem d_Land_init_5 : decode c_Land_init 5 = .ok (.bipush 30, 2) := by decide +kernel
theorem d_Land_init_7 : decode c_Land_init 7 = .ok (.newarray .int, 2) := by decide +kernel
theorem d_Land_init_9 : decode c_Land_init 9 = .ok (.putfield 9, 3) := by decide +kernel
theorem d_Land_init_12 : decode c_Land_init 12 = .ok (.aload_n 0, 1) := by decide +kernel
theorem d_Land_init_13 : decode c_Land_init 13 = .ok (.bipush 30, 2) := by decide +kernel
theorem d_Land_init_15 : decode c_Land_init 15 = .ok (.newarray .int, 2) := by decide +kernel
theorem d_Land_init_17 : decode c_Land_init 17 = .ok (.putfield 15, 3) := by decide +kernel
theorem d_Land_init_20 : decode c_Land_init 20 = .ok (.aload_n 0, 1) := by decide +kernel
theorem d_Land_init_21 : decode c_Land_init 21 = .ok (.bipush 30, 2) := by decide +kernel
theorem d_Land_init_23 : decode c_Land_init 23 = .ok (.newarray .int, 2) := by decide +kernel
theorem d_Land_init_25 : decode c_Land_init 25 = .ok (.putfield 18, 3) := by decide +kernel
theorem d_Land_init_28 : decode c_Land_init 28 = .ok (.aload_n 0, 1) := by decide +kernel
theorem d_Land_init_29 : decode c_Land_init 29 = .ok (.bipush 30, 2) := by decide +kernel
theorem d_Land_init_31 : decode c_Land_init 31 = .ok (.newarray .int, 2) := by decide +kernel
theorem d_Land_init_33 : decode c_Land_init 33 = .ok (.putfield 21, 3) := by decide +kernel
theorem d_Land_init_36 : decode c_Land_init 36 = .ok (.aload_n 0, 1) := by decide +kernel
theorem d_Land_init_37 : decode c_Land_init 37 = .ok (.bipush 30, 2) := by decide +kernel
theorem d_Land_init_39 : decode c_Land_init 39 = .ok (.newarray .int, 2) := by decide +kernel
theorem d_Land_init_41 : decode c_Land_init 41 = .ok (.putfield 24, 3) := by decide +kernel
theorem d_Land_init_44 : decode c_Land_init 44 = .ok (.aload_n 0, 1) := by decide +kernel
theorem d_Land_init_45 : decode c_Land_init 45 = .ok (.bipush 10, 2) := by decide +kernel
theorem d_Land_init_47 : decode c_Land_init 47 = .ok (.newarray .int, 2) := by decide +kernel
theorem d_Land_init_49 : decode c_Land_init 49 = .ok (.putfield 27, 3) := by decide +kernel
theorem d_Land_init_52 : decode c_Land_init 52 = .ok (.aload_n 0, 1) := by decide +kernel
theorem d_Land_init_53 : decode c_Land_init 53 = .ok (.bipush 100, 2) := by decide +kernel
theorem d_Land_init_55 : decode c_Land_init 55 = .ok (.newarray .int, 2) := by decide +kernel
theorem d_Land_init_57 : decode c_Land_init 57 = .ok (.putfield 30, 3) := by decide +kernel
theorem d_Land_init_60 : decode c_Land_init 60 = .ok (.aload_n 0, 1) := by decide +kernel
theorem d_Land_init_61 : decode c_Land_init 61 = .ok (.bipush 100, 2) := by decide +kernel
theorem d_Land_init_63 : decode c_Land_init 63 = .ok (.newarray .int, 2) := by decide +kernel
theorem d_Land_init_65 : decode c_Land_init 65 = .ok (.putfield 33, 3) := by decide +kernel
theorem d_Land_init_68 : decode c_Land_init 68 = .ok (.aload_n 0, 1) := by decide +kernel
theorem d_Land_init_69 : decode c_Land_init 69 = .ok (.bipush 100, 2) := by decide +kernel
theorem d_Land_init_71 : decode c_Land_init 71 = .ok (.newarray .int, 2) := by decide +kernel
theorem d_Land_init_73 : decode c_Land_init 73 = .ok (.putfield 36, 3) := by decide +kernel
theorem d_Land_init_76 : decode c_Land_init 76 = .ok (.return_, 1) := by decide +kernel
theorem d_Land_hasPlace_0 : decode c_Land_hasPlace 0 = .ok (.iload_n 1, 1) := by decide +kernel
theorem d_Land_hasPlace_1 : decode c_Land_hasPlace 1 = .ok (.iconst 0, 1) := by decide +kernel
theorem d_Land_hasPlace_2 : decode c_Land_hasPlace 2 = .ok (.aload_n 0, 1) := by decide +kernel
theorem d_Land_hasPlace_3 : decode c_Land_hasPlace 3 = .ok (.getfield 39, 3) := by decide +kernel
theorem d_Land_hasPlace_6 : decode c_Land_hasPlace 6 = .ok (.iconst 1, 1) := by decide +kernel
theorem d_Land_hasPlace_7 : decode c_Land_hasPlace 7 = .ok (.isub, 1) := by decide +kernel
theorem d_Land_hasPlace_8 : decode c_Land_hasPlace 8 = .ok (.invokestatic 43, 3) := by decide +kernel
theorem d_Land_hasPlace_11 : decode c_Land_hasPlace 11 = .ok (.ireturn, 1) := by decide +kernel
theorem d_Land_addPlace_0 : decode c_Land_addPlace 0 = .ok (.aload_n 0, 1) := by decide +kernel
theorem d_Land_addPlace_1 : decode c_Land_addPlace 1 = .ok (.getfield 39, 3) := by decide +kernel
theorem d_Land_addPlace_4 : decode c_Land_addPlace 4 = .ok (.istore 6, 2) := by decide +kernel
theorem d_Land_addPlace_6 : decode c_Land_addPlace 6 = .ok (.aload_n 0, 1) := by decide +kernel
theorem d_Land_addPlace_7 : decode c_Land_addPlace 7 = .ok (.dup, 1) := by decide +kernel
theorem d_Land_addPlace_8 : decode c_Land_addPlace 8 = .ok (.getfield 39, 3) := by decide +kernel
theorem d_Land_addPlace_11 : decode c_Land_addPlace 11 = .ok (.iconst 1, 1) := by decide +kernel
theorem d_Land_addPlace_12 : decode c_Land_addPlace 12 = .ok (.iadd, 1) := by decide +kernel
theorem d_Land_addPlace_13 : decode c_Land_addPlace 13 = .ok (.putfield 39, 3) := by decide +kernel
theorem d_Land_addPlace_16 : decode c_Land_addPlace 16 = .ok (.aload_n 0, 1) := by decide +kernel
theorem d_Land_addPlace_17 : decode c_Land_addPlace 17 = .ok (.getfield 9, 3) := by decide +kernel
theorem d_Land_addPlace_20 : decode c_Land_addPlace 20 = .ok (.iload 6, 2) := by decide +kernel
theorem d_Land_addPlace_22 : decode c_Land_addPlace 22 = .ok (.iload_n 1, 1) := by decide +kernel
