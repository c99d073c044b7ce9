theorem d_Walker_drawCrossing_53 : decode c_Walker_drawCrossing 53 = .ok (.iinc 2 1, 3) := by decide +kernel
theorem d_Walker_drawCrossing_56 : decode c_Walker_drawCrossing 56 = .ok (.iinc 3 1, 3) := by decide +kernel
theorem d_Walker_drawCrossing_59 : decode c_Walker_drawCrossing 59 = .ok (.goto (-55), 3) := by decide +kernel
theorem d_Walker_drawCrossing_62 : decode c_Walker_drawCrossing 62 = .ok (.iload_n 2, 1) := by decide +kernel
theorem d_Walker_drawCrossing_63 : decode c_Walker_drawCrossing 63 = .ok (.ifCond .ne 7, 3) := by decide +kernel
theorem d_Walker_drawCrossing_66 : decode c_Walker_drawCrossing 66 = .ok (.iconst (-1), 1) := by decide +kernel
theorem d_Walker_drawCrossing_67 : decode c_Walker_drawCrossing 67 = .ok (.goto 14, 3) := by decide +kernel
theorem d_Walker_drawCrossing_70 : decode c_Walker_drawCrossing 70 = .ok (.aload_n 0, 1) := by decide +kernel
theorem d_Walker_drawCrossing_71 : decode c_Walker_drawCrossing 71 = .ok (.getfield 40, 3) := by decide +kernel
theorem d_Walker_drawCrossing_74 : decode c_Walker_drawCrossing 74 = .ok (.aload_n 0, 1) := by decide +kernel
theorem d_Walker_drawCrossing_75 : decode c_Walker_drawCrossing 75 = .ok (.invokevirtual 122, 3) := by decide +kernel
theorem d_Walker_drawCrossing_78 : decode c_Walker_drawCrossing 78 = .ok (.iload_n 2, 1) := by decide +kernel
theorem d_Walker_drawCrossing_79 : decode c_Walker_drawCrossing 79 = .ok (.irem, 1) := by decide +kernel
theorem d_Walker_drawCrossing_80 : decode c_Walker_drawCrossing 80 = .ok (.iaload, 1) := by decide +kernel
theorem d_Walker_drawCrossing_81 : decode c_Walker_drawCrossing 81 = .ok (.ireturn, 1) := by decide +kernel
theorem d_Walker_drawOrder_0 : decode c_Walker_drawOrder 0 = .ok (.iconst 0, 1) := by decide +kernel
theorem d_Walker_drawOrder_1 : decode c_Walker_drawOrder 1 = .ok (.istore_n 2, 1) := by decide +kernel
theorem d_Walker_drawOrder_2 : decode c_Walker_drawOrder 2 = .ok (.iconst 0, 1) := by decide +kernel
theorem d_Walker_drawOrder_3 : decode c_Walker_drawOrder 3 = .ok (.istore_n 3, 1) := by decide +kernel
theorem d_Walker_drawOrder_4 : decode c_Walker_drawOrder 4 = .ok (.iload_n 3, 1) := by decide +kernel
theorem d_Walker_drawOrder_5 : decode c_Walker_drawOrder 5 = .ok (.aload_n 0, 1) := by decide +kernel
theorem d_Walker_drawOrder_6 : decode c_Walker_drawOrder 6 = .ok (.getfield 9, 3) := by decide +kernel
theorem d_Walker_drawOrder_9 : decode c_Walker_drawOrder 9 = .ok (.getfield 143, 3) := by decide +kernel
theorem d_Walker_drawOrder_12 : decode c_Walker_drawOrder 12 = .ok (.if_icmp .ge 38, 3) := by decide +kernel
theorem d_Walker_drawOrder_15 : decode c_Walker_drawOrder 15 = .ok (.aload_n 0, 1) := by decide +kernel
theorem d_Walker_drawOrder_16 : decode c_Walker_drawOrder 16 = .ok (.getfield 9, 3) := by decide +kernel
theorem d_Walker_drawOrder_19 : decode c_Walker_drawOrder 19 = .ok (.iload_n 3, 1) := by decide +kernel
theorem d_Walker_drawOrder_20 : decode c_Walker_drawOrder 20 = .ok (.iload_n 1, 1) := by decide +kernel
theorem d_Walker_drawOrder_21 : decode c_Walker_drawOrder 21 = .ok (.invokevirtual 146, 3) := by decide +kernel
theorem d_Walker_drawOrder_24 : decode c_Walker_drawOrder 24 = .ok (.ifCond .eq 20, 3) := by decide +kernel
theorem d_Walker_drawOrder_27 : decode c_Walker_drawOrder 27 = .ok (.aload_n 0, 1) := by decide +kernel
theorem d_Walker_drawOrder_28 : decode c_Walker_drawOrder 28 = .ok (.aload_n 0, 1) := by decide +kernel
theorem d_Walker_drawOrder_29 : decode c_Walker_drawOrder 29 = .ok (.invokevirtual 122, 3) := by decide +kernel
theorem d_Walker_drawOrder_32 : decode c_Walker_drawOrder 32 = .ok (.bipush 100, 2) := by decide +kernel
theorem d_Walker_drawOrder_34 : decode c_Walker_drawOrder 34 = .ok (.imul, 1) := by decide +kernel
theorem d_Walker_drawOrder_35 : decode c_Walker_drawOrder 35 = .ok (.iload_n 3, 1) := by decide +kernel
theorem d_Walker_drawOrder_36 : decode c_Walker_drawOrder 36 = .ok (.iadd, 1) := by decide +kernel
theorem d_Walker_drawOrder_37 : decode c_Walker_drawOrder 37 = .ok (.iload_n 2, 1) := by decide +kernel
theorem d_Walker_drawOrder_38 : decode c_Walker_drawOrder 38 = .ok (.invokevirtual 149, 3) := by decide +kernel
theorem d_Walker_drawOrder_41 : decode c_Walker_drawOrder 41 = .ok (.iinc 2 1, 3) := by decide +kernel
theorem d_Walker_drawOrder_44 : decode c_Walker_drawOrder 44 = .ok (.iinc 3 1, 3) := by decide +kernel
theorem d_Walker_drawOrder_47 : decode c_Walker_drawOrder 47 = .ok (.goto (-43), 3) := by decide +kernel
theorem d_Walker_drawOrder_50 : decode c_Walker_drawOrder 50 = .ok (.iload_n 2, 1) := by decide +kernel
theorem d_Walker_drawOrder_51 : decode c_Walker_drawOrder 51 = .ok (.ireturn, 1) := by decide +kernel
theorem d_Walker_insert_0 : decode c_Walker_insert 0 = .ok (.iload_n 2, 1) := by decide +kernel
theorem d_Walker_insert_1 : decode c_Walker_insert 1 = .ok (.istore_n 3, 1) := by decide +kernel
theorem d_Walker_insert_2 : decode c_Walker_insert 2 = .ok (.iload_n 3, 1) := by decide +kernel
theorem d_Walker_insert_3 : decode c_Walker_insert 3 = .ok (.ifCond .le 35, 3) := by decide +kernel
theorem d_Walker_insert_6 : decode c_Walker_insert 6 = .ok (.aload_n 0, 1) := by decide +kernel
theorem d_Walker_insert_7 : decode c_Walker_insert 7 = .ok (.getfield 40, 3) := by decide +kernel
theorem d_Walker_insert_10 : decode c_Walker_insert 10 = .ok (.iload_n 3, 1) := by decide +kernel
theorem d_Walker_insert_11 : decode c_Walker_insert 11 = .ok (.iconst 1, 1) := by decide +kernel
theorem d_Walker_insert_12 : decode c_Walker_insert 12 = .ok (.isub, 1) := by decide +kernel
theorem d_Walker_insert_13 : decode c_Walker_insert 13 = .ok (.iaload, 1) := by decide +kernel
theorem d_Walker_insert_14 : decode c_Walker_insert 14 = .ok (.iload_n 1, 1) := by decide +kernel
theorem d_Walker_insert_15 : decode c_Walker_insert 15 = .ok (.if_icmp .le 23, 3) := by decide +kernel
theorem d_Walker_insert_18 : decode c_Walker_insert 18 = .ok (.aload_n 0, 1) := by decide +kernel
theorem d_Walker_insert_19 : decode c_Walker_insert 19 = .ok (.getfield 40, 3) := by decide +kernel
theorem d_Walker_insert_22 : decode c_Walker_insert 22 = .ok (.iload_n 3, 1) := by decide +kernel
theorem d_Walker_insert_23 : decode c_Walker_insert 23 = .ok (.aload_n 0, 1) := by decide +kernel
theorem d_Walker_insert_24 : decode c_Walker_insert 24 = .ok (.getfield 40, 3) := by decide +kernel
theorem d_Walker_insert_27 : decode c_Walker_insert 27 = .ok (.iload_n 3, 1) := by decide +kernel
theorem d_Walker_insert_28 : decode c_Walker_insert 28 = .ok (.iconst 1, 1) := by decide +kernel
theorem d_Walker_insert_29 : decode c_Walker_insert 29 = .ok (.isub, 1) := by decide +kernel
theorem d_Walker_insert_30 : decode c_Walker_insert 30 = .ok (.iaload, 1) := by decide +kernel
theorem d_Walker_insert_31 : decode c_Walker_insert 31 = .ok (.iastore, 1) := by decide +kernel
theorem d_Walker_insert_32 : decode c_Walker_insert 32 = .ok (.iinc 3 (-1), 3) := by decide +kernel
theorem d_Walker_insert_35 : decode c_Walker_insert 35 = .ok (.goto (-33), 3) := by decide +kernel
theorem d_Walker_insert_38 : decode c_Walker_insert 38 = .ok (.aload_n 0, 1) := by decide +kernel
theorem d_Walker_insert_39 : decode c_Walker_insert 39 = .ok (.getfield 40, 3) := by decide +kernel
theorem d_Walker_insert_42 : decode c_Walker_insert 42 = .ok (.iload_n 3, 1) := by decide +kernel
theorem d_Walker_insert_43 : decode c_Walker_insert 43 = .ok (.iload_n 1, 1) := by decide +kernel
theorem d_Walker_insert_44 : decode c_Walker_insert 44 = .ok (.iastore, 1) := by decide +kernel
theorem d_Walker_insert_45 : decode c_Walker_insert 45 = .ok (.return_, 1) := by decide +kernel
theorem d_Walker_growTree_0 : decode c_Walker_growTree 0 = .ok (.iconst 0, 1) := by decide +kernel
theorem d_Walker_growTree_1 : decode c_Walker_growTree 1 = .ok (.istore_n 2, 1) := by decide +kernel
theorem d_Walker_growTree_2 : decode c_Walker_growTree 2 = .ok (.iload_n 2, 1) := by decide +kernel
theorem d_Walker_growTree_3 : decode c_Walker_growTree 3 = .ok (.bipush 30, 2) := by decide +kernel
theorem d_Walker_growTree_5 : decode c_Walker_growTree 5 = .ok (.if_icmp .ge 26, 3) := by decide +kernel
theorem d_Walker_growTree_8 : decode c_Walker_growTree 8 = .ok (.aload_n 0, 1) := by decide +kernel
theorem d_Walker_growTree_9 : decode c_Walker_growTree 9 = .ok (.getfield 34, 3) := by decide +kernel
theorem d_Walker_growTree_12 : decode c_Walker_growTree 12 = .ok (.iload_n 2, 1) := by decide +kernel
theorem d_Walker_growTree_13 : decode c_Walker_growTree 13 = .ok (.iconst 0, 1) := by decide +kernel
theorem d_Walker_growTree_14 : decode c_Walker_growTree 14 = .ok (.iastore, 1) := by decide +kernel
theorem d_Walker_growTree_15 : decode c_Walker_growTree 15 = .ok (.aload_n 0, 1) := by decide +kernel
theorem d_Walker_growTree_16 : decode c_Walker_growTree 16 = .ok (.getfield 37, 3) := by decide +kernel
theorem d_Walker_growTree_19 : decode c_Walker_growTree 19 = .ok (.iload_n 2, 1) := by decide +kernel
theorem d_Walker_growTree_20 : decode c_Walker_growTree 20 = .ok (.iload_n 2, 1) := by decide +kernel
theorem d_Walker_growTree_21 : decode c_Walker_growTree 21 = .ok (.invokestatic 152, 3) := by decide +kernel
theorem d_Walker_growTree_24 : decode c_Walker_growTree 24 = .ok (.iastore, 1) := by decide +kernel
theorem d_Walker_growTree_25 : decode c_Walker_growTree 25 = .ok (.iinc 2 1, 3) := by decide +kernel
theorem d_Walker_growTree_28 : decode c_Walker_growTree 28 = .ok (.goto (-26), 3) := by decide +kernel
theorem d_Walker_growTree_31 : decode c_Walker_growTree 31 = .ok (.iconst 0, 1) := by decide +kernel
theorem d_Walker_growTree_32 : decode c_Walker_growTree 32 = .ok (.istore_n 2, 1) := by decide +kernel
theorem d_Walker_growTree_33 : decode c_Walker_growTree 33 = .ok (.iload_n 2, 1) := by decide +kernel
theorem d_Walker_growTree_34 : decode c_Walker_growTree 34 = .ok (.iload_n 1, 1) := by decide +kernel
theorem d_Walker_growTree_35 : decode c_Walker_growTree 35 = .ok (.if_icmp .ge 70, 3) := by decide +kernel
theorem d_Walker_growTree_38 : decode c_Walker_growTree 38 = .ok (.aload_n 0, 1) := by decide +kernel
theorem d_Walker_growTree_39 : decode c_Walker_growTree 39 = .ok (.getfield 40, 3) := by decide +kernel
theorem d_Walker_growTree_42 : decode c_Walker_growTree 42 = .ok (.iload_n 2, 1) := by decide +kernel
theorem d_Walker_growTree_43 : decode c_Walker_growTree 43 = .ok (.iaload, 1) := by decide +kernel
theorem d_Walker_growTree_44 : decode c_Walker_growTree 44 = .ok (.bipush 100, 2) := by decide +kernel
theorem d_Walker_growTree_46 : decode c_Walker_growTree 46 = .ok (.irem, 1) := by decide +kernel
theorem d_Walker_growTree_47 : decode c_Walker_growTree 47 = .ok (.istore_n 3, 1) := by decide +kernel
theorem d_Walker_growTree_48 : decode c_Walker_growTree 48 = .ok (.aload_n 0, 1) := by decide +kernel
theorem d_Walker_growTree_49 : decode c_Walker_growTree 49 = .ok (.getfield 37, 3) := by decide +kernel
theorem d_Walker_growTree_52 : decode c_Walker_growTree 52 = .ok (.aload_n 0, 1) := by decide +kernel
theorem d_Walker_growTree_53 : decode c_Walker_growTree 53 = .ok (.getfield 9, 3) := by decide +kernel
theorem d_Walker_growTree_56 : decode c_Walker_growTree 56 = .ok (.getfield 88, 3) := by decide +kernel
theorem d_Walker_growTree_59 : decode c_Walker_growTree 59 = .ok (.iload_n 3, 1) := by decide +kernel
theorem d_Walker_growTree_60 : decode c_Walker_growTree 60 = .ok (.iaload, 1) := by decide +kernel
theorem d_Walker_growTree_61 : decode c_Walker_growTree 61 = .ok (.iaload, 1) := by decide +kernel
theorem d_Walker_growTree_62 : decode c_Walker_growTree 62 = .ok (.aload_n 0, 1) := by decide +kernel
theorem d_Walker_growTree_63 : decode c_Walker_growTree 63 = .ok (.getfield 9, 3) := by decide +kernel
theorem d_Walker_growTree_66 : decode c_Walker_growTree 66 = .ok (.getfield 93, 3) := by decide +kernel
theorem d_Walker_growTree_69 : decode c_Walker_growTree 69 = .ok (.iload_n 3, 1) := by decide +kernel
theorem d_Walker_growTree_70 : decode c_Walker_growTree 70 = .ok (.iaload, 1) := by decide +kernel
theorem d_Walker_growTree_71 : decode c_Walker_growTree 71 = .ok (.invokestatic 134, 3) := by decide +kernel
theorem d_Walker_growTree_74 : decode c_Walker_growTree 74 = .ok (.ifCond .ne 25, 3) := by decide +kernel
theorem d_Walker_growTree_77 : decode c_Walker_growTree 77 = .ok (.aload_n 0, 1) := by decide +kernel
theorem d_Walker_growTree_78 : decode c_Walker_growTree 78 = .ok (.aload_n 0, 1) := by decide +kernel
theorem d_Walker_growTree_79 : decode c_Walker_growTree 79 = .ok (.getfield 9, 3) := by decide +kernel
theorem d_Walker_growTree_82 : decode c_Walker_growTree 82 = .ok (.getfield 88, 3) := by decide +kernel
theorem d_Walker_growTree_85 : decode c_Walker_growTree 85 = .ok (.iload_n 3, 1) := by decide +kernel
theorem d_Walker_growTree_86 : decode c_Walker_growTree 86 = .ok (.iaload, 1) := by decide +kernel
theorem d_Walker_growTree_87 : decode c_Walker_growTree 87 = .ok (.aload_n 0, 1) := by decide +kernel
theorem d_Walker_growTree_88 : decode c_Walker_growTree 88 = .ok (.getfield 9, 3) := by decide +kernel
theorem d_Walker_growTree_91 : decode c_Walker_growTree 91 = .ok (.getfield 93, 3) := by decide +kernel
theorem d_Walker_growTree_94 : decode c_Walker_growTree 94 = .ok (.iload_n 3, 1) := by decide +kernel
theorem d_Walker_growTree_95 : decode c_Walker_growTree 95 = .ok (.iaload, 1) := by decide +kernel
theorem d_Walker_growTree_96 : decode c_Walker_growTree 96 = .ok (.invokevirtual 155, 3) := by decide +kernel
theorem d_Walker_growTree_99 : decode c_Walker_growTree 99 = .ok (.iinc 2 1, 3) := by decide +kernel
theorem d_Walker_growTree_102 : decode c_Walker_growTree 102 = .ok (.goto (-69), 3) := by decide +kernel
theorem d_Walker_growTree_105 : decode c_Walker_growTree 105 = .ok (.return_, 1) := by decide +kernel
theorem d_Walker_join_0 : decode c_Walker_join 0 = .ok (.aload_n 0, 1) := by decide +kernel
theorem d_Walker_join_1 : decode c_Walker_join 1 = .ok (.getfield 34, 3) := by decide +kernel
theorem d_Walker_join_4 : decode c_Walker_join 4 = .ok (.iload_n 1, 1) := by decide +kernel
theorem d_Walker_join_5 : decode c_Walker_join 5 = .ok (.dup2, 1) := by decide +kernel
theorem d_Walker_join_6 : decode c_Walker_join 6 = .ok (.iaload, 1) := by decide +kernel
theorem d_Walker_join_7 : decode c_Walker_join 7 = .ok (.iload_n 2, 1) := by decide +kernel
theorem d_Walker_join_8 : decode c_Walker_join 8 = .ok (.invokestatic 152, 3) := by decide +kernel
theorem d_Walker_join_11 : decode c_Walker_join 11 = .ok (.ior, 1) := by decide +kernel
theorem d_Walker_join_12 : decode c_Walker_join 12 = .ok (.iastore, 1) := by decide +kernel
theorem d_Walker_join_13 : decode c_Walker_join 13 = .ok (.aload_n 0, 1) := by decide +kernel
theorem d_Walker_join_14 : decode c_Walker_join 14 = .ok (.getfield 34, 3) := by decide +kernel
theorem d_Walker_join_17 : decode c_Walker_join 17 = .ok (.iload_n 2, 1) := by decide +kernel
theorem d_Walker_join_18 : decode c_Walker_join 18 = .ok (.dup2, 1) := by decide +kernel
theorem d_Walker_join_19 : decode c_Walker_join 19 = .ok (.iaload, 1) := by decide +kernel
theorem d_Walker_join_20 : decode c_Walker_join 20 = .ok (.iload_n 1, 1) := by decide +kernel
theorem d_Walker_join_21 : decode c_Walker_join 21 = .ok (.invokestatic 152, 3) := by decide +kernel
theorem d_Walker_join_24 : decode c_Walker_join 24 = .ok (.ior, 1) := by decide +kernel
theorem d_Walker_join_25 : decode c_Walker_join 25 = .ok (.iastore, 1) := by decide +kernel
theorem d_Walker_join_26 : decode c_Walker_join 26 = .ok (.aload_n 0, 1) := by decide +kernel
theorem d_Walker_join_27 : decode c_Walker_join 27 = .ok (.getfield 37, 3) := by decide +kernel
theorem d_Walker_join_30 : decode c_Walker_join 30 = .ok (.iload_n 1, 1) := by decide +kernel
theorem d_Walker_join_31 : decode c_Walker_join 31 = .ok (.iaload, 1) := by decide +kernel
theorem d_Walker_join_32 : decode c_Walker_join 32 = .ok (.aload_n 0, 1) := by decide +kernel
theorem d_Walker_join_33 : decode c_Walker_join 33 = .ok (.getfield 37, 3) := by decide +kernel
theorem d_Walker_join_36 : decode c_Walker_join 36 = .ok (.iload_n 2, 1) := by decide +kernel
theorem d_Walker_join_37 : decode c_Walker_join 37 = .ok (.iaload, 1) := by decide +kernel
theorem d_Walker_join_38 : decode c_Walker_join 38 = .ok (.ior, 1) := by decide +kernel
theorem d_Walker_join_39 : decode c_Walker_join 39 = .ok (.istore_n 3, 1) := by decide +kernel
theorem d_Walker_join_40 : decode c_Walker_join 40 = .ok (.iconst 0, 1) := by decide +kernel
theorem d_Walker_join_41 : decode c_Walker_join 41 = .ok (.istore 4, 2) := by decide +kernel
theorem d_Walker_join_43 : decode c_Walker_join 43 = .ok (.iload 4, 2) := by decide +kernel
theorem d_Walker_join_45 : decode c_Walker_join 45 = .ok (.bipush 30, 2) := by decide +kernel
theorem d_Walker_join_47 : decode c_Walker_join 47 = .ok (.if_icmp .ge 26, 3) := by decide +kernel
theorem d_Walker_join_50 : decode c_Walker_join 50 = .ok (.iload_n 3, 1) := by decide +kernel
theorem d_Walker_join_51 : decode c_Walker_join 51 = .ok (.iload 4, 2) := by decide +kernel
theorem d_Walker_join_53 : decode c_Walker_join 53 = .ok (.invokestatic 134, 3) := by decide +kernel
theorem d_Walker_join_56 : decode c_Walker_join 56 = .ok (.ifCond .eq 11, 3) := by decide +kernel
theorem d_Walker_join_59 : decode c_Walker_join 59 = .ok (.aload_n 0, 1) := by decide +kernel
theorem d_Walker_join_60 : decode c_Walker_join 60 = .ok (.getfield 37, 3) := by decide +kernel
theorem d_Walker_join_63 : decode c_Walker_join 63 = .ok (.iload 4, 2) := by decide +kernel
theorem d_Walker_join_65 : decode c_Walker_join 65 = .ok (.iload_n 3, 1) := by decide +kernel
theorem d_Walker_join_66 : decode c_Walker_join 66 = .ok (.iastore, 1) := by decide +kernel
theorem d_Walker_join_67 : decode c_Walker_join 67 = .ok (.iinc 4 1, 3) := by decide +kernel
theorem d_Walker_join_70 : decode c_Walker_join 70 = .ok (.goto (-27), 3) := by decide +kernel
theorem d_Walker_join_73 : decode c_Walker_join 73 = .ok (.return_, 1) := by decide +kernel
theorem d_Walker_findSeams_0 : decode c_Walker_findSeams 0 = .ok (.iconst 0, 1) := by decide +kernel
theorem d_Walker_findSeams_1 : decode c_Walker_findSeams 1 = .ok (.istore_n 2, 1) := by decide +kernel
theorem d_Walker_findSeams_2 : decode c_Walker_findSeams 2 = .ok (.aload_n 0, 1) := by decide +kernel
theorem d_Walker_findSeams_3 : decode c_Walker_findSeams 3 = .ok (.getfield 9, 3) := by decide +kernel
theorem d_Walker_findSeams_6 : decode c_Walker_findSeams 6 = .ok (.getfield 158, 3) := by decide +kernel
theorem d_Walker_findSeams_9 : decode c_Walker_findSeams 9 = .ok (.iload_n 1, 1) := by decide +kernel
theorem d_Walker_findSeams_10 : decode c_Walker_findSeams 10 = .ok (.invokestatic 161, 3) := by decide +kernel
theorem d_Walker_findSeams_13 : decode c_Walker_findSeams 13 = .ok (.istore_n 3, 1) := by decide +kernel
theorem d_Walker_findSeams_14 : decode c_Walker_findSeams 14 = .ok (.iconst 0, 1) := by decide +kernel
theorem d_Walker_findSeams_15 : decode c_Walker_findSeams 15 = .ok (.istore 4, 2) := by decide +kernel
theorem d_Walker_findSeams_17 : decode c_Walker_findSeams 17 = .ok (.iload 4, 2) := by decide +kernel
theorem d_Walker_findSeams_19 : decode c_Walker_findSeams 19 = .ok (.aload_n 0, 1) := by decide +kernel
theorem d_Walker_findSeams_20 : decode c_Walker_findSeams 20 = .ok (.getfield 9, 3) := by decide +kernel
theorem d_Walker_findSeams_23 : decode c_Walker_findSeams 23 = .ok (.getfield 143, 3) := by decide +kernel
theorem d_Walker_findSeams_26 : decode c_Walker_findSeams 26 = .ok (.if_icmp .ge 96, 3) := by decide +kernel
theorem d_Walker_findSeams_29 : decode c_Walker_findSeams 29 = .ok (.aload_n 0, 1) := by decide +kernel
theorem d_Walker_findSeams_30 : decode c_Walker_findSeams 30 = .ok (.getfield 34, 3) := by decide +kernel
theorem d_Walker_findSeams_33 : decode c_Walker_findSeams 33 = .ok (.aload_n 0, 1) := by decide +kernel
theorem d_Walker_findSeams_34 : decode c_Walker_findSeams 34 = .ok (.getfield 9, 3) := by decide +kernel
theorem d_Walker_findSeams_37 : decode c_Walker_findSeams 37 = .ok (.getfield 88, 3) := by decide +kernel
theorem d_Walker_findSeams_40 : decode c_Walker_findSeams 40 = .ok (.iload 4, 2) := by decide +kernel
theorem d_Walker_findSeams_42 : decode c_Walker_findSeams 42 = .ok (.iaload, 1) := by decide +kernel
theorem d_Walker_findSeams_43 : decode c_Walker_findSeams 43 = .ok (.iaload, 1) := by decide +kernel
theorem d_Walker_findSeams_44 : decode c_Walker_findSeams 44 = .ok (.aload_n 0, 1) := by decide +kernel
theorem d_Walker_findSeams_45 : decode c_Walker_findSeams 45 = .ok (.getfield 9, 3) := by decide +kernel
theorem d_Walker_findSeams_48 : decode c_Walker_findSeams 48 = .ok (.getfield 93, 3) := by decide +kernel
theorem d_Walker_findSeams_51 : decode c_Walker_findSeams 51 = .ok (.iload 4, 2) := by decide +kernel
theorem d_Walker_findSeams_53 : decode c_Walker_findSeams 53 = .ok (.iaload, 1) := by decide +kernel
theorem d_Walker_findSeams_54 : decode c_Walker_findSeams 54 = .ok (.invokestatic 134, 3) := by decide +kernel
theorem d_Walker_findSeams_57 : decode c_Walker_findSeams 57 = .ok (.ifCond .eq 59, 3) := by decide +kernel
theorem d_Walker_findSeams_60 : decode c_Walker_findSeams 60 = .ok (.aload_n 0, 1) := by decide +kernel
theorem d_Walker_findSeams_61 : decode c_Walker_findSeams 61 = .ok (.getfield 9, 3) := by decide +kernel
theorem d_Walker_findSeams_64 : decode c_Walker_findSeams 64 = .ok (.getfield 158, 3) := by decide +kernel
theorem d_Walker_findSeams_67 : decode c_Walker_findSeams 67 = .ok (.aload_n 0, 1) := by decide +kernel
theorem d_Walker_findSeams_68 : decode c_Walker_findSeams 68 = .ok (.iload 4, 2) := by decide +kernel
theorem d_Walker_findSeams_70 : decode c_Walker_findSeams 70 = .ok (.iload_n 1, 1) := by decide +kernel
theorem d_Walker_findSeams_71 : decode c_Walker_findSeams 71 = .ok (.invokevirtual 126, 3) := by decide +kernel
theorem d_Walker_findSeams_74 : decode c_Walker_findSeams 74 = .ok (.invokestatic 161, 3) := by decide +kernel
theorem d_Walker_findSeams_77 : decode c_Walker_findSeams 77 = .ok (.istore 5, 2) := by decide +kernel
theorem d_Walker_findSeams_79 : decode c_Walker_findSeams 79 = .ok (.aload_n 0, 1) := by decide +kernel
theorem d_Walker_findSeams_80 : decode c_Walker_findSeams 80 = .ok (.getfield 15, 3) := by decide +kernel
theorem d_Walker_findSeams_83 : decode c_Walker_findSeams 83 = .ok (.iload 5, 2) := by decide +kernel
theorem d_Walker_findSeams_85 : decode c_Walker_findSeams 85 = .ok (.invokevirtual 165, 3) := by decide +kernel
theorem d_Walker_findSeams_88 : decode c_Walker_findSeams 88 = .ok (.ifCond .eq 28, 3) := by decide +kernel
theorem d_Walker_findSeams_91 : decode c_Walker_findSeams 91 = .ok (.aload_n 0, 1) := by decide +kernel
theorem d_Walker_findSeams_92 : decode c_Walker_findSeams 92 = .ok (.getfield 15, 3) := by decide +kernel
theorem d_Walker_findSeams_95 : decode c_Walker_findSeams 95 = .ok (.iload_n 3, 1) := by decide +kernel
theorem d_Walker_findSeams_96 : decode c_Walker_findSeams 96 = .ok (.iload 5, 2) := by decide +kernel
theorem d_Walker_findSeams_98 : decode c_Walker_findSeams 98 = .ok (.isub, 1) := by decide +kernel
theorem d_Walker_findSeams_99 : decode c_Walker_findSeams 99 = .ok (.invokevirtual 165, 3) := by decide +kernel
theorem d_Walker_findSeams_102 : decode c_Walker_findSeams 102 = .ok (.ifCond .eq 14, 3) := by decide +kernel
theorem d_Walker_findSeams_105 : decode c_Walker_findSeams 105 = .ok (.aload_n 0, 1) := by decide +kernel
theorem d_Walker_findSeams_106 : decode c_Walker_findSeams 106 = .ok (.getfield 40, 3) := by decide +kernel
theorem d_Walker_findSeams_109 : decode c_Walker_findSeams 109 = .ok (.iload_n 2, 1) := by decide +kernel
theorem d_Walker_findSeams_110 : decode c_Walker_findSeams 110 = .ok (.iload 4, 2) := by decide +kernel
theorem d_Walker_findSeams_112 : decode c_Walker_findSeams 112 = .ok (.iastore, 1) := by decide +kernel
theorem d_Walker_findSeams_113 : decode c_Walker_findSeams 113 = .ok (.iinc 2 1, 3) := by decide +kernel
theorem d_Walker_findSeams_116 : decode c_Walker_findSeams 116 = .ok (.iinc 4 1, 3) := by decide +kernel
theorem d_Walker_findSeams_119 : decode c_Walker_findSeams 119 = .ok (.goto (-102), 3) := by decide +kernel
theorem d_Walker_findSeams_122 : decode c_Walker_findSeams 122 = .ok (.iload_n 2, 1) := by decide +kernel
theorem d_Walker_findSeams_123 : decode c_Walker_findSeams 123 = .ok (.ireturn, 1) := by decide +kernel
theorem d_Walker_partBefore_0 : decode c_Walker_partBefore 0 = .ok (.iload_n 2, 1) := by decide +kernel
theorem d_Walker_partBefore_1 : decode c_Walker_partBefore 1 = .ok (.aload_n 0, 1) := by decide +kernel
theorem d_Walker_partBefore_2 : decode c_Walker_partBefore 2 = .ok (.getfield 9, 3) := by decide +kernel
theorem d_Walker_partBefore_5 : decode c_Walker_partBefore 5 = .ok (.getfield 93, 3) := by decide +kernel
theorem d_Walker_partBefore_8 : decode c_Walker_partBefore 8 = .ok (.iload_n 1, 1) := by decide +kernel
theorem d_Walker_partBefore_9 : decode c_Walker_partBefore 9 = .ok (.iaload, 1) := by decide +kernel
theorem d_Walker_partBefore_10 : decode c_Walker_partBefore 10 = .ok (.invokestatic 152, 3) := by decide +kernel
theorem d_Walker_partBefore_13 : decode c_Walker_partBefore 13 = .ok (.iconst (-1), 1) := by decide +kernel
theorem d_Walker_partBefore_14 : decode c_Walker_partBefore 14 = .ok (.ixor, 1) := by decide +kernel
theorem d_Walker_partBefore_15 : decode c_Walker_partBefore 15 = .ok (.iand, 1) := by decide +kernel
theorem d_Walker_partBefore_16 : decode c_Walker_partBefore 16 = .ok (.istore_n 3, 1) := by decide +kernel
theorem d_Walker_partBefore_17 : decode c_Walker_partBefore 17 = .ok (.aload_n 0, 1) := by decide +kernel
theorem d_Walker_partBefore_18 : decode c_Walker_partBefore 18 = .ok (.getfield 34, 3) := by decide +kernel
theorem d_Walker_partBefore_21 : decode c_Walker_partBefore 21 = .ok (.iload_n 3, 1) := by decide +kernel
theorem d_Walker_partBefore_22 : decode c_Walker_partBefore 22 = .ok (.aload_n 0, 1) := by decide +kernel
theorem d_Walker_partBefore_23 : decode c_Walker_partBefore 23 = .ok (.getfield 9, 3) := by decide +kernel
theorem d_Walker_partBefore_26 : decode c_Walker_partBefore 26 = .ok (.getfield 88, 3) := by decide +kernel
theorem d_Walker_partBefore_29 : decode c_Walker_partBefore 29 = .ok (.iload_n 1, 1) := by decide +kernel
theorem d_Walker_partBefore_30 : decode c_Walker_partBefore 30 = .ok (.iaload, 1) := by decide +kernel
theorem d_Walker_partBefore_31 : decode c_Walker_partBefore 31 = .ok (.invokestatic 152, 3) := by decide +kernel
theorem d_Walker_partBefore_34 : decode c_Walker_partBefore 34 = .ok (.invokestatic 169, 3) := by decide +kernel
theorem d_Walker_partBefore_37 : decode c_Walker_partBefore 37 = .ok (.ireturn, 1) := by decide +kernel
theorem d_DC_init_0 : decode c_DC_init 0 = .ok (.aload_n 0, 1) := by decide +kernel
theorem d_DC_init_1 : decode c_DC_init 1 = .ok (.invokespecial 3, 3) := by decide +kernel
theorem d_DC_init_4 : decode c_DC_init 4 = .ok (.new 9, 3) := by decide +kernel
theorem d_DC_init_7 : decode c_DC_init 7 = .ok (.dup, 1) := by decide +kernel
theorem d_DC_init_8 : decode c_DC_init 8 = .ok (.invokespecial 11, 3) := by decide +kernel
theorem d_DC_init_11 : decode c_DC_init 11 = .ok (.astore_n 1, 1) := by decide +kernel
theorem d_DC_init_12 : decode c_DC_init 12 = .ok (.new 12, 3) := by decide +kernel
theorem d_DC_init_15 : decode c_DC_init 15 = .ok (.dup, 1) := by decide +kernel
theorem d_DC_init_16 : decode c_DC_init 16 = .ok (.invokespecial 14, 3) := by decide +kernel
theorem d_DC_init_19 : decode c_DC_init 19 = .ok (.astore_n 2, 1) := by decide +kernel
theorem d_DC_init_20 : decode c_DC_init 20 = .ok (.new 15, 3) := by decide +kernel
theorem d_DC_init_23 : decode c_DC_init 23 = .ok (.dup, 1) := by decide +kernel
theorem d_DC_init_24 : decode c_DC_init 24 = .ok (.aload_n 1, 1) := by decide +kernel
theorem d_DC_init_25 : decode c_DC_init 25 = .ok (.aload_n 2, 1) := by decide +kernel
theorem d_DC_init_26 : decode c_DC_init 26 = .ok (.invokespecial 17, 3) := by decide +kernel
theorem d_DC_init_29 : decode c_DC_init 29 = .ok (.astore_n 3, 1) := by decide +kernel
theorem d_DC_init_30 : decode c_DC_init 30 = .ok (.new 20, 3) := by decide +kernel
theorem d_DC_init_33 : decode c_DC_init 33 = .ok (.dup, 1) := by decide +kernel
theorem d_DC_init_34 : decode c_DC_init 34 = .ok (.aload_n 1, 1) := by decide +kernel
theorem d_DC_init_35 : decode c_DC_init 35 = .ok (.aload_n 2, 1) := by decide +kernel
theorem d_DC_init_36 : decode c_DC_init 36 = .ok (.invokespecial 22, 3) := by decide +kernel
theorem d_DC_init_39 : decode c_DC_init 39 = .ok (.astore 4, 2) := by decide +kernel
theorem d_DC_init_41 : decode c_DC_init 41 = .ok (.aload_n 0, 1) := by decide +kernel
theorem d_DC_init_42 : decode c_DC_init 42 = .ok (.aload_n 1, 1) := by decide +kernel
theorem d_DC_init_43 : decode c_DC_init 43 = .ok (.putfield 23, 3) := by decide +kernel
theorem d_DC_init_46 : decode c_DC_init 46 = .ok (.aload_n 0, 1) := by decide +kernel
theorem d_DC_init_47 : decode c_DC_init 47 = .ok (.aload_n 2, 1) := by decide +kernel
theorem d_DC_init_48 : decode c_DC_init 48 = .ok (.putfield 29, 3) := by decide +kernel
theorem d_DC_init_51 : decode c_DC_init 51 = .ok (.aload_n 0, 1) := by decide +kernel
theorem d_DC_init_52 : decode c_DC_init 52 = .ok (.new 33, 3) := by decide +kernel
theorem d_DC_init_55 : decode c_DC_init 55 = .ok (.dup, 1) := by decide +kernel
theorem d_DC_init_56 : decode c_DC_init 56 = .ok (.invokespecial 35, 3) := by decide +kernel
theorem d_DC_init_59 : decode c_DC_init 59 = .ok (.putfield 36, 3) := by decide +kernel
theorem d_DC_init_62 : decode c_DC_init 62 = .ok (.aload_n 0, 1) := by decide +kernel
theorem d_DC_init_63 : decode c_DC_init 63 = .ok (.aload_n 3, 1) := by decide +kernel
theorem d_DC_init_64 : decode c_DC_init 64 = .ok (.putfield 40, 3) := by decide +kernel
theorem d_DC_init_67 : decode c_DC_init 67 = .ok (.aload_n 0, 1) := by decide +kernel
theorem d_DC_init_68 : decode c_DC_init 68 = .ok (.aload 4, 2) := by decide +kernel
theorem d_DC_init_70 : decode c_DC_init 70 = .ok (.putfield 44, 3) := by decide +kernel
theorem d_DC_init_73 : decode c_DC_init 73 = .ok (.aload_n 0, 1) := by decide +kernel
theorem d_DC_init_74 : decode c_DC_init 74 = .ok (.new 48, 3) := by decide +kernel
theorem d_DC_init_77 : decode c_DC_init 77 = .ok (.dup, 1) := by decide +kernel
theorem d_DC_init_78 : decode c_DC_init 78 = .ok (.aload_n 1, 1) := by decide +kernel
theorem d_DC_init_79 : decode c_DC_init 79 = .ok (.aload_n 2, 1) := by decide +kernel
theorem d_DC_init_80 : decode c_DC_init 80 = .ok (.aload_n 3, 1) := by decide +kernel
theorem d_DC_init_81 : decode c_DC_init 81 = .ok (.aload 4, 2) := by decide +kernel
theorem d_DC_init_83 : decode c_DC_init 83 = .ok (.invokespecial 50, 3) := by decide +kernel
theorem d_DC_init_86 : decode c_DC_init 86 = .ok (.putfield 53, 3) := by decide +kernel
theorem d_DC_init_89 : decode c_DC_init 89 = .ok (.aload_n 0, 1) := by decide +kernel
theorem d_DC_init_90 : decode c_DC_init 90 = .ok (.new 57, 3) := by decide +kernel
theorem d_DC_init_93 : decode c_DC_init 93 = .ok (.dup, 1) := by decide +kernel
theorem d_DC_init_94 : decode c_DC_init 94 = .ok (.aload_n 1, 1) := by decide +kernel
theorem d_DC_init_95 : decode c_DC_init 95 = .ok (.aload_n 3, 1) := by decide +kernel
theorem d_DC_init_96 : decode c_DC_init 96 = .ok (.aload 4, 2) := by decide +kernel
theorem d_DC_init_98 : decode c_DC_init 98 = .ok (.invokespecial 59, 3) := by decide +kernel
theorem d_DC_init_101 : decode c_DC_init 101 = .ok (.putfield 62, 3) := by decide +kernel
theorem d_DC_init_104 : decode c_DC_init 104 = .ok (.aload_n 0, 1) := by decide +kernel
theorem d_DC_init_105 : decode c_DC_init 105 = .ok (.new 66, 3) := by decide +kernel
theorem d_DC_init_108 : decode c_DC_init 108 = .ok (.dup, 1) := by decide +kernel
theorem d_DC_init_109 : decode c_DC_init 109 = .ok (.aload_n 1, 1) := by decide +kernel
theorem d_DC_init_110 : decode c_DC_init 110 = .ok (.aload_n 2, 1) := by decide +kernel
theorem d_DC_init_111 : decode c_DC_init 111 = .ok (.aload_n 3, 1) := by decide +kernel
theorem d_DC_init_112 : decode c_DC_init 112 = .ok (.invokespecial 68, 3) := by decide +kernel
theorem d_DC_init_115 : decode c_DC_init 115 = .ok (.putfield 71, 3) := by decide +kernel
theorem d_DC_init_118 : decode c_DC_init 118 = .ok (.aload_n 0, 1) := by decide +kernel
theorem d_DC_init_119 : decode c_DC_init 119 = .ok (.new 75, 3) := by decide +kernel
theorem d_DC_init_122 : decode c_DC_init 122 = .ok (.dup, 1) := by decide +kernel
theorem d_DC_init_123 : decode c_DC_init 123 = .ok (.aload_n 1, 1) := by decide +kernel
theorem d_DC_init_124 : decode c_DC_init 124 = .ok (.aload_n 2, 1) := by decide +kernel
theorem d_DC_init_125 : decode c_DC_init 125 = .ok (.aload_n 3, 1) := by decide +kernel
theorem d_DC_init_126 : decode c_DC_init 126 = .ok (.invokespecial 77, 3) := by decide +kernel
theorem d_DC_init_129 : decode c_DC_init 129 = .ok (.putfield 78, 3) := by decide +kernel
theorem d_DC_init_132 : decode c_DC_init 132 = .ok (.return_, 1) := by decide +kernel
theorem d_DC_place_0 : decode c_DC_place 0 = .ok (.iload_n 1, 1) := by decide +kernel
theorem d_DC_place_1 : decode c_DC_place 1 = .ok (.iconst 0, 1) := by decide +kernel
theorem d_DC_place_2 : decode c_DC_place 2 = .ok (.sipush 1000, 3) := by decide +kernel
theorem d_DC_place_5 : decode c_DC_place 5 = .ok (.invokestatic 82, 3) := by decide +kernel
theorem d_DC_place_8 : decode c_DC_place 8 = .ok (.ifCond .eq 48, 3) := by decide +kernel
theorem d_DC_place_11 : decode c_DC_place 11 = .ok (.iload_n 2, 1) := by decide +kernel
theorem d_DC_place_12 : decode c_DC_place 12 = .ok (.iconst 0, 1) := by decide +kernel
theorem d_DC_place_13 : decode c_DC_place 13 = .ok (.sipush 1000, 3) := by decide +kernel
theorem d_DC_place_16 : decode c_DC_place 16 = .ok (.invokestatic 82, 3) := by decide +kernel
theorem d_DC_place_19 : decode c_DC_place 19 = .ok (.ifCond .eq 37, 3) := by decide +kernel
theorem d_DC_place_22 : decode c_DC_place 22 = .ok (.iload_n 3, 1) := by decide +kernel
theorem d_DC_place_23 : decode c_DC_place 23 = .ok (.iconst 0, 1) := by decide +kernel
theorem d_DC_place_24 : decode c_DC_place 24 = .ok (.sipush 1000, 3) := by decide +kernel
theorem d_DC_place_27 : decode c_DC_place 27 = .ok (.invokestatic 82, 3) := by decide +kernel
theorem d_DC_place_30 : decode c_DC_place 30 = .ok (.ifCond .eq 26, 3) := by decide +kernel
theorem d_DC_place_33 : decode c_DC_place 33 = .ok (.iload 4, 2) := by decide +kernel
theorem d_DC_place_35 : decode c_DC_place 35 = .ok (.iconst 1, 1) := by decide +kernel
theorem d_DC_place_36 : decode c_DC_place 36 = .ok (.bipush 100, 2) := by decide +kernel
theorem d_DC_place_38 : decode c_DC_place 38 = .ok (.invokestatic 82, 3) := by decide +kernel
theorem d_DC_place_41 : decode c_DC_place 41 = .ok (.ifCond .eq 15, 3) := by decide +kernel
theorem d_DC_place_44 : decode c_DC_place 44 = .ok (.iload 5, 2) := by decide +kernel
theorem d_DC_place_46 : decode c_DC_place 46 = .ok (.invokestatic 86, 3) := by decide +kernel
theorem d_DC_place_49 : decode c_DC_place 49 = .ok (.ifCond .eq 7, 3) := by decide +kernel
theorem d_DC_place_52 : decode c_DC_place 52 = .ok (.iconst 1, 1) := by decide +kernel
theorem d_DC_place_53 : decode c_DC_place 53 = .ok (.goto 4, 3) := by decide +kernel
theorem d_DC_place_56 : decode c_DC_place 56 = .ok (.iconst 0, 1) := by decide +kernel
theorem d_DC_place_57 : decode c_DC_place 57 = .ok (.istore 6, 2) := by decide +kernel
theorem d_DC_place_59 : decode c_DC_place 59 = .ok (.iload 6, 2) := by decide +kernel
theorem d_DC_place_61 : decode c_DC_place 61 = .ok (.ifCond .ne 5, 3) := by decide +kernel
theorem d_DC_place_64 : decode c_DC_place 64 = .ok (.iconst (-1), 1) := by decide +kernel
theorem d_DC_place_65 : decode c_DC_place 65 = .ok (.ireturn, 1) := by decide +kernel
theorem d_DC_place_66 : decode c_DC_place 66 = .ok (.aload_n 0, 1) := by decide +kernel
theorem d_DC_place_67 : decode c_DC_place 67 = .ok (.getfield 23, 3) := by decide +kernel
theorem d_DC_place_70 : decode c_DC_place 70 = .ok (.getfield 90, 3) := by decide +kernel
theorem d_DC_place_73 : decode c_DC_place 73 = .ok (.bipush 30, 2) := by decide +kernel
theorem d_DC_place_75 : decode c_DC_place 75 = .ok (.if_icmp .lt 6, 3) := by decide +kernel
theorem d_DC_place_78 : decode c_DC_place 78 = .ok (.bipush (-2), 2) := by decide +kernel
theorem d_DC_place_80 : decode c_DC_place 80 = .ok (.ireturn, 1) := by decide +kernel
theorem d_DC_place_81 : decode c_DC_place 81 = .ok (.aload_n 0, 1) := by decide +kernel
theorem d_DC_place_82 : decode c_DC_place 82 = .ok (.getfield 23, 3) := by decide +kernel
theorem d_DC_place_85 : decode c_DC_place 85 = .ok (.iload_n 1, 1) := by decide +kernel
theorem d_DC_place_86 : decode c_DC_place 86 = .ok (.iload_n 2, 1) := by decide +kernel
theorem d_DC_place_87 : decode c_DC_place 87 = .ok (.iload_n 3, 1) := by decide +kernel
theorem d_DC_place_88 : decode c_DC_place 88 = .ok (.iload 4, 2) := by decide +kernel
theorem d_DC_place_90 : decode c_DC_place 90 = .ok (.iload 5, 2) := by decide +kernel
theorem d_DC_place_92 : decode c_DC_place 92 = .ok (.invokevirtual 94, 3) := by decide +kernel
theorem d_DC_place_95 : decode c_DC_place 95 = .ok (.istore 7, 2) := by decide +kernel
theorem d_DC_place_97 : decode c_DC_place 97 = .ok (.aload_n 0, 1) := by decide +kernel
theorem d_DC_place_98 : decode c_DC_place 98 = .ok (.getfield 36, 3) := by decide +kernel
theorem d_DC_place_101 : decode c_DC_place 101 = .ok (.iload 7, 2) := by decide +kernel
theorem d_DC_place_103 : decode c_DC_place 103 = .ok (.iconst 0, 1) := by decide +kernel
theorem d_DC_place_104 : decode c_DC_place 104 = .ok (.invokevirtual 98, 3) := by decide +kernel
theorem d_DC_place_107 : decode c_DC_place 107 = .ok (.aload_n 0, 1) := by decide +kernel
theorem d_DC_place_108 : decode c_DC_place 108 = .ok (.getfield 53, 3) := by decide +kernel
theorem d_DC_place_111 : decode c_DC_place 111 = .ok (.invokevirtual 102, 3) := by decide +kernel
theorem d_DC_place_114 : decode c_DC_place 114 = .ok (.iload 7, 2) := by decide +kernel
theorem d_DC_place_116 : decode c_DC_place 116 = .ok (.ireturn, 1) := by decide +kernel
theorem d_DC_border_0 : decode c_DC_border 0 = .ok (.aload_n 0, 1) := by decide +kernel
theorem d_DC_border_1 : decode c_DC_border 1 = .ok (.getfield 23, 3) := by decide +kernel
theorem d_DC_border_4 : decode c_DC_border 4 = .ok (.iload_n 1, 1) := by decide +kernel
theorem d_DC_border_5 : decode c_DC_border 5 = .ok (.invokevirtual 105, 3) := by decide +kernel
theorem d_DC_border_8 : decode c_DC_border 8 = .ok (.ifCond .eq 19, 3) := by decide +kernel
theorem d_DC_border_11 : decode c_DC_border 11 = .ok (.aload_n 0, 1) := by decide +kernel
theorem d_DC_border_12 : decode c_DC_border 12 = .ok (.getfield 23, 3) := by decide +kernel
theorem d_DC_border_15 : decode c_DC_border 15 = .ok (.iload_n 2, 1) := by decide +kernel
theorem d_DC_border_16 : decode c_DC_border 16 = .ok (.invokevirtual 105, 3) := by decide +kernel
theorem d_DC_border_19 : decode c_DC_border 19 = .ok (.ifCond .eq 8, 3) := by decide +kernel
theorem d_DC_border_22 : decode c_DC_border 22 = .ok (.iload_n 1, 1) := by decide +kernel
theorem d_DC_border_23 : decode c_DC_border 23 = .ok (.iload_n 2, 1) := by decide +kernel
theorem d_DC_border_24 : decode c_DC_border 24 = .ok (.if_icmp .ne 5, 3) := by decide +kernel
theorem d_DC_border_27 : decode c_DC_border 27 = .ok (.iconst (-1), 1) := by decide +kernel
theorem d_DC_border_28 : decode c_DC_border 28 = .ok (.ireturn, 1) := by decide +kernel
theorem d_DC_border_29 : decode c_DC_border 29 = .ok (.iload_n 3, 1) := by decide +kernel
theorem d_DC_border_30 : decode c_DC_border 30 = .ok (.iconst 1, 1) := by decide +kernel
theorem d_DC_border_31 : decode c_DC_border 31 = .ok (.bipush 100, 2) := by decide +kernel
theorem d_DC_border_33 : decode c_DC_border 33 = .ok (.invokestatic 82, 3) := by decide +kernel
theorem d_DC_border_36 : decode c_DC_border 36 = .ok (.ifCond .eq 19, 3) := by decide +kernel
theorem d_DC_border_39 : decode c_DC_border 39 = .ok (.aload_n 0, 1) := by decide +kernel
theorem d_DC_border_40 : decode c_DC_border 40 = .ok (.getfield 23, 3) := by decide +kernel
theorem d_DC_border_43 : decode c_DC_border 43 = .ok (.getfield 108, 3) := by decide +kernel
theorem d_DC_border_46 : decode c_DC_border 46 = .ok (.iload_n 1, 1) := by decide +kernel
theorem d_DC_border_47 : decode c_DC_border 47 = .ok (.iaload, 1) := by decide +kernel
theorem d_DC_border_48 : decode c_DC_border 48 = .ok (.iload_n 2, 1) := by decide +kernel
theorem d_DC_border_49 : decode c_DC_border 49 = .ok (.invokestatic 112, 3) := by decide +kernel
theorem d_DC_border_52 : decode c_DC_border 52 = .ok (.ifCond .eq 5, 3) := by decide +kernel
theorem d_DC_border_55 : decode c_DC_border 55 = .ok (.iconst (-1), 1) := by decide +kernel
theorem d_DC_border_56 : decode c_DC_border 56 = .ok (.ireturn, 1) := by decide +kernel
theorem d_DC_border_57 : decode c_DC_border 57 = .ok (.aload_n 0, 1) := by decide +kernel
theorem d_DC_border_58 : decode c_DC_border 58 = .ok (.getfield 23, 3) := by decide +kernel
theorem d_DC_border_61 : decode c_DC_border 61 = .ok (.getfield 118, 3) := by decide +kernel
theorem d_DC_border_64 : decode c_DC_border 64 = .ok (.bipush 100, 2) := by decide +kernel
theorem d_DC_border_66 : decode c_DC_border 66 = .ok (.if_icmp .lt 6, 3) := by decide +kernel
theorem d_DC_border_69 : decode c_DC_border 69 = .ok (.bipush (-2), 2) := by decide +kernel
theorem d_DC_border_71 : decode c_DC_border 71 = .ok (.ireturn, 1) := by decide +kernel
theorem d_DC_border_72 : decode c_DC_border 72 = .ok (.aload_n 0, 1) := by decide +kernel
theorem d_DC_border_73 : decode c_DC_border 73 = .ok (.getfield 53, 3) := by decide +kernel
theorem d_DC_border_76 : decode c_DC_border 76 = .ok (.invokevirtual 102, 3) := by decide +kernel
theorem d_DC_border_79 : decode c_DC_border 79 = .ok (.aload_n 0, 1) := by decide +kernel
theorem d_DC_border_80 : decode c_DC_border 80 = .ok (.getfield 23, 3) := by decide +kernel
theorem d_DC_border_83 : decode c_DC_border 83 = .ok (.iload_n 1, 1) := by decide +kernel
theorem d_DC_border_84 : decode c_DC_border 84 = .ok (.iload_n 2, 1) := by decide +kernel
theorem d_DC_border_85 : decode c_DC_border 85 = .ok (.iload_n 3, 1) := by decide +kernel
theorem d_DC_border_86 : decode c_DC_border 86 = .ok (.invokevirtual 121, 3) := by decide +kernel
theorem d_DC_border_89 : decode c_DC_border 89 = .ok (.ireturn, 1) := by decide +kernel
theorem d_DC_law_0 : decode c_DC_law 0 = .ok (.iload_n 1, 1) := by decide +kernel
theorem d_DC_law_1 : decode c_DC_law 1 = .ok (.iconst 1, 1) := by decide +kernel
theorem d_DC_law_2 : decode c_DC_law 2 = .ok (.bipush 6, 2) := by decide +kernel
theorem d_DC_law_4 : decode c_DC_law 4 = .ok (.invokestatic 82, 3) := by decide +kernel
theorem d_DC_law_7 : decode c_DC_law 7 = .ok (.ifCond .eq 14, 3) := by decide +kernel
theorem d_DC_law_10 : decode c_DC_law 10 = .ok (.iload_n 2, 1) := by decide +kernel
theorem d_DC_law_11 : decode c_DC_law 11 = .ok (.iconst 0, 1) := by decide +kernel
theorem d_DC_law_12 : decode c_DC_law 12 = .ok (.sipush 1000, 3) := by decide +kernel
theorem d_DC_law_15 : decode c_DC_law 15 = .ok (.invokestatic 82, 3) := by decide +kernel
theorem d_DC_law_18 : decode c_DC_law 18 = .ok (.ifCond .ne 5, 3) := by decide +kernel
theorem d_DC_law_21 : decode c_DC_law 21 = .ok (.iconst (-1), 1) := by decide +kernel
theorem d_DC_law_22 : decode c_DC_law 22 = .ok (.ireturn, 1) := by decide +kernel
theorem d_DC_law_23 : decode c_DC_law 23 = .ok (.aload_n 0, 1) := by decide +kernel
theorem d_DC_law_24 : decode c_DC_law 24 = .ok (.getfield 29, 3) := by decide +kernel
theorem d_DC_law_27 : decode c_DC_law 27 = .ok (.iload_n 1, 1) := by decide +kernel
theorem d_DC_law_28 : decode c_DC_law 28 = .ok (.putfield 125, 3) := by decide +kernel
theorem d_DC_law_31 : decode c_DC_law 31 = .ok (.aload_n 0, 1) := by decide +kernel
theorem d_DC_law_32 : decode c_DC_law 32 = .ok (.getfield 29, 3) := by decide +kernel
theorem d_DC_law_35 : decode c_DC_law 35 = .ok (.iload_n 2, 1) := by decide +kernel
theorem d_DC_law_36 : decode c_DC_law 36 = .ok (.putfield 128, 3) := by decide +kernel
theorem d_DC_law_39 : decode c_DC_law 39 = .ok (.aload_n 0, 1) := by decide +kernel
theorem d_DC_law_40 : decode c_DC_law 40 = .ok (.getfield 29, 3) := by decide +kernel
theorem d_DC_law_43 : decode c_DC_law 43 = .ok (.invokevirtual 131, 3) := by decide +kernel
theorem d_DC_law_46 : decode c_DC_law 46 = .ok (.aload_n 0, 1) := by decide +kernel
theorem d_DC_law_47 : decode c_DC_law 47 = .ok (.getfield 36, 3) := by decide +kernel
theorem d_DC_law_50 : decode c_DC_law 50 = .ok (.aload_n 0, 1) := by decide +kernel
theorem d_DC_law_51 : decode c_DC_law 51 = .ok (.getfield 23, 3) := by decide +kernel
theorem d_DC_law_54 : decode c_DC_law 54 = .ok (.invokevirtual 134, 3) := by decide +kernel
theorem d_DC_law_57 : decode c_DC_law 57 = .ok (.invokevirtual 138, 3) := by decide +kernel
theorem d_DC_law_60 : decode c_DC_law 60 = .ok (.aload_n 0, 1) := by decide +kernel
theorem d_DC_law_61 : decode c_DC_law 61 = .ok (.getfield 53, 3) := by decide +kernel
theorem d_DC_law_64 : decode c_DC_law 64 = .ok (.invokevirtual 102, 3) := by decide +kernel
theorem d_DC_law_67 : decode c_DC_law 67 = .ok (.iconst 1, 1) := by decide +kernel
theorem d_DC_law_68 : decode c_DC_law 68 = .ok (.ireturn, 1) := by decide +kernel
theorem d_DC_keep_0 : decode c_DC_keep 0 = .ok (.iload_n 1, 1) := by decide +kernel
theorem d_DC_keep_1 : decode c_DC_keep 1 = .ok (.invokestatic 86, 3) := by decide +kernel
theorem d_DC_keep_4 : decode c_DC_keep 4 = .ok (.ifCond .eq 12, 3) := by decide +kernel
theorem d_DC_keep_7 : decode c_DC_keep 7 = .ok (.iload_n 2, 1) := by decide +kernel
theorem d_DC_keep_8 : decode c_DC_keep 8 = .ok (.iconst 0, 1) := by decide +kernel
theorem d_DC_keep_9 : decode c_DC_keep 9 = .ok (.iconst 1, 1) := by decide +kernel
theorem d_DC_keep_10 : decode c_DC_keep 10 = .ok (.invokestatic 82, 3) := by decide +kernel
theorem d_DC_keep_13 : decode c_DC_keep 13 = .ok (.ifCond .ne 5, 3) := by decide +kernel
theorem d_DC_keep_16 : decode c_DC_keep 16 = .ok (.iconst (-1), 1) := by decide +kernel
theorem d_DC_keep_17 : decode c_DC_keep 17 = .ok (.ireturn, 1) := by decide +kernel
theorem d_DC_keep_18 : decode c_DC_keep 18 = .ok (.aload_n 0, 1) := by decide +kernel
theorem d_DC_keep_19 : decode c_DC_keep 19 = .ok (.getfield 29, 3) := by decide +kernel
theorem d_DC_keep_22 : decode c_DC_keep 22 = .ok (.getfield 142, 3) := by decide +kernel
theorem d_DC_keep_25 : decode c_DC_keep 25 = .ok (.iload_n 1, 1) := by decide +kernel
theorem d_DC_keep_26 : decode c_DC_keep 26 = .ok (.baload, 1) := by decide +kernel
theorem d_DC_keep_27 : decode c_DC_keep 27 = .ok (.ifCond .eq 7, 3) := by decide +kernel
theorem d_DC_keep_30 : decode c_DC_keep 30 = .ok (.iconst 1, 1) := by decide +kernel
theorem d_DC_keep_31 : decode c_DC_keep 31 = .ok (.goto 4, 3) := by decide +kernel
theorem d_DC_keep_34 : decode c_DC_keep 34 = .ok (.iconst 0, 1) := by decide +kernel
theorem d_DC_keep_35 : decode c_DC_keep 35 = .ok (.istore_n 3, 1) := by decide +kernel
theorem d_DC_keep_36 : decode c_DC_keep 36 = .ok (.aload_n 0, 1) := by decide +kernel
theorem d_DC_keep_37 : decode c_DC_keep 37 = .ok (.getfield 29, 3) := by decide +kernel
theorem d_DC_keep_40 : decode c_DC_keep 40 = .ok (.getfield 142, 3) := by decide +kernel
theorem d_DC_keep_43 : decode c_DC_keep 43 = .ok (.iload_n 1, 1) := by decide +kernel
theorem d_DC_keep_44 : decode c_DC_keep 44 = .ok (.iload_n 2, 1) := by decide +kernel
theorem d_DC_keep_45 : decode c_DC_keep 45 = .ok (.iconst 1, 1) := by decide +kernel
theorem d_DC_keep_46 : decode c_DC_keep 46 = .ok (.if_icmp .ne 7, 3) := by decide +kernel
theorem d_DC_keep_49 : decode c_DC_keep 49 = .ok (.iconst 1, 1) := by decide +kernel
theorem d_DC_keep_50 : decode c_DC_keep 50 = .ok (.goto 4, 3) := by decide +kernel
theorem d_DC_keep_53 : decode c_DC_keep 53 = .ok (.iconst 0, 1) := by decide +kernel
theorem d_DC_keep_54 : decode c_DC_keep 54 = .ok (.bastore, 1) := by decide +kernel
theorem d_DC_keep_55 : decode c_DC_keep 55 = .ok (.aload_n 0, 1) := by decide +kernel
theorem d_DC_keep_56 : decode c_DC_keep 56 = .ok (.getfield 53, 3) := by decide +kernel
theorem d_DC_keep_59 : decode c_DC_keep 59 = .ok (.invokevirtual 102, 3) := by decide +kernel
theorem d_DC_keep_62 : decode c_DC_keep 62 = .ok (.iload_n 3, 1) := by decide +kernel
theorem d_DC_keep_63 : decode c_DC_keep 63 = .ok (.ireturn, 1) := by decide +kernel
theorem d_DC_cuts_0 : decode c_DC_cuts 0 = .ok (.iload_n 1, 1) := by decide +kernel
theorem d_DC_cuts_1 : decode c_DC_cuts 1 = .ok (.iconst 0, 1) := by decide +kernel
theorem d_DC_cuts_2 : decode c_DC_cuts 2 = .ok (.bipush 10, 2) := by decide +kernel
theorem d_DC_cuts_4 : decode c_DC_cuts 4 = .ok (.invokestatic 82, 3) := by decide +kernel
theorem d_DC_cuts_7 : decode c_DC_cuts 7 = .ok (.ifCond .ne 5, 3) := by decide +kernel
theorem d_DC_cuts_10 : decode c_DC_cuts 10 = .ok (.iconst (-1), 1) := by decide +kernel
theorem d_DC_cuts_11 : decode c_DC_cuts 11 = .ok (.ireturn, 1) := by decide +kernel
theorem d_DC_cuts_12 : decode c_DC_cuts 12 = .ok (.aload_n 0, 1) := by decide +kernel
theorem d_DC_cuts_13 : decode c_DC_cuts 13 = .ok (.getfield 29, 3) := by decide +kernel
theorem d_DC_cuts_16 : decode c_DC_cuts 16 = .ok (.getfield 146, 3) := by decide +kernel
theorem d_DC_cuts_19 : decode c_DC_cuts 19 = .ok (.istore_n 2, 1) := by decide +kernel
theorem d_DC_cuts_20 : decode c_DC_cuts 20 = .ok (.aload_n 0, 1) := by decide +kernel
theorem d_DC_cuts_21 : decode c_DC_cuts 21 = .ok (.getfield 29, 3) := by decide +kernel
theorem d_DC_cuts_24 : decode c_DC_cuts 24 = .ok (.iload_n 1, 1) := by decide +kernel
theorem d_DC_cuts_25 : decode c_DC_cuts 25 = .ok (.putfield 146, 3) := by decide +kernel
theorem d_DC_cuts_28 : decode c_DC_cuts 28 = .ok (.aload_n 0, 1) := by decide +kernel
theorem d_DC_cuts_29 : decode c_DC_cuts 29 = .ok (.getfield 53, 3) := by decide +kernel
theorem d_DC_cuts_32 : decode c_DC_cuts 32 = .ok (.invokevirtual 102, 3) := by decide +kernel
theorem d_DC_cuts_35 : decode c_DC_cuts 35 = .ok (.iload_n 2, 1) := by decide +kernel
theorem d_DC_cuts_36 : decode c_DC_cuts 36 = .ok (.ireturn, 1) := by decide +kernel
theorem d_DC_fix_0 : decode c_DC_fix 0 = .ok (.aload_n 0, 1) := by decide +kernel
theorem d_DC_fix_1 : decode c_DC_fix 1 = .ok (.getfield 23, 3) := by decide +kernel
theorem d_DC_fix_4 : decode c_DC_fix 4 = .ok (.iload_n 1, 1) := by decide +kernel
theorem d_DC_fix_5 : decode c_DC_fix 5 = .ok (.invokevirtual 105, 3) := by decide +kernel
theorem d_DC_fix_8 : decode c_DC_fix 8 = .ok (.ifCond .eq 19, 3) := by decide +kernel
theorem d_DC_fix_11 : decode c_DC_fix 11 = .ok (.iload_n 2, 1) := by decide +kernel
theorem d_DC_fix_12 : decode c_DC_fix 12 = .ok (.iconst (-1), 1) := by decide +kernel
theorem d_DC_fix_13 : decode c_DC_fix 13 = .ok (.if_icmp .eq 16, 3) := by decide +kernel
theorem d_DC_fix_16 : decode c_DC_fix 16 = .ok (.aload_n 0, 1) := by decide +kernel
theorem d_DC_fix_17 : decode c_DC_fix 17 = .ok (.getfield 29, 3) := by decide +kernel
theorem d_DC_fix_20 : decode c_DC_fix 20 = .ok (.iload_n 2, 1) := by decide +kernel
theorem d_DC_fix_21 : decode c_DC_fix 21 = .ok (.invokevirtual 149, 3) := by decide +kernel
theorem d_DC_fix_24 : decode c_DC_fix 24 = .ok (.ifCond .ne 5, 3) := by decide +kernel
theorem d_DC_fix_27 : decode c_DC_fix 27 = .ok (.iconst (-1), 1) := by decide +kernel
theorem d_DC_fix_28 : decode c_DC_fix 28 = .ok (.ireturn, 1) := by decide +kernel
theorem d_DC_fix_29 : decode c_DC_fix 29 = .ok (.aload_n 0, 1) := by decide +kernel
theorem d_DC_fix_30 : decode c_DC_fix 30 = .ok (.getfield 29, 3) := by decide +kernel
theorem d_DC_fix_33 : decode c_DC_fix 33 = .ok (.getfield 152, 3) := by decide +kernel
theorem d_DC_fix_36 : decode c_DC_fix 36 = .ok (.iload_n 1, 1) := by decide +kernel
theorem d_DC_fix_37 : decode c_DC_fix 37 = .ok (.iaload, 1) := by decide +kernel
theorem d_DC_fix_38 : decode c_DC_fix 38 = .ok (.istore_n 3, 1) := by decide +kernel
theorem d_DC_fix_39 : decode c_DC_fix 39 = .ok (.aload_n 0, 1) := by decide +kernel
theorem d_DC_fix_40 : decode c_DC_fix 40 = .ok (.getfield 29, 3) := by decide +kernel
theorem d_DC_fix_43 : decode c_DC_fix 43 = .ok (.getfield 152, 3) := by decide +kernel
theorem d_DC_fix_46 : decode c_DC_fix 46 = .ok (.iload_n 1, 1) := by decide +kernel
theorem d_DC_fix_47 : decode c_DC_fix 47 = .ok (.iload_n 2, 1) := by decide +kernel
theorem d_DC_fix_48 : decode c_DC_fix 48 = .ok (.iastore, 1) := by decide +kernel
theorem d_DC_fix_49 : decode c_DC_fix 49 = .ok (.iload_n 3, 1) := by decide +kernel
theorem d_DC_fix_50 : decode c_DC_fix 50 = .ok (.ireturn, 1) := by decide +kernel
theorem d_DC_people_0 : decode c_DC_people 0 = .ok (.aload_n 0, 1) := by decide +kernel
theorem d_DC_people_1 : decode c_DC_people 1 = .ok (.getfield 23, 3) := by decide +kernel
theorem d_DC_people_4 : decode c_DC_people 4 = .ok (.iload_n 1, 1) := by decide +kernel
theorem d_DC_people_5 : decode c_DC_people 5 = .ok (.invokevirtual 105, 3) := by decide +kernel
theorem d_DC_people_8 : decode c_DC_people 8 = .ok (.ifCond .eq 14, 3) := by decide +kernel
theorem d_DC_people_11 : decode c_DC_people 11 = .ok (.iload_n 2, 1) := by decide +kernel
theorem d_DC_people_12 : decode c_DC_people 12 = .ok (.iconst 0, 1) := by decide +kernel
theorem d_DC_people_13 : decode c_DC_people 13 = .ok (.sipush 1000, 3) := by decide +kernel
theorem d_DC_people_16 : decode c_DC_people 16 = .ok (.invokestatic 82, 3) := by decide +kernel
theorem d_DC_people_19 : decode c_DC_people 19 = .ok (.ifCond .ne 5, 3) := by decide +kernel
theorem d_DC_people_22 : decode c_DC_people 22 = .ok (.iconst (-1), 1) := by decide +kernel
theorem d_DC_people_23 : decode c_DC_people 23 = .ok (.ireturn, 1) := by decide +kernel
theorem d_DC_people_24 : decode c_DC_people 24 = .ok (.aload_n 0, 1) := by decide +kernel
theorem d_DC_people_25 : decode c_DC_people 25 = .ok (.getfield 53, 3) := by decide +kernel
theorem d_DC_people_28 : decode c_DC_people 28 = .ok (.invokevirtual 102, 3) := by decide +kernel
theorem d_DC_people_31 : decode c_DC_people 31 = .ok (.aload_n 0, 1) := by decide +kernel
theorem d_DC_people_32 : decode c_DC_people 32 = .ok (.getfield 23, 3) := by decide +kernel
theorem d_DC_people_35 : decode c_DC_people 35 = .ok (.iload_n 1, 1) := by decide +kernel
theorem d_DC_people_36 : decode c_DC_people 36 = .ok (.iload_n 2, 1) := by decide +kernel
theorem d_DC_people_37 : decode c_DC_people 37 = .ok (.invokevirtual 155, 3) := by decide +kernel
theorem d_DC_people_40 : decode c_DC_people 40 = .ok (.ireturn, 1) := by decide +kernel
theorem d_DC_put_0 : decode c_DC_put 0 = .ok (.aload_n 0, 1) := by decide +kernel
theorem d_DC_put_1 : decode c_DC_put 1 = .ok (.getfield 23, 3) := by decide +kernel
theorem d_DC_put_4 : decode c_DC_put 4 = .ok (.iload_n 1, 1) := by decide +kernel
theorem d_DC_put_5 : decode c_DC_put 5 = .ok (.invokevirtual 105, 3) := by decide +kernel
theorem d_DC_put_8 : decode c_DC_put 8 = .ok (.ifCond .eq 14, 3) := by decide +kernel
theorem d_DC_put_11 : decode c_DC_put 11 = .ok (.aload_n 0, 1) := by decide +kernel
theorem d_DC_put_12 : decode c_DC_put 12 = .ok (.getfield 29, 3) := by decide +kernel
theorem d_DC_put_15 : decode c_DC_put 15 = .ok (.iload_n 2, 1) := by decide +kernel
theorem d_DC_put_16 : decode c_DC_put 16 = .ok (.invokevirtual 149, 3) := by decide +kernel
theorem d_DC_put_19 : decode c_DC_put 19 = .ok (.ifCond .ne 5, 3) := by decide +kernel
theorem d_DC_put_22 : decode c_DC_put 22 = .ok (.iconst (-1), 1) := by decide +kernel
theorem d_DC_put_23 : decode c_DC_put 23 = .ok (.ireturn, 1) := by decide +kernel
theorem d_DC_put_24 : decode c_DC_put 24 = .ok (.aload_n 0, 1) := by decide +kernel
theorem d_DC_put_25 : decode c_DC_put 25 = .ok (.getfield 36, 3) := by decide +kernel
theorem d_DC_put_28 : decode c_DC_put 28 = .ok (.getfield 159, 3) := by decide +kernel
theorem d_DC_put_31 : decode c_DC_put 31 = .ok (.iload_n 1, 1) := by decide +kernel
theorem d_DC_put_32 : decode c_DC_put 32 = .ok (.iaload, 1) := by decide +kernel
theorem d_DC_put_33 : decode c_DC_put 33 = .ok (.istore_n 3, 1) := by decide +kernel
theorem d_DC_put_34 : decode c_DC_put 34 = .ok (.aload_n 0, 1) := by decide +kernel
theorem d_DC_put_35 : decode c_DC_put 35 = .ok (.getfield 36, 3) := by decide +kernel
theorem d_DC_put_38 : decode c_DC_put 38 = .ok (.iload_n 1, 1) := by decide +kernel
theorem d_DC_put_39 : decode c_DC_put 39 = .ok (.iload_n 2, 1) := by decide +kernel
theorem d_DC_put_40 : decode c_DC_put 40 = .ok (.invokevirtual 98, 3) := by decide +kernel
theorem d_DC_put_43 : decode c_DC_put 43 = .ok (.iload_n 3, 1) := by decide +kernel
theorem d_DC_put_44 : decode c_DC_put 44 = .ok (.ireturn, 1) := by decide +kernel
theorem d_DC_at_0 : decode c_DC_at 0 = .ok (.aload_n 0, 1) := by decide +kernel
theorem d_DC_at_1 : decode c_DC_at 1 = .ok (.getfield 23, 3) := by decide +kernel
theorem d_DC_at_4 : decode c_DC_at 4 = .ok (.iload_n 1, 1) := by decide +kernel
theorem d_DC_at_5 : decode c_DC_at 5 = .ok (.invokevirtual 105, 3) := by decide +kernel
theorem d_DC_at_8 : decode c_DC_at 8 = .ok (.ifCond .eq 15, 3) := by decide +kernel
theorem d_DC_at_11 : decode c_DC_at 11 = .ok (.aload_n 0, 1) := by decide +kernel
theorem d_DC_at_12 : decode c_DC_at 12 = .ok (.getfield 36, 3) := by decide +kernel
theorem d_DC_at_15 : decode c_DC_at 15 = .ok (.getfield 159, 3) := by decide +kernel
theorem d_DC_at_18 : decode c_DC_at 18 = .ok (.iload_n 1, 1) := by decide +kernel
theorem d_DC_at_19 : decode c_DC_at 19 = .ok (.iaload, 1) := by decide +kernel
theorem d_DC_at_20 : decode c_DC_at 20 = .ok (.goto 4, 3) := by decide +kernel
theorem d_DC_at_23 : decode c_DC_at 23 = .ok (.iconst (-1), 1) := by decide +kernel
theorem d_DC_at_24 : decode c_DC_at 24 = .ok (.ireturn, 1) := by decide +kernel
theorem d_DC_lawful_0 : decode c_DC_lawful 0 = .ok (.aload_n 0, 1) := by decide +kernel
theorem d_DC_lawful_1 : decode c_DC_lawful 1 = .ok (.getfield 23, 3) := by decide +kernel
theorem d_DC_lawful_4 : decode c_DC_lawful 4 = .ok (.getfield 90, 3) := by decide +kernel
theorem d_DC_lawful_7 : decode c_DC_lawful 7 = .ok (.ifCond .ne 8, 3) := by decide +kernel
theorem d_DC_lawful_10 : decode c_DC_lawful 10 = .ok (.bipush (-5), 2) := by decide +kernel
theorem d_DC_lawful_12 : decode c_DC_lawful 12 = .ok (.goto 14, 3) := by decide +kernel
theorem d_DC_lawful_15 : decode c_DC_lawful 15 = .ok (.aload_n 0, 1) := by decide +kernel
theorem d_DC_lawful_16 : decode c_DC_lawful 16 = .ok (.getfield 40, 3) := by decide +kernel
theorem d_DC_lawful_19 : decode c_DC_lawful 19 = .ok (.aload_n 0, 1) := by decide +kernel
theorem d_DC_lawful_20 : decode c_DC_lawful 20 = .ok (.getfield 36, 3) := by decide +kernel
theorem d_DC_lawful_23 : decode c_DC_lawful 23 = .ok (.invokevirtual 162, 3) := by decide +kernel
theorem d_DC_lawful_26 : decode c_DC_lawful 26 = .ok (.ireturn, 1) := by decide +kernel
theorem d_DC_why_0 : decode c_DC_why 0 = .ok (.aload_n 0, 1) := by decide +kernel
theorem d_DC_why_1 : decode c_DC_why 1 = .ok (.getfield 23, 3) := by decide +kernel
theorem d_DC_why_4 : decode c_DC_why 4 = .ok (.getfield 90, 3) := by decide +kernel
theorem d_DC_why_7 : decode c_DC_why 7 = .ok (.ifCond .ne 7, 3) := by decide +kernel
theorem d_DC_why_10 : decode c_DC_why 10 = .ok (.iconst 0, 1) := by decide +kernel
theorem d_DC_why_11 : decode c_DC_why 11 = .ok (.goto 14, 3) := by decide +kernel
theorem d_DC_why_14 : decode c_DC_why 14 = .ok (.aload_n 0, 1) := by decide +kernel
theorem d_DC_why_15 : decode c_DC_why 15 = .ok (.getfield 40, 3) := by decide +kernel
theorem d_DC_why_18 : decode c_DC_why 18 = .ok (.aload_n 0, 1) := by decide +kernel
theorem d_DC_why_19 : decode c_DC_why 19 = .ok (.getfield 36, 3) := by decide +kernel
theorem d_DC_why_22 : decode c_DC_why 22 = .ok (.invokevirtual 162, 3) := by decide +kernel
theorem d_DC_why_25 : decode c_DC_why 25 = .ok (.istore_n 2, 1) := by decide +kernel
theorem d_DC_why_26 : decode c_DC_why 26 = .ok (.iload_n 2, 1) := by decide +kernel
theorem d_DC_why_27 : decode c_DC_why 27 = .ok (.ifCond .ne 5, 3) := by decide +kernel
theorem d_DC_why_30 : decode c_DC_why 30 = .ok (.iconst (-1), 1) := by decide +kernel
theorem d_DC_why_31 : decode c_DC_why 31 = .ok (.ireturn, 1) := by decide +kernel
theorem d_DC_why_32 : decode c_DC_why 32 = .ok (.aload_n 0, 1) := by decide +kernel
theorem d_DC_why_33 : decode c_DC_why 33 = .ok (.getfield 40, 3) := by decide +kernel
theorem d_DC_why_36 : decode c_DC_why 36 = .ok (.iload_n 2, 1) := by decide +kernel
theorem d_DC_why_37 : decode c_DC_why 37 = .ok (.aload_n 0, 1) := by decide +kernel
theorem d_DC_why_38 : decode c_DC_why 38 = .ok (.getfield 36, 3) := by decide +kernel
theorem d_DC_why_41 : decode c_DC_why 41 = .ok (.invokevirtual 166, 3) := by decide +kernel
theorem d_DC_why_44 : decode c_DC_why 44 = .ok (.istore_n 3, 1) := by decide +kernel
theorem d_DC_why_45 : decode c_DC_why 45 = .ok (.iload_n 1, 1) := by decide +kernel
theorem d_DC_why_46 : decode c_DC_why 46 = .ok (.ifCond .ne 5, 3) := by decide +kernel
theorem d_DC_why_49 : decode c_DC_why 49 = .ok (.iload_n 3, 1) := by decide +kernel
theorem d_DC_why_50 : decode c_DC_why 50 = .ok (.ireturn, 1) := by decide +kernel
theorem d_DC_why_51 : decode c_DC_why 51 = .ok (.iload_n 2, 1) := by decide +kernel
theorem d_DC_why_52 : decode c_DC_why 52 = .ok (.iconst 2, 1) := by decide +kernel
theorem d_DC_why_53 : decode c_DC_why 53 = .ok (.if_icmp .ne 23, 3) := by decide +kernel
theorem d_DC_why_56 : decode c_DC_why 56 = .ok (.aload_n 0, 1) := by decide +kernel
theorem d_DC_why_57 : decode c_DC_why 57 = .ok (.getfield 40, 3) := by decide +kernel
theorem d_DC_why_60 : decode c_DC_why 60 = .ok (.aload_n 0, 1) := by decide +kernel
theorem d_DC_why_61 : decode c_DC_why 61 = .ok (.getfield 36, 3) := by decide +kernel
theorem d_DC_why_64 : decode c_DC_why 64 = .ok (.getfield 170, 3) := by decide +kernel
theorem d_DC_why_67 : decode c_DC_why 67 = .ok (.iload_n 3, 1) := by decide +kernel
theorem d_DC_why_68 : decode c_DC_why 68 = .ok (.iaload, 1) := by decide +kernel
theorem d_DC_why_69 : decode c_DC_why 69 = .ok (.iload_n 1, 1) := by decide +kernel
theorem d_DC_why_70 : decode c_DC_why 70 = .ok (.invokevirtual 173, 3) := by decide +kernel
theorem d_DC_why_73 : decode c_DC_why 73 = .ok (.goto 4, 3) := by decide +kernel
theorem d_DC_why_76 : decode c_DC_why 76 = .ok (.iconst (-1), 1) := by decide +kernel
theorem d_DC_why_77 : decode c_DC_why 77 = .ok (.ireturn, 1) := by decide +kernel
theorem d_DC_measure_0 : decode c_DC_measure 0 = .ok (.iload_n 1, 1) := by decide +kernel
theorem d_DC_measure_1 : decode c_DC_measure 1 = .ok (.invokestatic 176, 3) := by decide +kernel
theorem d_DC_measure_4 : decode c_DC_measure 4 = .ok (.ifCond .eq 18, 3) := by decide +kernel
theorem d_DC_measure_7 : decode c_DC_measure 7 = .ok (.aload_n 0, 1) := by decide +kernel
theorem d_DC_measure_8 : decode c_DC_measure 8 = .ok (.getfield 44, 3) := by decide +kernel
theorem d_DC_measure_11 : decode c_DC_measure 11 = .ok (.aload_n 0, 1) := by decide +kernel
theorem d_DC_measure_12 : decode c_DC_measure 12 = .ok (.getfield 36, 3) := by decide +kernel
theorem d_DC_measure_15 : decode c_DC_measure 15 = .ok (.iload_n 1, 1) := by decide +kernel
theorem d_DC_measure_16 : decode c_DC_measure 16 = .ok (.invokevirtual 179, 3) := by decide +kernel
theorem d_DC_measure_19 : decode c_DC_measure 19 = .ok (.goto 4, 3) := by decide +kernel
theorem d_DC_measure_22 : decode c_DC_measure 22 = .ok (.iconst (-1), 1) := by decide +kernel
theorem d_DC_measure_23 : decode c_DC_measure 23 = .ok (.ireturn, 1) := by decide +kernel
theorem d_DC_district_0 : decode c_DC_district 0 = .ok (.aload_n 0, 1) := by decide +kernel
theorem d_DC_district_1 : decode c_DC_district 1 = .ok (.getfield 29, 3) := by decide +kernel
theorem d_DC_district_4 : decode c_DC_district 4 = .ok (.iload_n 1, 1) := by decide +kernel
theorem d_DC_district_5 : decode c_DC_district 5 = .ok (.invokevirtual 149, 3) := by decide +kernel
theorem d_DC_district_8 : decode c_DC_district 8 = .ok (.ifCond .ne 5, 3) := by decide +kernel
theorem d_DC_district_11 : decode c_DC_district 11 = .ok (.iconst (-1), 1) := by decide +kernel
theorem d_DC_district_12 : decode c_DC_district 12 = .ok (.ireturn, 1) := by decide +kernel
theorem d_DC_district_13 : decode c_DC_district 13 = .ok (.aload_n 0, 1) := by decide +kernel
theorem d_DC_district_14 : decode c_DC_district 14 = .ok (.getfield 36, 3) := by decide +kernel
theorem d_DC_district_17 : decode c_DC_district 17 = .ok (.getfield 170, 3) := by decide +kernel
theorem d_DC_district_20 : decode c_DC_district 20 = .ok (.iload_n 1, 1) := by decide +kernel
theorem d_DC_district_21 : decode c_DC_district 21 = .ok (.iaload, 1) := by decide +kernel
theorem d_DC_district_22 : decode c_DC_district 22 = .ok (.istore_n 3, 1) := by decide +kernel
theorem d_DC_district_23 : decode c_DC_district 23 = .ok (.iload_n 2, 1) := by decide +kernel
theorem d_DC_district_24 : decode c_DC_district 24 = .ok (.tableswitch 132 0 7 #[48, 53, 65, 77, 89, 101, 110, 127], 48) := by decide +kernel
theorem d_DC_district_72 : decode c_DC_district 72 = .ok (.iload_n 3, 1) := by decide +kernel
theorem d_DC_district_73 : decode c_DC_district 73 = .ok (.invokestatic 183, 3) := by decide +kernel
theorem d_DC_district_76 : decode c_DC_district 76 = .ok (.ireturn, 1) := by decide +kernel
theorem d_DC_district_77 : decode c_DC_district 77 = .ok (.aload_n 0, 1) := by decide +kernel
theorem d_DC_district_78 : decode c_DC_district 78 = .ok (.getfield 23, 3) := by decide +kernel
theorem d_DC_district_81 : decode c_DC_district 81 = .ok (.getfield 187, 3) := by decide +kernel
theorem d_DC_district_84 : decode c_DC_district 84 = .ok (.iload_n 3, 1) := by decide +kernel
theorem d_DC_district_85 : decode c_DC_district 85 = .ok (.invokestatic 190, 3) := by decide +kernel
theorem d_DC_district_88 : decode c_DC_district 88 = .ok (.ireturn, 1) := by decide +kernel
theorem d_DC_district_89 : decode c_DC_district 89 = .ok (.aload_n 0, 1) := by decide +kernel
theorem d_DC_district_90 : decode c_DC_district 90 = .ok (.getfield 23, 3) := by decide +kernel
theorem d_DC_district_93 : decode c_DC_district 93 = .ok (.getfield 194, 3) := by decide +kernel
theorem d_DC_district_96 : decode c_DC_district 96 = .ok (.iload_n 3, 1) := by decide +kernel
theorem d_DC_district_97 : decode c_DC_district 97 = .ok (.invokestatic 190, 3) := by decide +kernel
theorem d_DC_district_100 : decode c_DC_district 100 = .ok (.ireturn, 1) := by decide +kernel
theorem d_DC_district_101 : decode c_DC_district 101 = .ok (.aload_n 0, 1) := by decide +kernel
theorem d_DC_district_102 : decode c_DC_district 102 = .ok (.getfield 23, 3) := by decide +kernel
theorem d_DC_district_105 : decode c_DC_district 105 = .ok (.getfield 197, 3) := by decide +kernel
theorem d_DC_district_108 : decode c_DC_district 108 = .ok (.iload_n 3, 1) := by decide +kernel
theorem d_DC_district_109 : decode c_DC_district 109 = .ok (.invokestatic 190, 3) := by decide +kernel
theorem d_DC_district_112 : decode c_DC_district 112 = .ok (.ireturn, 1) := by decide +kernel
theorem d_DC_district_113 : decode c_DC_district 113 = .ok (.aload_n 0, 1) := by decide +kernel
theorem d_DC_district_114 : decode c_DC_district 114 = .ok (.getfield 23, 3) := by decide +kernel
theorem d_DC_district_117 : decode c_DC_district 117 = .ok (.getfield 200, 3) := by decide +kernel
theorem d_DC_district_120 : decode c_DC_district 120 = .ok (.iload_n 3, 1) := by decide +kernel
theorem d_DC_district_121 : decode c_DC_district 121 = .ok (.invokestatic 190, 3) := by decide +kernel
theorem d_DC_district_124 : decode c_DC_district 124 = .ok (.ireturn, 1) := by decide +kernel
theorem d_DC_district_125 : decode c_DC_district 125 = .ok (.aload_n 0, 1) := by decide +kernel
theorem d_DC_district_126 : decode c_DC_district 126 = .ok (.getfield 23, 3) := by decide +kernel
theorem d_DC_district_129 : decode c_DC_district 129 = .ok (.iload_n 3, 1) := by decide +kernel
theorem d_DC_district_130 : decode c_DC_district 130 = .ok (.invokevirtual 203, 3) := by decide +kernel
theorem d_DC_district_133 : decode c_DC_district 133 = .ok (.ireturn, 1) := by decide +kernel
theorem d_DC_district_134 : decode c_DC_district 134 = .ok (.aload_n 0, 1) := by decide +kernel
theorem d_DC_district_135 : decode c_DC_district 135 = .ok (.getfield 40, 3) := by decide +kernel
theorem d_DC_district_138 : decode c_DC_district 138 = .ok (.iload_n 3, 1) := by decide +kernel
theorem d_DC_district_139 : decode c_DC_district 139 = .ok (.invokevirtual 206, 3) := by decide +kernel
theorem d_DC_district_142 : decode c_DC_district 142 = .ok (.ifCond .eq 7, 3) := by decide +kernel
theorem d_DC_district_145 : decode c_DC_district 145 = .ok (.iconst 1, 1) := by decide +kernel
theorem d_DC_district_146 : decode c_DC_district 146 = .ok (.goto 4, 3) := by decide +kernel
theorem d_DC_district_149 : decode c_DC_district 149 = .ok (.iconst 0, 1) := by decide +kernel
theorem d_DC_district_150 : decode c_DC_district 150 = .ok (.ireturn, 1) := by decide +kernel
theorem d_DC_district_151 : decode c_DC_district 151 = .ok (.iload_n 3, 1) := by decide +kernel
theorem d_DC_district_152 : decode c_DC_district 152 = .ok (.invokestatic 209, 3) := by decide +kernel
theorem d_DC_district_155 : decode c_DC_district 155 = .ok (.ireturn, 1) := by decide +kernel
theorem d_DC_district_156 : decode c_DC_district 156 = .ok (.iconst (-1), 1) := by decide +kernel
theorem d_DC_district_157 : decode c_DC_district 157 = .ok (.ireturn, 1) := by decide +kernel
theorem d_DC_land_0 : decode c_DC_land 0 = .ok (.iload_n 1, 1) := by decide +kernel
theorem d_DC_land_1 : decode c_DC_land 1 = .ok (.tableswitch 99 0 6 #[43, 51, 59, 67, 75, 83, 91], 43) := by decide +kernel
theorem d_DC_land_44 : decode c_DC_land 44 = .ok (.aload_n 0, 1) := by decide +kernel
theorem d_DC_land_45 : decode c_DC_land 45 = .ok (.getfield 23, 3) := by decide +kernel
theorem d_DC_land_48 : decode c_DC_land 48 = .ok (.getfield 90, 3) := by decide +kernel
theorem d_DC_land_51 : decode c_DC_land 51 = .ok (.ireturn, 1) := by decide +kernel
theorem d_DC_land_52 : decode c_DC_land 52 = .ok (.aload_n 0, 1) := by decide +kernel
theorem d_DC_land_53 : decode c_DC_land 53 = .ok (.getfield 23, 3) := by decide +kernel
theorem d_DC_land_56 : decode c_DC_land 56 = .ok (.getfield 118, 3) := by decide +kernel
theorem d_DC_land_59 : decode c_DC_land 59 = .ok (.ireturn, 1) := by decide +kernel
theorem d_DC_land_60 : decode c_DC_land 60 = .ok (.aload_n 0, 1) := by decide +kernel
theorem d_DC_land_61 : decode c_DC_land 61 = .ok (.getfield 23, 3) := by decide +kernel
theorem d_DC_land_64 : decode c_DC_land 64 = .ok (.getfield 212, 3) := by decide +kernel
theorem d_DC_land_67 : decode c_DC_land 67 = .ok (.ireturn, 1) := by decide +kernel
theorem d_DC_land_68 : decode c_DC_land 68 = .ok (.aload_n 0, 1) := by decide +kernel
theorem d_DC_land_69 : decode c_DC_land 69 = .ok (.getfield 29, 3) := by decide +kernel
theorem d_DC_land_72 : decode c_DC_land 72 = .ok (.getfield 125, 3) := by decide +kernel
theorem d_DC_land_75 : decode c_DC_land 75 = .ok (.ireturn, 1) := by decide +kernel
theorem d_DC_land_76 : decode c_DC_land 76 = .ok (.aload_n 0, 1) := by decide +kernel
theorem d_DC_land_77 : decode c_DC_land 77 = .ok (.getfield 29, 3) := by decide +kernel
theorem d_DC_land_80 : decode c_DC_land 80 = .ok (.getfield 128, 3) := by decide +kernel
theorem d_DC_land_83 : decode c_DC_land 83 = .ok (.ireturn, 1) := by decide +kernel
theorem d_DC_land_84 : decode c_DC_land 84 = .ok (.aload_n 0, 1) := by decide +kernel
theorem d_DC_land_85 : decode c_DC_land 85 = .ok (.getfield 29, 3) := by decide +kernel
theorem d_DC_land_88 : decode c_DC_land 88 = .ok (.invokevirtual 215, 3) := by decide +kernel
theorem d_DC_land_91 : decode c_DC_land 91 = .ok (.ireturn, 1) := by decide +kernel
theorem d_DC_land_92 : decode c_DC_land 92 = .ok (.aload_n 0, 1) := by decide +kernel
theorem d_DC_land_93 : decode c_DC_land 93 = .ok (.getfield 29, 3) := by decide +kernel
theorem d_DC_land_96 : decode c_DC_land 96 = .ok (.getfield 146, 3) := by decide +kernel
theorem d_DC_land_99 : decode c_DC_land 99 = .ok (.ireturn, 1) := by decide +kernel
theorem d_DC_land_100 : decode c_DC_land 100 = .ok (.iconst (-1), 1) := by decide +kernel
theorem d_DC_land_101 : decode c_DC_land 101 = .ok (.ireturn, 1) := by decide +kernel
theorem d_DC_count_0 : decode c_DC_count 0 = .ok (.aload_n 0, 1) := by decide +kernel
theorem d_DC_count_1 : decode c_DC_count 1 = .ok (.ldc 218, 2) := by decide +kernel
theorem d_DC_count_3 : decode c_DC_count 3 = .ok (.invokevirtual 219, 3) := by decide +kernel
theorem d_DC_count_6 : decode c_DC_count 6 = .ok (.istore_n 1, 1) := by decide +kernel
theorem d_DC_count_7 : decode c_DC_count 7 = .ok (.iload_n 1, 1) := by decide +kernel
theorem d_DC_count_8 : decode c_DC_count 8 = .ok (.ifCond .ge 7, 3) := by decide +kernel
theorem d_DC_count_11 : decode c_DC_count 11 = .ok (.iload_n 1, 1) := by decide +kernel
theorem d_DC_count_12 : decode c_DC_count 12 = .ok (.goto 10, 3) := by decide +kernel
theorem d_DC_count_15 : decode c_DC_count 15 = .ok (.aload_n 0, 1) := by decide +kernel
theorem d_DC_count_16 : decode c_DC_count 16 = .ok (.getfield 53, 3) := by decide +kernel
theorem d_DC_count_19 : decode c_DC_count 19 = .ok (.invokevirtual 222, 3) := by decide +kernel
theorem d_DC_count_22 : decode c_DC_count 22 = .ok (.ireturn, 1) := by decide +kernel
theorem d_DC_kth_0 : decode c_DC_kth 0 = .ok (.aload_n 0, 1) := by decide +kernel
theorem d_DC_kth_1 : decode c_DC_kth 1 = .ok (.ldc 218, 2) := by decide +kernel
theorem d_DC_kth_3 : decode c_DC_kth 3 = .ok (.invokevirtual 219, 3) := by decide +kernel
theorem d_DC_kth_6 : decode c_DC_kth 6 = .ok (.istore_n 2, 1) := by decide +kernel
theorem d_DC_kth_7 : decode c_DC_kth 7 = .ok (.iload_n 2, 1) := by decide +kernel
theorem d_DC_kth_8 : decode c_DC_kth 8 = .ok (.ifCond .ge 5, 3) := by decide +kernel
theorem d_DC_kth_11 : decode c_DC_kth 11 = .ok (.iload_n 2, 1) := by decide +kernel
theorem d_DC_kth_12 : decode c_DC_kth 12 = .ok (.ireturn, 1) := by decide +kernel
theorem d_DC_kth_13 : decode c_DC_kth 13 = .ok (.aload_n 0, 1) := by decide +kernel
theorem d_DC_kth_14 : decode c_DC_kth 14 = .ok (.getfield 53, 3) := by decide +kernel
theorem d_DC_kth_17 : decode c_DC_kth 17 = .ok (.iload_n 1, 1) := by decide +kernel
theorem d_DC_kth_18 : decode c_DC_kth 18 = .ok (.invokevirtual 225, 3) := by decide +kernel
theorem d_DC_kth_21 : decode c_DC_kth 21 = .ok (.ifCond .ne 5, 3) := by decide +kernel
theorem d_DC_kth_24 : decode c_DC_kth 24 = .ok (.iconst (-1), 1) := by decide +kernel
theorem d_DC_kth_25 : decode c_DC_kth 25 = .ok (.ireturn, 1) := by decide +kernel
theorem d_DC_kth_26 : decode c_DC_kth 26 = .ok (.aload_n 0, 1) := by decide +kernel
theorem d_DC_kth_27 : decode c_DC_kth 27 = .ok (.getfield 53, 3) := by decide +kernel
theorem d_DC_kth_30 : decode c_DC_kth 30 = .ok (.iload_n 1, 1) := by decide +kernel
theorem d_DC_kth_31 : decode c_DC_kth 31 = .ok (.aload_n 0, 1) := by decide +kernel
theorem d_DC_kth_32 : decode c_DC_kth 32 = .ok (.getfield 36, 3) := by decide +kernel
theorem d_DC_kth_35 : decode c_DC_kth 35 = .ok (.invokevirtual 228, 3) := by decide +kernel
theorem d_DC_kth_38 : decode c_DC_kth 38 = .ok (.iconst 1, 1) := by decide +kernel
theorem d_DC_kth_39 : decode c_DC_kth 39 = .ok (.ireturn, 1) := by decide +kernel
theorem d_DC_which_0 : decode c_DC_which 0 = .ok (.aload_n 0, 1) := by decide +kernel
theorem d_DC_which_1 : decode c_DC_which 1 = .ok (.ldc 218, 2) := by decide +kernel
theorem d_DC_which_3 : decode c_DC_which 3 = .ok (.invokevirtual 219, 3) := by decide +kernel
theorem d_DC_which_6 : decode c_DC_which 6 = .ok (.istore_n 1, 1) := by decide +kernel
theorem d_DC_which_7 : decode c_DC_which 7 = .ok (.iload_n 1, 1) := by decide +kernel
theorem d_DC_which_8 : decode c_DC_which 8 = .ok (.ifCond .ge 7, 3) := by decide +kernel
theorem d_DC_which_11 : decode c_DC_which 11 = .ok (.iload_n 1, 1) := by decide +kernel
theorem d_DC_which_12 : decode c_DC_which 12 = .ok (.goto 14, 3) := by decide +kernel
theorem d_DC_which_15 : decode c_DC_which 15 = .ok (.aload_n 0, 1) := by decide +kernel
theorem d_DC_which_16 : decode c_DC_which 16 = .ok (.getfield 53, 3) := by decide +kernel
theorem d_DC_which_19 : decode c_DC_which 19 = .ok (.aload_n 0, 1) := by decide +kernel
theorem d_DC_which_20 : decode c_DC_which 20 = .ok (.getfield 36, 3) := by decide +kernel
theorem d_DC_which_23 : decode c_DC_which 23 = .ok (.invokevirtual 232, 3) := by decide +kernel
theorem d_DC_which_26 : decode c_DC_which 26 = .ok (.ireturn, 1) := by decide +kernel
theorem d_DC_same_0 : decode c_DC_same 0 = .ok (.aload_n 0, 1) := by decide +kernel
theorem d_DC_same_1 : decode c_DC_same 1 = .ok (.ldc 218, 2) := by decide +kernel
theorem d_DC_same_3 : decode c_DC_same 3 = .ok (.invokevirtual 219, 3) := by decide +kernel
theorem d_DC_same_6 : decode c_DC_same 6 = .ok (.istore_n 2, 1) := by decide +kernel
theorem d_DC_same_7 : decode c_DC_same 7 = .ok (.iload_n 2, 1) := by decide +kernel
theorem d_DC_same_8 : decode c_DC_same 8 = .ok (.ifCond .ge 5, 3) := by decide +kernel
theorem d_DC_same_11 : decode c_DC_same 11 = .ok (.iload_n 2, 1) := by decide +kernel
theorem d_DC_same_12 : decode c_DC_same 12 = .ok (.ireturn, 1) := by decide +kernel
theorem d_DC_same_13 : decode c_DC_same 13 = .ok (.aload_n 0, 1) := by decide +kernel
theorem d_DC_same_14 : decode c_DC_same 14 = .ok (.getfield 53, 3) := by decide +kernel
theorem d_DC_same_17 : decode c_DC_same 17 = .ok (.iload_n 1, 1) := by decide +kernel
theorem d_DC_same_18 : decode c_DC_same 18 = .ok (.invokevirtual 225, 3) := by decide +kernel
theorem d_DC_same_21 : decode c_DC_same 21 = .ok (.ifCond .ne 5, 3) := by decide +kernel
theorem d_DC_same_24 : decode c_DC_same 24 = .ok (.iconst (-1), 1) := by decide +kernel
theorem d_DC_same_25 : decode c_DC_same 25 = .ok (.ireturn, 1) := by decide +kernel
theorem d_DC_same_26 : decode c_DC_same 26 = .ok (.aload_n 0, 1) := by decide +kernel
theorem d_DC_same_27 : decode c_DC_same 27 = .ok (.getfield 53, 3) := by decide +kernel
theorem d_DC_same_30 : decode c_DC_same 30 = .ok (.aload_n 0, 1) := by decide +kernel
theorem d_DC_same_31 : decode c_DC_same 31 = .ok (.getfield 36, 3) := by decide +kernel
theorem d_DC_same_34 : decode c_DC_same 34 = .ok (.invokevirtual 232, 3) := by decide +kernel
theorem d_DC_same_37 : decode c_DC_same 37 = .ok (.iload_n 1, 1) := by decide +kernel
theorem d_DC_same_38 : decode c_DC_same 38 = .ok (.if_icmp .ne 7, 3) := by decide +kernel
theorem d_DC_same_41 : decode c_DC_same 41 = .ok (.iconst 1, 1) := by decide +kernel
theorem d_DC_same_42 : decode c_DC_same 42 = .ok (.goto 4, 3) := by decide +kernel
theorem d_DC_same_45 : decode c_DC_same 45 = .ok (.iconst 0, 1) := by decide +kernel
theorem d_DC_same_46 : decode c_DC_same 46 = .ok (.ireturn, 1) := by decide +kernel
theorem d_DC_least_0 : decode c_DC_least 0 = .ok (.iload_n 1, 1) := by decide +kernel
theorem d_DC_least_1 : decode c_DC_least 1 = .ok (.invokestatic 176, 3) := by decide +kernel
theorem d_DC_least_4 : decode c_DC_least 4 = .ok (.ifCond .ne 5, 3) := by decide +kernel
theorem d_DC_least_7 : decode c_DC_least 7 = .ok (.iconst (-1), 1) := by decide +kernel
theorem d_DC_least_8 : decode c_DC_least 8 = .ok (.ireturn, 1) := by decide +kernel
theorem d_DC_least_9 : decode c_DC_least 9 = .ok (.aload_n 0, 1) := by decide +kernel
theorem d_DC_least_10 : decode c_DC_least 10 = .ok (.sipush 20000, 3) := by decide +kernel
theorem d_DC_least_13 : decode c_DC_least 13 = .ok (.invokevirtual 219, 3) := by decide +kernel
theorem d_DC_least_16 : decode c_DC_least 16 = .ok (.istore_n 2, 1) := by decide +kernel
theorem d_DC_least_17 : decode c_DC_least 17 = .ok (.iload_n 2, 1) := by decide +kernel
theorem d_DC_least_18 : decode c_DC_least 18 = .ok (.ifCond .ge 5, 3) := by decide +kernel
theorem d_DC_least_21 : decode c_DC_least 21 = .ok (.iload_n 2, 1) := by decide +kernel
theorem d_DC_least_22 : decode c_DC_least 22 = .ok (.ireturn, 1) := by decide +kernel
theorem d_DC_least_23 : decode c_DC_least 23 = .ok (.aload_n 0, 1) := by decide +kernel
theorem d_DC_least_24 : decode c_DC_least 24 = .ok (.getfield 53, 3) := by decide +kernel
theorem d_DC_least_27 : decode c_DC_least 27 = .ok (.iload_n 1, 1) := by decide +kernel
theorem d_DC_least_28 : decode c_DC_least 28 = .ok (.iconst 0, 1) := by decide +kernel
theorem d_DC_least_29 : decode c_DC_least 29 = .ok (.invokevirtual 235, 3) := by decide +kernel
theorem d_DC_least_32 : decode c_DC_least 32 = .ok (.aload_n 0, 1) := by decide +kernel
theorem d_DC_least_33 : decode c_DC_least 33 = .ok (.getfield 53, 3) := by decide +kernel
theorem d_DC_least_36 : decode c_DC_least 36 = .ok (.getfield 238, 3) := by decide +kernel
theorem d_DC_least_39 : decode c_DC_least 39 = .ok (.ireturn, 1) := by decide +kernel
theorem d_DC_among_0 : decode c_DC_among 0 = .ok (.iload_n 1, 1) := by decide +kernel
theorem d_DC_among_1 : decode c_DC_among 1 = .ok (.invokestatic 176, 3) := by decide +kernel
theorem d_DC_among_4 : decode c_DC_among 4 = .ok (.ifCond .eq 12, 3) := by decide +kernel
theorem d_DC_among_7 : decode c_DC_among 7 = .ok (.iload_n 2, 1) := by decide +kernel
theorem d_DC_among_8 : decode c_DC_among 8 = .ok (.iconst 0, 1) := by decide +kernel
theorem d_DC_among_9 : decode c_DC_among 9 = .ok (.iconst 2, 1) := by decide +kernel
theorem d_DC_among_10 : decode c_DC_among 10 = .ok (.invokestatic 82, 3) := by decide +kernel
theorem d_DC_among_13 : decode c_DC_among 13 = .ok (.ifCond .ne 5, 3) := by decide +kernel
theorem d_DC_among_16 : decode c_DC_among 16 = .ok (.iconst (-1), 1) := by decide +kernel
theorem d_DC_among_17 : decode c_DC_among 17 = .ok (.ireturn, 1) := by decide +kernel
theorem d_DC_among_18 : decode c_DC_among 18 = .ok (.aload_n 0, 1) := by decide +kernel
theorem d_DC_among_19 : decode c_DC_among 19 = .ok (.sipush 20000, 3) := by decide +kernel
theorem d_DC_among_22 : decode c_DC_among 22 = .ok (.invokevirtual 219, 3) := by decide +kernel
theorem d_DC_among_25 : decode c_DC_among 25 = .ok (.istore_n 3, 1) := by decide +kernel
theorem d_DC_among_26 : decode c_DC_among 26 = .ok (.iload_n 3, 1) := by decide +kernel
theorem d_DC_among_27 : decode c_DC_among 27 = .ok (.ifCond .ge 5, 3) := by decide +kernel
theorem d_DC_among_30 : decode c_DC_among 30 = .ok (.iload_n 3, 1) := by decide +kernel
theorem d_DC_among_31 : decode c_DC_among 31 = .ok (.ireturn, 1) := by decide +kernel
theorem d_DC_among_32 : decode c_DC_among 32 = .ok (.aload_n 0, 1) := by decide +kernel
theorem d_DC_among_33 : decode c_DC_among 33 = .ok (.getfield 53, 3) := by decide +kernel
theorem d_DC_among_36 : decode c_DC_among 36 = .ok (.iload_n 1, 1) := by decide +kernel
theorem d_DC_among_37 : decode c_DC_among 37 = .ok (.aload_n 0, 1) := by decide +kernel
theorem d_DC_among_38 : decode c_DC_among 38 = .ok (.getfield 44, 3) := by decide +kernel
theorem d_DC_among_41 : decode c_DC_among 41 = .ok (.aload_n 0, 1) := by decide +kernel
theorem d_DC_among_42 : decode c_DC_among 42 = .ok (.getfield 36, 3) := by decide +kernel
theorem d_DC_among_45 : decode c_DC_among 45 = .ok (.iload_n 1, 1) := by decide +kernel
theorem d_DC_among_46 : decode c_DC_among 46 = .ok (.invokevirtual 179, 3) := by decide +kernel
theorem d_DC_among_49 : decode c_DC_among 49 = .ok (.invokevirtual 235, 3) := by decide +kernel
theorem d_DC_among_52 : decode c_DC_among 52 = .ok (.aload_n 0, 1) := by decide +kernel
theorem d_DC_among_53 : decode c_DC_among 53 = .ok (.getfield 53, 3) := by decide +kernel
theorem d_DC_among_56 : decode c_DC_among 56 = .ok (.getfield 241, 3) := by decide +kernel
theorem d_DC_among_59 : decode c_DC_among 59 = .ok (.iload_n 2, 1) := by decide +kernel
theorem d_DC_among_60 : decode c_DC_among 60 = .ok (.iaload, 1) := by decide +kernel
theorem d_DC_among_61 : decode c_DC_among 61 = .ok (.ireturn, 1) := by decide +kernel
theorem d_DC_step_0 : decode c_DC_step 0 = .ok (.aload_n 0, 1) := by decide +kernel
theorem d_DC_step_1 : decode c_DC_step 1 = .ok (.invokevirtual 244, 3) := by decide +kernel
theorem d_DC_step_4 : decode c_DC_step 4 = .ok (.istore_n 2, 1) := by decide +kernel
theorem d_DC_step_5 : decode c_DC_step 5 = .ok (.iload_n 2, 1) := by decide +kernel
theorem d_DC_step_6 : decode c_DC_step 6 = .ok (.ifCond .ge 5, 3) := by decide +kernel
theorem d_DC_step_9 : decode c_DC_step 9 = .ok (.iload_n 2, 1) := by decide +kernel
theorem d_DC_step_10 : decode c_DC_step 10 = .ok (.ireturn, 1) := by decide +kernel
theorem d_DC_step_11 : decode c_DC_step 11 = .ok (.aload_n 0, 1) := by decide +kernel
theorem d_DC_step_12 : decode c_DC_step 12 = .ok (.getfield 62, 3) := by decide +kernel
theorem d_DC_step_15 : decode c_DC_step 15 = .ok (.iload_n 1, 1) := by decide +kernel
theorem d_DC_step_16 : decode c_DC_step 16 = .ok (.putfield 247, 3) := by decide +kernel
theorem d_DC_step_19 : decode c_DC_step 19 = .ok (.aload_n 0, 1) := by decide +kernel
theorem d_DC_step_20 : decode c_DC_step 20 = .ok (.getfield 62, 3) := by decide +kernel
theorem d_DC_step_23 : decode c_DC_step 23 = .ok (.aload_n 0, 1) := by decide +kernel
theorem d_DC_step_24 : decode c_DC_step 24 = .ok (.getfield 36, 3) := by decide +kernel
theorem d_DC_step_27 : decode c_DC_step 27 = .ok (.invokevirtual 250, 3) := by decide +kernel
theorem d_DC_step_30 : decode c_DC_step 30 = .ok (.ifCond .eq 7, 3) := by decide +kernel
theorem d_DC_step_33 : decode c_DC_step 33 = .ok (.iconst 1, 1) := by decide +kernel
theorem d_DC_step_34 : decode c_DC_step 34 = .ok (.goto 4, 3) := by decide +kernel
theorem d_DC_step_37 : decode c_DC_step 37 = .ok (.iconst 0, 1) := by decide +kernel
theorem d_DC_step_38 : decode c_DC_step 38 = .ok (.ireturn, 1) := by decide +kernel
theorem d_DC_walk_0 : decode c_DC_walk 0 = .ok (.iload_n 1, 1) := by decide +kernel
theorem d_DC_walk_1 : decode c_DC_walk 1 = .ok (.iconst 1, 1) := by decide +kernel
theorem d_DC_walk_2 : decode c_DC_walk 2 = .ok (.sipush 200, 3) := by decide +kernel
theorem d_DC_walk_5 : decode c_DC_walk 5 = .ok (.invokestatic 82, 3) := by decide +kernel
theorem d_DC_walk_8 : decode c_DC_walk 8 = .ok (.ifCond .eq 10, 3) := by decide +kernel
theorem d_DC_walk_11 : decode c_DC_walk 11 = .ok (.iload_n 3, 1) := by decide +kernel
theorem d_DC_walk_12 : decode c_DC_walk 12 = .ok (.invokestatic 176, 3) := by decide +kernel
theorem d_DC_walk_15 : decode c_DC_walk 15 = .ok (.ifCond .ne 5, 3) := by decide +kernel
theorem d_DC_walk_18 : decode c_DC_walk 18 = .ok (.iconst (-1), 1) := by decide +kernel
theorem d_DC_walk_19 : decode c_DC_walk 19 = .ok (.ireturn, 1) := by decide +kernel
theorem d_DC_walk_20 : decode c_DC_walk 20 = .ok (.aload_n 0, 1) := by decide +kernel
theorem d_DC_walk_21 : decode c_DC_walk 21 = .ok (.invokevirtual 244, 3) := by decide +kernel
theorem d_DC_walk_24 : decode c_DC_walk 24 = .ok (.istore 4, 2) := by decide +kernel
theorem d_DC_walk_26 : decode c_DC_walk 26 = .ok (.iload 4, 2) := by decide +kernel
theorem d_DC_walk_28 : decode c_DC_walk 28 = .ok (.ifCond .ge 6, 3) := by decide +kernel
theorem d_DC_walk_31 : decode c_DC_walk 31 = .ok (.iload 4, 2) := by decide +kernel
theorem d_DC_walk_33 : decode c_DC_walk 33 = .ok (.ireturn, 1) := by decide +kernel
theorem d_DC_walk_34 : decode c_DC_walk 34 = .ok (.aload_n 0, 1) := by decide +kernel
theorem d_DC_walk_35 : decode c_DC_walk 35 = .ok (.getfield 62, 3) := by decide +kernel
theorem d_DC_walk_38 : decode c_DC_walk 38 = .ok (.iload_n 2, 1) := by decide +kernel
theorem d_DC_walk_39 : decode c_DC_walk 39 = .ok (.putfield 247, 3) := by decide +kernel
theorem d_DC_walk_42 : decode c_DC_walk 42 = .ok (.aload_n 0, 1) := by decide +kernel
theorem d_DC_walk_43 : decode c_DC_walk 43 = .ok (.getfield 62, 3) := by decide +kernel
theorem d_DC_walk_46 : decode c_DC_walk 46 = .ok (.aload_n 0, 1) := by decide +kernel
theorem d_DC_walk_47 : decode c_DC_walk 47 = .ok (.getfield 36, 3) := by decide +kernel
theorem d_DC_walk_50 : decode c_DC_walk 50 = .ok (.iload_n 1, 1) := by decide +kernel
theorem d_DC_walk_51 : decode c_DC_walk 51 = .ok (.iload_n 3, 1) := by decide +kernel
theorem d_DC_walk_52 : decode c_DC_walk 52 = .ok (.invokevirtual 254, 3) := by decide +kernel
theorem d_DC_walk_55 : decode c_DC_walk 55 = .ok (.aload_n 0, 1) := by decide +kernel
theorem d_DC_walk_56 : decode c_DC_walk 56 = .ok (.getfield 62, 3) := by decide +kernel
theorem d_DC_walk_59 : decode c_DC_walk 59 = .ok (.getfield 258, 3) := by decide +kernel
theorem d_DC_walk_62 : decode c_DC_walk 62 = .ok (.iconst 0, 1) := by decide +kernel
theorem d_DC_walk_63 : decode c_DC_walk 63 = .ok (.iaload, 1) := by decide +kernel
theorem d_DC_walk_64 : decode c_DC_walk 64 = .ok (.ireturn, 1) := by decide +kernel
theorem d_DC_seen_0 : decode c_DC_seen 0 = .ok (.aload_n 0, 1) := by decide +kernel
theorem d_DC_seen_1 : decode c_DC_seen 1 = .ok (.getfield 62, 3) := by decide +kernel
theorem d_DC_seen_4 : decode c_DC_seen 4 = .ok (.getfield 261, 3) := by decide +kernel
theorem d_DC_seen_7 : decode c_DC_seen 7 = .ok (.ifCond .eq 24, 3) := by decide +kernel
theorem d_DC_seen_10 : decode c_DC_seen 10 = .ok (.iload_n 1, 1) := by decide +kernel
theorem d_DC_seen_11 : decode c_DC_seen 11 = .ok (.iconst 0, 1) := by decide +kernel
theorem d_DC_seen_12 : decode c_DC_seen 12 = .ok (.iconst 5, 1) := by decide +kernel
theorem d_DC_seen_13 : decode c_DC_seen 13 = .ok (.invokestatic 82, 3) := by decide +kernel
theorem d_DC_seen_16 : decode c_DC_seen 16 = .ok (.ifCond .eq 15, 3) := by decide +kernel
theorem d_DC_seen_19 : decode c_DC_seen 19 = .ok (.aload_n 0, 1) := by decide +kernel
theorem d_DC_seen_20 : decode c_DC_seen 20 = .ok (.getfield 62, 3) := by decide +kernel
theorem d_DC_seen_23 : decode c_DC_seen 23 = .ok (.getfield 258, 3) := by decide +kernel
theorem d_DC_seen_26 : decode c_DC_seen 26 = .ok (.iload_n 1, 1) := by decide +kernel
theorem d_DC_seen_27 : decode c_DC_seen 27 = .ok (.iaload, 1) := by decide +kernel
theorem d_DC_seen_28 : decode c_DC_seen 28 = .ok (.goto 4, 3) := by decide +kernel
theorem d_DC_seen_31 : decode c_DC_seen 31 = .ok (.iconst (-1), 1) := by decide +kernel
theorem d_DC_seen_32 : decode c_DC_seen 32 = .ok (.ireturn, 1) := by decide +kernel
theorem d_DC_better_0 : decode c_DC_better 0 = .ok (.aload_n 0, 1) := by decide +kernel
theorem d_DC_better_1 : decode c_DC_better 1 = .ok (.invokevirtual 244, 3) := by decide +kernel
theorem d_DC_better_4 : decode c_DC_better 4 = .ok (.istore_n 1, 1) := by decide +kernel
theorem d_DC_better_5 : decode c_DC_better 5 = .ok (.iload_n 1, 1) := by decide +kernel
theorem d_DC_better_6 : decode c_DC_better 6 = .ok (.ifCond .ge 7, 3) := by decide +kernel
theorem d_DC_better_9 : decode c_DC_better 9 = .ok (.iload_n 1, 1) := by decide +kernel
theorem d_DC_better_10 : decode c_DC_better 10 = .ok (.goto 14, 3) := by decide +kernel
theorem d_DC_better_13 : decode c_DC_better 13 = .ok (.aload_n 0, 1) := by decide +kernel
theorem d_DC_better_14 : decode c_DC_better 14 = .ok (.getfield 71, 3) := by decide +kernel
theorem d_DC_better_17 : decode c_DC_better 17 = .ok (.aload_n 0, 1) := by decide +kernel
theorem d_DC_better_18 : decode c_DC_better 18 = .ok (.getfield 36, 3) := by decide +kernel
theorem d_DC_better_21 : decode c_DC_better 21 = .ok (.invokevirtual 265, 3) := by decide +kernel
theorem d_DC_better_24 : decode c_DC_better 24 = .ok (.ireturn, 1) := by decide +kernel
theorem d_DC_mend_0 : decode c_DC_mend 0 = .ok (.iload_n 1, 1) := by decide +kernel
theorem d_DC_mend_1 : decode c_DC_mend 1 = .ok (.iconst 0, 1) := by decide +kernel
theorem d_DC_mend_2 : decode c_DC_mend 2 = .ok (.iconst 2, 1) := by decide +kernel
theorem d_DC_mend_3 : decode c_DC_mend 3 = .ok (.invokestatic 82, 3) := by decide +kernel
theorem d_DC_mend_6 : decode c_DC_mend 6 = .ok (.ifCond .ne 5, 3) := by decide +kernel
theorem d_DC_mend_9 : decode c_DC_mend 9 = .ok (.iconst (-1), 1) := by decide +kernel
theorem d_DC_mend_10 : decode c_DC_mend 10 = .ok (.ireturn, 1) := by decide +kernel
theorem d_DC_mend_11 : decode c_DC_mend 11 = .ok (.aload_n 0, 1) := by decide +kernel
theorem d_DC_mend_12 : decode c_DC_mend 12 = .ok (.getfield 23, 3) := by decide +kernel
theorem d_DC_mend_15 : decode c_DC_mend 15 = .ok (.getfield 90, 3) := by decide +kernel
theorem d_DC_mend_18 : decode c_DC_mend 18 = .ok (.ifCond .ne 8, 3) := by decide +kernel
theorem d_DC_mend_21 : decode c_DC_mend 21 = .ok (.bipush (-5), 2) := by decide +kernel
theorem d_DC_mend_23 : decode c_DC_mend 23 = .ok (.goto 15, 3) := by decide +kernel
theorem d_DC_mend_26 : decode c_DC_mend 26 = .ok (.aload_n 0, 1) := by decide +kernel
theorem d_DC_mend_27 : decode c_DC_mend 27 = .ok (.getfield 78, 3) := by decide +kernel
theorem d_DC_mend_30 : decode c_DC_mend 30 = .ok (.aload_n 0, 1) := by decide +kernel
theorem d_DC_mend_31 : decode c_DC_mend 31 = .ok (.getfield 36, 3) := by decide +kernel
theorem d_DC_mend_34 : decode c_DC_mend 34 = .ok (.iload_n 1, 1) := by decide +kernel
theorem d_DC_mend_35 : decode c_DC_mend 35 = .ok (.invokevirtual 268, 3) := by decide +kernel
theorem d_DC_mend_38 : decode c_DC_mend 38 = .ok (.ireturn, 1) := by decide +kernel
theorem d_DC_openClasses_0 : decode c_DC_openClasses 0 = .ok (.aload_n 0, 1) := by decide +kernel
theorem d_DC_openClasses_1 : decode c_DC_openClasses 1 = .ok (.getfield 23, 3) := by decide +kernel
theorem d_DC_openClasses_4 : decode c_DC_openClasses 4 = .ok (.getfield 90, 3) := by decide +kernel
theorem d_DC_openClasses_7 : decode c_DC_openClasses 7 = .ok (.bipush 12, 2) := by decide +kernel
theorem d_DC_openClasses_9 : decode c_DC_openClasses 9 = .ok (.if_icmp .le 6, 3) := by decide +kernel
theorem d_DC_openClasses_12 : decode c_DC_openClasses 12 = .ok (.bipush (-4), 2) := by decide +kernel
theorem d_DC_openClasses_14 : decode c_DC_openClasses 14 = .ok (.ireturn, 1) := by decide +kernel
theorem d_DC_openClasses_15 : decode c_DC_openClasses 15 = .ok (.aload_n 0, 1) := by decide +kernel
theorem d_DC_openClasses_16 : decode c_DC_openClasses 16 = .ok (.getfield 23, 3) := by decide +kernel
theorem d_DC_openClasses_19 : decode c_DC_openClasses 19 = .ok (.getfield 90, 3) := by decide +kernel
theorem d_DC_openClasses_22 : decode c_DC_openClasses 22 = .ok (.ifCond .ne 6, 3) := by decide +kernel
theorem d_DC_openClasses_25 : decode c_DC_openClasses 25 = .ok (.bipush (-5), 2) := by decide +kernel
theorem d_DC_openClasses_27 : decode c_DC_openClasses 27 = .ok (.ireturn, 1) := by decide +kernel
theorem d_DC_openClasses_28 : decode c_DC_openClasses 28 = .ok (.aload_n 0, 1) := by decide +kernel
theorem d_DC_openClasses_29 : decode c_DC_openClasses 29 = .ok (.getfield 53, 3) := by decide +kernel
theorem d_DC_openClasses_32 : decode c_DC_openClasses 32 = .ok (.invokevirtual 271, 3) := by decide +kernel
theorem d_DC_openClasses_35 : decode c_DC_openClasses 35 = .ok (.aload_n 0, 1) := by decide +kernel
theorem d_DC_openClasses_36 : decode c_DC_openClasses 36 = .ok (.getfield 53, 3) := by decide +kernel
theorem d_DC_openClasses_39 : decode c_DC_openClasses 39 = .ok (.invokevirtual 222, 3) := by decide +kernel
theorem d_DC_openClasses_42 : decode c_DC_openClasses 42 = .ok (.iload_n 1, 1) := by decide +kernel
theorem d_DC_openClasses_43 : decode c_DC_openClasses 43 = .ok (.if_icmp .le 8, 3) := by decide +kernel
theorem d_DC_openClasses_46 : decode c_DC_openClasses 46 = .ok (.bipush (-4), 2) := by decide +kernel
theorem d_DC_openClasses_48 : decode c_DC_openClasses 48 = .ok (.goto 4, 3) := by decide +kernel
theorem d_DC_openClasses_51 : decode c_DC_openClasses 51 = .ok (.iconst 0, 1) := by decide +kernel
theorem d_DC_openClasses_52 : decode c_DC_openClasses 52 = .ok (.ireturn, 1) := by decide +kernel
theorem d_DC_changeRefusal_0 : decode c_DC_changeRefusal 0 = .ok (.aload_n 0, 1) := by decide +kernel
theorem d_DC_changeRefusal_1 : decode c_DC_changeRefusal 1 = .ok (.getfield 23, 3) := by decide +kernel
theorem d_DC_changeRefusal_4 : decode c_DC_changeRefusal 4 = .ok (.getfield 90, 3) := by decide +kernel
theorem d_DC_changeRefusal_7 : decode c_DC_changeRefusal 7 = .ok (.ifCond .ne 6, 3) := by decide +kernel
theorem d_DC_changeRefusal_10 : decode c_DC_changeRefusal 10 = .ok (.bipush (-5), 2) := by decide +kernel
theorem d_DC_changeRefusal_12 : decode c_DC_changeRefusal 12 = .ok (.ireturn, 1) := by decide +kernel
theorem d_DC_changeRefusal_13 : decode c_DC_changeRefusal 13 = .ok (.aload_n 0, 1) := by decide +kernel
theorem d_DC_changeRefusal_14 : decode c_DC_changeRefusal 14 = .ok (.getfield 40, 3) := by decide +kernel
theorem d_DC_changeRefusal_17 : decode c_DC_changeRefusal 17 = .ok (.aload_n 0, 1) := by decide +kernel
theorem d_DC_changeRefusal_18 : decode c_DC_changeRefusal 18 = .ok (.getfield 36, 3) := by decide +kernel
theorem d_DC_changeRefusal_21 : decode c_DC_changeRefusal 21 = .ok (.invokevirtual 274, 3) := by decide +kernel
theorem d_DC_changeRefusal_24 : decode c_DC_changeRefusal 24 = .ok (.ifCond .eq 7, 3) := by decide +kernel
theorem d_DC_changeRefusal_27 : decode c_DC_changeRefusal 27 = .ok (.iconst 0, 1) := by decide +kernel
theorem d_DC_changeRefusal_28 : decode c_DC_changeRefusal 28 = .ok (.goto 5, 3) := by decide +kernel
theorem d_DC_changeRefusal_31 : decode c_DC_changeRefusal 31 = .ok (.bipush (-3), 2) := by decide +kernel
theorem d_DC_changeRefusal_33 : decode c_DC_changeRefusal 33 = .ok (.ireturn, 1) := by decide +kernel
theorem d_DC_isWithin_0 : decode c_DC_isWithin 0 = .ok (.iload_n 0, 1) := by decide +kernel
theorem d_DC_isWithin_1 : decode c_DC_isWithin 1 = .ok (.iload_n 1, 1) := by decide +kernel
theorem d_DC_isWithin_2 : decode c_DC_isWithin 2 = .ok (.if_icmp .lt 12, 3) := by decide +kernel
theorem d_DC_isWithin_5 : decode c_DC_isWithin 5 = .ok (.iload_n 0, 1) := by decide +kernel
theorem d_DC_isWithin_6 : decode c_DC_isWithin 6 = .ok (.iload_n 2, 1) := by decide +kernel
theorem d_DC_isWithin_7 : decode c_DC_isWithin 7 = .ok (.if_icmp .gt 7, 3) := by decide +kernel
theorem d_DC_isWithin_10 : decode c_DC_isWithin 10 = .ok (.iconst 1, 1) := by decide +kernel
theorem d_DC_isWithin_11 : decode c_DC_isWithin 11 = .ok (.goto 4, 3) := by decide +kernel
theorem d_DC_isWithin_14 : decode c_DC_isWithin 14 = .ok (.iconst 0, 1) := by decide +kernel
theorem d_DC_isWithin_15 : decode c_DC_isWithin 15 = .ok (.ireturn, 1) := by decide +kernel
theorem d_DC_isTown_0 : decode c_DC_isTown 0 = .ok (.iload_n 0, 1) := by decide +kernel
theorem d_DC_isTown_1 : decode c_DC_isTown 1 = .ok (.iconst 0, 1) := by decide +kernel
theorem d_DC_isTown_2 : decode c_DC_isTown 2 = .ok (.bipush 9, 2) := by decide +kernel
theorem d_DC_isTown_4 : decode c_DC_isTown 4 = .ok (.invokestatic 82, 3) := by decide +kernel
theorem d_DC_isTown_7 : decode c_DC_isTown 7 = .ok (.ireturn, 1) := by decide +kernel
theorem d_DC_isMeasure_0 : decode c_DC_isMeasure 0 = .ok (.iload_n 0, 1) := by decide +kernel
theorem d_DC_isMeasure_1 : decode c_DC_isMeasure 1 = .ok (.iconst 0, 1) := by decide +kernel
theorem d_DC_isMeasure_2 : decode c_DC_isMeasure 2 = .ok (.bipush 6, 2) := by decide +kernel
theorem d_DC_isMeasure_4 : decode c_DC_isMeasure 4 = .ok (.invokestatic 82, 3) := by decide +kernel
theorem d_DC_isMeasure_7 : decode c_DC_isMeasure 7 = .ok (.ireturn, 1) := by decide +kernel
theorem d_Mo_init_0 : decode c_Mo_init 0 = .ok (.aload_n 0, 1) := by decide +kernel
theorem d_Mo_init_1 : decode c_Mo_init 1 = .ok (.invokespecial 1, 3) := by decide +kernel
theorem d_Mo_init_4 : decode c_Mo_init 4 = .ok (.aload_n 0, 1) := by decide +kernel
theorem d_Mo_init_5 : decode c_Mo_init 5 = .ok (.bipush 30, 2) := by decide +kernel
theorem d_Mo_init_7 : decode c_Mo_init 7 = .ok (.newarray .int, 2) := by decide +kernel
theorem d_Mo_init_9 : decode c_Mo_init 9 = .ok (.putfield 9, 3) := by decide +kernel
theorem d_Mo_init_12 : decode c_Mo_init 12 = .ok (.aload_n 0, 1) := by decide +kernel
theorem d_Mo_init_13 : decode c_Mo_init 13 = .ok (.bipush 60, 2) := by decide +kernel
theorem d_Mo_init_15 : decode c_Mo_init 15 = .ok (.newarray .int, 2) := by decide +kernel
theorem d_Mo_init_17 : decode c_Mo_init 17 = .ok (.putfield 13, 3) := by decide +kernel
theorem d_Mo_init_20 : decode c_Mo_init 20 = .ok (.aload_n 0, 1) := by decide +kernel
theorem d_Mo_init_21 : decode c_Mo_init 21 = .ok (.bipush 30, 2) := by decide +kernel
theorem d_Mo_init_23 : decode c_Mo_init 23 = .ok (.newarray .int, 2) := by decide +kernel
theorem d_Mo_init_25 : decode c_Mo_init 25 = .ok (.putfield 16, 3) := by decide +kernel
theorem d_Mo_init_28 : decode c_Mo_init 28 = .ok (.aload_n 0, 1) := by decide +kernel
theorem d_Mo_init_29 : decode c_Mo_init 29 = .ok (.bipush 30, 2) := by decide +kernel
theorem d_Mo_init_31 : decode c_Mo_init 31 = .ok (.newarray .int, 2) := by decide +kernel
theorem d_Mo_init_33 : decode c_Mo_init 33 = .ok (.putfield 19, 3) := by decide +kernel
theorem d_Mo_init_36 : decode c_Mo_init 36 = .ok (.aload_n 0, 1) := by decide +kernel
theorem d_Mo_init_37 : decode c_Mo_init 37 = .ok (.bipush 100, 2) := by decide +kernel
theorem d_Mo_init_39 : decode c_Mo_init 39 = .ok (.newarray .int, 2) := by decide +kernel
theorem d_Mo_init_41 : decode c_Mo_init 41 = .ok (.putfield 22, 3) := by decide +kernel
theorem d_Mo_init_44 : decode c_Mo_init 44 = .ok (.aload_n 0, 1) := by decide +kernel
theorem d_Mo_init_45 : decode c_Mo_init 45 = .ok (.bipush 100, 2) := by decide +kernel
theorem d_Mo_init_47 : decode c_Mo_init 47 = .ok (.newarray .int, 2) := by decide +kernel
theorem d_Mo_init_49 : decode c_Mo_init 49 = .ok (.putfield 25, 3) := by decide +kernel
theorem d_Mo_init_52 : decode c_Mo_init 52 = .ok (.aload_n 0, 1) := by decide +kernel
theorem d_Mo_init_53 : decode c_Mo_init 53 = .ok (.bipush 100, 2) := by decide +kernel
theorem d_Mo_init_55 : decode c_Mo_init 55 = .ok (.newarray .int, 2) := by decide +kernel
theorem d_Mo_init_57 : decode c_Mo_init 57 = .ok (.putfield 28, 3) := by decide +kernel
theorem d_Mo_init_60 : decode c_Mo_init 60 = .ok (.aload_n 0, 1) := by decide +kernel
theorem d_Mo_init_61 : decode c_Mo_init 61 = .ok (.bipush 30, 2) := by decide +kernel
theorem d_Mo_init_63 : decode c_Mo_init 63 = .ok (.newarray .int, 2) := by decide +kernel
theorem d_Mo_init_65 : decode c_Mo_init 65 = .ok (.putfield 31, 3) := by decide +kernel
theorem d_Mo_init_68 : decode c_Mo_init 68 = .ok (.aload_n 0, 1) := by decide +kernel
theorem d_Mo_init_69 : decode c_Mo_init 69 = .ok (.iconst 2, 1) := by decide +kernel
theorem d_Mo_init_70 : decode c_Mo_init 70 = .ok (.putfield 34, 3) := by decide +kernel
theorem d_Mo_init_73 : decode c_Mo_init 73 = .ok (.aload_n 0, 1) := by decide +kernel
theorem d_Mo_init_74 : decode c_Mo_init 74 = .ok (.bipush 100, 2) := by decide +kernel
theorem d_Mo_init_76 : decode c_Mo_init 76 = .ok (.putfield 38, 3) := by decide +kernel
theorem d_Mo_init_79 : decode c_Mo_init 79 = .ok (.aload_n 0, 1) := by decide +kernel
theorem d_Mo_init_80 : decode c_Mo_init 80 = .ok (.bipush 10, 2) := by decide +kernel
theorem d_Mo_init_82 : decode c_Mo_init 82 = .ok (.newarray .boolean, 2) := by decide +kernel
theorem d_Mo_init_84 : decode c_Mo_init 84 = .ok (.putfield 41, 3) := by decide +kernel
theorem d_Mo_init_87 : decode c_Mo_init 87 = .ok (.aload_n 0, 1) := by decide +kernel
theorem d_Mo_init_88 : decode c_Mo_init 88 = .ok (.bipush 10, 2) := by decide +kernel
theorem d_Mo_init_90 : decode c_Mo_init 90 = .ok (.putfield 45, 3) := by decide +kernel
theorem d_Mo_init_93 : decode c_Mo_init 93 = .ok (.aload_n 0, 1) := by decide +kernel
theorem d_Mo_init_94 : decode c_Mo_init 94 = .ok (.bipush 30, 2) := by decide +kernel
theorem d_Mo_init_96 : decode c_Mo_init 96 = .ok (.newarray .int, 2) := by decide +kernel
theorem d_Mo_init_98 : decode c_Mo_init 98 = .ok (.putfield 48, 3) := by decide +kernel
theorem d_Mo_init_101 : decode c_Mo_init 101 = .ok (.aload_n 0, 1) := by decide +kernel
theorem d_Mo_init_102 : decode c_Mo_init 102 = .ok (.bipush 30, 2) := by decide +kernel
theorem d_Mo_init_104 : decode c_Mo_init 104 = .ok (.newarray .int, 2) := by decide +kernel
theorem d_Mo_init_106 : decode c_Mo_init 106 = .ok (.putfield 51, 3) := by decide +kernel
theorem d_Mo_init_109 : decode c_Mo_init 109 = .ok (.aload_n 0, 1) := by decide +kernel
theorem d_Mo_init_110 : decode c_Mo_init 110 = .ok (.bipush 100, 2) := by decide +kernel
theorem d_Mo_init_112 : decode c_Mo_init 112 = .ok (.newarray .int, 2) := by decide +kernel
theorem d_Mo_init_114 : decode c_Mo_init 114 = .ok (.putfield 54, 3) := by decide +kernel
theorem d_Mo_init_117 : decode c_Mo_init 117 = .ok (.aload_n 0, 1) := by decide +kernel
theorem d_Mo_init_118 : decode c_Mo_init 118 = .ok (.bipush 30, 2) := by decide +kernel
theorem d_Mo_init_120 : decode c_Mo_init 120 = .ok (.newarray .int, 2) := by decide +kernel
theorem d_Mo_init_122 : decode c_Mo_init 122 = .ok (.putfield 57, 3) := by decide +kernel
theorem d_Mo_init_125 : decode c_Mo_init 125 = .ok (.aload_n 0, 1) := by decide +kernel
theorem d_Mo_init_126 : decode c_Mo_init 126 = .ok (.bipush 30, 2) := by decide +kernel
theorem d_Mo_init_128 : decode c_Mo_init 128 = .ok (.newarray .int, 2) := by decide +kernel
theorem d_Mo_init_130 : decode c_Mo_init 130 = .ok (.putfield 60, 3) := by decide +kernel
theorem d_Mo_init_133 : decode c_Mo_init 133 = .ok (.aload_n 0, 1) := by decide +kernel
theorem d_Mo_init_134 : decode c_Mo_init 134 = .ok (.bipush 30, 2) := by decide +kernel
theorem d_Mo_init_136 : decode c_Mo_init 136 = .ok (.newarray .int, 2) := by decide +kernel
theorem d_Mo_init_138 : decode c_Mo_init 138 = .ok (.putfield 63, 3) := by decide +kernel
theorem d_Mo_init_141 : decode c_Mo_init 141 = .ok (.aload_n 0, 1) := by decide +kernel
theorem d_Mo_init_142 : decode c_Mo_init 142 = .ok (.bipush 30, 2) := by decide +kernel
theorem d_Mo_init_144 : decode c_Mo_init 144 = .ok (.newarray .int, 2) := by decide +kernel
theorem d_Mo_init_146 : decode c_Mo_init 146 = .ok (.putfield 66, 3) := by decide +kernel
theorem d_Mo_init_149 : decode c_Mo_init 149 = .ok (.aload_n 0, 1) := by decide +kernel
theorem d_Mo_init_150 : decode c_Mo_init 150 = .ok (.bipush 30, 2) := by decide +kernel
theorem d_Mo_init_152 : decode c_Mo_init 152 = .ok (.newarray .int, 2) := by decide +kernel
theorem d_Mo_init_154 : decode c_Mo_init 154 = .ok (.putfield 69, 3) := by decide +kernel
theorem d_Mo_init_157 : decode c_Mo_init 157 = .ok (.aload_n 0, 1) := by decide +kernel
theorem d_Mo_init_158 : decode c_Mo_init 158 = .ok (.bipush 6, 2) := by decide +kernel
theorem d_Mo_init_160 : decode c_Mo_init 160 = .ok (.newarray .int, 2) := by decide +kernel
theorem d_Mo_init_162 : decode c_Mo_init 162 = .ok (.putfield 72, 3) := by decide +kernel
theorem d_Mo_init_165 : decode c_Mo_init 165 = .ok (.aload_n 0, 1) := by decide +kernel
theorem d_Mo_init_166 : decode c_Mo_init 166 = .ok (.bipush 6, 2) := by decide +kernel
theorem d_Mo_init_168 : decode c_Mo_init 168 = .ok (.newarray .int, 2) := by decide +kernel
theorem d_Mo_init_170 : decode c_Mo_init 170 = .ok (.putfield 75, 3) := by decide +kernel
theorem d_Mo_init_173 : decode c_Mo_init 173 = .ok (.aload_n 0, 1) := by decide +kernel
theorem d_Mo_init_174 : decode c_Mo_init 174 = .ok (.bipush 6, 2) := by decide +kernel
theorem d_Mo_init_176 : decode c_Mo_init 176 = .ok (.newarray .int, 2) := by decide +kernel
theorem d_Mo_init_178 : decode c_Mo_init 178 = .ok (.putfield 78, 3) := by decide +kernel
theorem d_Mo_init_181 : decode c_Mo_init 181 = .ok (.aload_n 0, 1) := by decide +kernel
theorem d_Mo_init_182 : decode c_Mo_init 182 = .ok (.iconst 3, 1) := by decide +kernel
theorem d_Mo_init_183 : decode c_Mo_init 183 = .ok (.newarray .int, 2) := by decide +kernel
theorem d_Mo_init_185 : decode c_Mo_init 185 = .ok (.putfield 81, 3) := by decide +kernel
theorem d_Mo_init_188 : decode c_Mo_init 188 = .ok (.aload_n 0, 1) := by decide +kernel
theorem d_Mo_init_189 : decode c_Mo_init 189 = .ok (.bipush 6, 2) := by decide +kernel
theorem d_Mo_init_191 : decode c_Mo_init 191 = .ok (.newarray .int, 2) := by decide +kernel
theorem d_Mo_init_193 : decode c_Mo_init 193 = .ok (.putfield 84, 3) := by decide +kernel
theorem d_Mo_init_196 : decode c_Mo_init 196 = .ok (.iconst 0, 1) := by decide +kernel
theorem d_Mo_init_197 : decode c_Mo_init 197 = .ok (.istore_n 1, 1) := by decide +kernel
theorem d_Mo_init_198 : decode c_Mo_init 198 = .ok (.iload_n 1, 1) := by decide +kernel
theorem d_Mo_init_199 : decode c_Mo_init 199 = .ok (.bipush 30, 2) := by decide +kernel
theorem d_Mo_init_201 : decode c_Mo_init 201 = .ok (.if_icmp .ge 16, 3) := by decide +kernel
theorem d_Mo_init_204 : decode c_Mo_init 204 = .ok (.aload_n 0, 1) := by decide +kernel
theorem d_Mo_init_205 : decode c_Mo_init 205 = .ok (.getfield 48, 3) := by decide +kernel
theorem d_Mo_init_208 : decode c_Mo_init 208 = .ok (.iload_n 1, 1) := by decide +kernel
theorem d_Mo_init_209 : decode c_Mo_init 209 = .ok (.iconst (-1), 1) := by decide +kernel
theorem d_Mo_init_210 : decode c_Mo_init 210 = .ok (.iastore, 1) := by decide +kernel
theorem d_Mo_init_211 : decode c_Mo_init 211 = .ok (.iinc 1 1, 3) := by decide +kernel
theorem d_Mo_init_214 : decode c_Mo_init 214 = .ok (.goto (-16), 3) := by decide +kernel
theorem d_Mo_init_217 : decode c_Mo_init 217 = .ok (.return_, 1) := by decide +kernel
theorem d_Mo_in_0 : decode c_Mo_in 0 = .ok (.iload_n 0, 1) := by decide +kernel
theorem d_Mo_in_1 : decode c_Mo_in 1 = .ok (.iload_n 1, 1) := by decide +kernel
theorem d_Mo_in_2 : decode c_Mo_in 2 = .ok (.if_icmp .lt 12, 3) := by decide +kernel
theorem d_Mo_in_5 : decode c_Mo_in 5 = .ok (.iload_n 0, 1) := by decide +kernel
theorem d_Mo_in_6 : decode c_Mo_in 6 = .ok (.iload_n 2, 1) := by decide +kernel
theorem d_Mo_in_7 : decode c_Mo_in 7 = .ok (.if_icmp .gt 7, 3) := by decide +kernel
theorem d_Mo_in_10 : decode c_Mo_in 10 = .ok (.iconst 1, 1) := by decide +kernel
theorem d_Mo_in_11 : decode c_Mo_in 11 = .ok (.goto 4, 3) := by decide +kernel
theorem d_Mo_in_14 : decode c_Mo_in 14 = .ok (.iconst 0, 1) := by decide +kernel
theorem d_Mo_in_15 : decode c_Mo_in 15 = .ok (.ireturn, 1) := by decide +kernel
theorem d_Mo_has_0 : decode c_Mo_has 0 = .ok (.iload_n 0, 1) := by decide +kernel
theorem d_Mo_has_1 : decode c_Mo_has 1 = .ok (.iload_n 1, 1) := by decide +kernel
theorem d_Mo_has_2 : decode c_Mo_has 2 = .ok (.ishr, 1) := by decide +kernel
theorem d_Mo_has_3 : decode c_Mo_has 3 = .ok (.iconst 1, 1) := by decide +kernel
theorem d_Mo_has_4 : decode c_Mo_has 4 = .ok (.iand, 1) := by decide +kernel
