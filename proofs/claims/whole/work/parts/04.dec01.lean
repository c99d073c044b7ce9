theorem d_Land_addPlace_23 : decode c_Land_addPlace 23 = .ok (.iastore, 1) := by decide +kernel
theorem d_Land_addPlace_24 : decode c_Land_addPlace 24 = .ok (.aload_n 0, 1) := by decide +kernel
theorem d_Land_addPlace_25 : decode c_Land_addPlace 25 = .ok (.dup, 1) := by decide +kernel
theorem d_Land_addPlace_26 : decode c_Land_addPlace 26 = .ok (.getfield 47, 3) := by decide +kernel
theorem d_Land_addPlace_29 : decode c_Land_addPlace 29 = .ok (.iload_n 1, 1) := by decide +kernel
theorem d_Land_addPlace_30 : decode c_Land_addPlace 30 = .ok (.iadd, 1) := by decide +kernel
theorem d_Land_addPlace_31 : decode c_Land_addPlace 31 = .ok (.putfield 47, 3) := by decide +kernel
theorem d_Land_addPlace_34 : decode c_Land_addPlace 34 = .ok (.aload_n 0, 1) := by decide +kernel
theorem d_Land_addPlace_35 : decode c_Land_addPlace 35 = .ok (.getfield 15, 3) := by decide +kernel
theorem d_Land_addPlace_38 : decode c_Land_addPlace 38 = .ok (.iload 6, 2) := by decide +kernel
theorem d_Land_addPlace_40 : decode c_Land_addPlace 40 = .ok (.iload_n 2, 1) := by decide +kernel
theorem d_Land_addPlace_41 : decode c_Land_addPlace 41 = .ok (.iastore, 1) := by decide +kernel
theorem d_Land_addPlace_42 : decode c_Land_addPlace 42 = .ok (.aload_n 0, 1) := by decide +kernel
theorem d_Land_addPlace_43 : decode c_Land_addPlace 43 = .ok (.getfield 18, 3) := by decide +kernel
theorem d_Land_addPlace_46 : decode c_Land_addPlace 46 = .ok (.iload 6, 2) := by decide +kernel
theorem d_Land_addPlace_48 : decode c_Land_addPlace 48 = .ok (.iload_n 3, 1) := by decide +kernel
theorem d_Land_addPlace_49 : decode c_Land_addPlace 49 = .ok (.iastore, 1) := by decide +kernel
theorem d_Land_addPlace_50 : decode c_Land_addPlace 50 = .ok (.aload_n 0, 1) := by decide +kernel
theorem d_Land_addPlace_51 : decode c_Land_addPlace 51 = .ok (.getfield 21, 3) := by decide +kernel
theorem d_Land_addPlace_54 : decode c_Land_addPlace 54 = .ok (.iload 6, 2) := by decide +kernel
theorem d_Land_addPlace_56 : decode c_Land_addPlace 56 = .ok (.iload 4, 2) := by decide +kernel
theorem d_Land_addPlace_58 : decode c_Land_addPlace 58 = .ok (.iastore, 1) := by decide +kernel
theorem d_Land_addPlace_59 : decode c_Land_addPlace 59 = .ok (.aload_n 0, 1) := by decide +kernel
theorem d_Land_addPlace_60 : decode c_Land_addPlace 60 = .ok (.getfield 27, 3) := by decide +kernel
theorem d_Land_addPlace_63 : decode c_Land_addPlace 63 = .ok (.iload 5, 2) := by decide +kernel
theorem d_Land_addPlace_65 : decode c_Land_addPlace 65 = .ok (.dup2, 1) := by decide +kernel
theorem d_Land_addPlace_66 : decode c_Land_addPlace 66 = .ok (.iaload, 1) := by decide +kernel
theorem d_Land_addPlace_67 : decode c_Land_addPlace 67 = .ok (.iload 6, 2) := by decide +kernel
theorem d_Land_addPlace_69 : decode c_Land_addPlace 69 = .ok (.invokestatic 50, 3) := by decide +kernel
theorem d_Land_addPlace_72 : decode c_Land_addPlace 72 = .ok (.ior, 1) := by decide +kernel
theorem d_Land_addPlace_73 : decode c_Land_addPlace 73 = .ok (.iastore, 1) := by decide +kernel
theorem d_Land_addPlace_74 : decode c_Land_addPlace 74 = .ok (.iload 6, 2) := by decide +kernel
theorem d_Land_addPlace_76 : decode c_Land_addPlace 76 = .ok (.ireturn, 1) := by decide +kernel
theorem d_Land_addBorder_0 : decode c_Land_addBorder 0 = .ok (.aload_n 0, 1) := by decide +kernel
theorem d_Land_addBorder_1 : decode c_Land_addBorder 1 = .ok (.getfield 56, 3) := by decide +kernel
theorem d_Land_addBorder_4 : decode c_Land_addBorder 4 = .ok (.istore 4, 2) := by decide +kernel
theorem d_Land_addBorder_6 : decode c_Land_addBorder 6 = .ok (.aload_n 0, 1) := by decide +kernel
theorem d_Land_addBorder_7 : decode c_Land_addBorder 7 = .ok (.dup, 1) := by decide +kernel
theorem d_Land_addBorder_8 : decode c_Land_addBorder 8 = .ok (.getfield 56, 3) := by decide +kernel
theorem d_Land_addBorder_11 : decode c_Land_addBorder 11 = .ok (.iconst 1, 1) := by decide +kernel
theorem d_Land_addBorder_12 : decode c_Land_addBorder 12 = .ok (.iadd, 1) := by decide +kernel
theorem d_Land_addBorder_13 : decode c_Land_addBorder 13 = .ok (.putfield 56, 3) := by decide +kernel
theorem d_Land_addBorder_16 : decode c_Land_addBorder 16 = .ok (.aload_n 0, 1) := by decide +kernel
theorem d_Land_addBorder_17 : decode c_Land_addBorder 17 = .ok (.getfield 30, 3) := by decide +kernel
theorem d_Land_addBorder_20 : decode c_Land_addBorder 20 = .ok (.iload 4, 2) := by decide +kernel
theorem d_Land_addBorder_22 : decode c_Land_addBorder 22 = .ok (.iload_n 1, 1) := by decide +kernel
theorem d_Land_addBorder_23 : decode c_Land_addBorder 23 = .ok (.iastore, 1) := by decide +kernel
theorem d_Land_addBorder_24 : decode c_Land_addBorder 24 = .ok (.aload_n 0, 1) := by decide +kernel
theorem d_Land_addBorder_25 : decode c_Land_addBorder 25 = .ok (.getfield 33, 3) := by decide +kernel
theorem d_Land_addBorder_28 : decode c_Land_addBorder 28 = .ok (.iload 4, 2) := by decide +kernel
theorem d_Land_addBorder_30 : decode c_Land_addBorder 30 = .ok (.iload_n 2, 1) := by decide +kernel
theorem d_Land_addBorder_31 : decode c_Land_addBorder 31 = .ok (.iastore, 1) := by decide +kernel
theorem d_Land_addBorder_32 : decode c_Land_addBorder 32 = .ok (.aload_n 0, 1) := by decide +kernel
theorem d_Land_addBorder_33 : decode c_Land_addBorder 33 = .ok (.getfield 36, 3) := by decide +kernel
theorem d_Land_addBorder_36 : decode c_Land_addBorder 36 = .ok (.iload 4, 2) := by decide +kernel
theorem d_Land_addBorder_38 : decode c_Land_addBorder 38 = .ok (.iload_n 3, 1) := by decide +kernel
theorem d_Land_addBorder_39 : decode c_Land_addBorder 39 = .ok (.iastore, 1) := by decide +kernel
theorem d_Land_addBorder_40 : decode c_Land_addBorder 40 = .ok (.aload_n 0, 1) := by decide +kernel
theorem d_Land_addBorder_41 : decode c_Land_addBorder 41 = .ok (.getfield 24, 3) := by decide +kernel
theorem d_Land_addBorder_44 : decode c_Land_addBorder 44 = .ok (.iload_n 1, 1) := by decide +kernel
theorem d_Land_addBorder_45 : decode c_Land_addBorder 45 = .ok (.dup2, 1) := by decide +kernel
theorem d_Land_addBorder_46 : decode c_Land_addBorder 46 = .ok (.iaload, 1) := by decide +kernel
theorem d_Land_addBorder_47 : decode c_Land_addBorder 47 = .ok (.iload_n 2, 1) := by decide +kernel
theorem d_Land_addBorder_48 : decode c_Land_addBorder 48 = .ok (.invokestatic 50, 3) := by decide +kernel
theorem d_Land_addBorder_51 : decode c_Land_addBorder 51 = .ok (.ior, 1) := by decide +kernel
theorem d_Land_addBorder_52 : decode c_Land_addBorder 52 = .ok (.iastore, 1) := by decide +kernel
theorem d_Land_addBorder_53 : decode c_Land_addBorder 53 = .ok (.aload_n 0, 1) := by decide +kernel
theorem d_Land_addBorder_54 : decode c_Land_addBorder 54 = .ok (.getfield 24, 3) := by decide +kernel
theorem d_Land_addBorder_57 : decode c_Land_addBorder 57 = .ok (.iload_n 2, 1) := by decide +kernel
theorem d_Land_addBorder_58 : decode c_Land_addBorder 58 = .ok (.dup2, 1) := by decide +kernel
theorem d_Land_addBorder_59 : decode c_Land_addBorder 59 = .ok (.iaload, 1) := by decide +kernel
theorem d_Land_addBorder_60 : decode c_Land_addBorder 60 = .ok (.iload_n 1, 1) := by decide +kernel
theorem d_Land_addBorder_61 : decode c_Land_addBorder 61 = .ok (.invokestatic 50, 3) := by decide +kernel
theorem d_Land_addBorder_64 : decode c_Land_addBorder 64 = .ok (.ior, 1) := by decide +kernel
theorem d_Land_addBorder_65 : decode c_Land_addBorder 65 = .ok (.iastore, 1) := by decide +kernel
theorem d_Land_addBorder_66 : decode c_Land_addBorder 66 = .ok (.iload 4, 2) := by decide +kernel
theorem d_Land_addBorder_68 : decode c_Land_addBorder 68 = .ok (.ireturn, 1) := by decide +kernel
theorem d_Land_changePeople_0 : decode c_Land_changePeople 0 = .ok (.aload_n 0, 1) := by decide +kernel
theorem d_Land_changePeople_1 : decode c_Land_changePeople 1 = .ok (.getfield 9, 3) := by decide +kernel
theorem d_Land_changePeople_4 : decode c_Land_changePeople 4 = .ok (.iload_n 1, 1) := by decide +kernel
theorem d_Land_changePeople_5 : decode c_Land_changePeople 5 = .ok (.iaload, 1) := by decide +kernel
theorem d_Land_changePeople_6 : decode c_Land_changePeople 6 = .ok (.istore_n 3, 1) := by decide +kernel
theorem d_Land_changePeople_7 : decode c_Land_changePeople 7 = .ok (.aload_n 0, 1) := by decide +kernel
theorem d_Land_changePeople_8 : decode c_Land_changePeople 8 = .ok (.getfield 9, 3) := by decide +kernel
theorem d_Land_changePeople_11 : decode c_Land_changePeople 11 = .ok (.iload_n 1, 1) := by decide +kernel
theorem d_Land_changePeople_12 : decode c_Land_changePeople 12 = .ok (.iload_n 2, 1) := by decide +kernel
theorem d_Land_changePeople_13 : decode c_Land_changePeople 13 = .ok (.iastore, 1) := by decide +kernel
theorem d_Land_changePeople_14 : decode c_Land_changePeople 14 = .ok (.aload_n 0, 1) := by decide +kernel
theorem d_Land_changePeople_15 : decode c_Land_changePeople 15 = .ok (.dup, 1) := by decide +kernel
theorem d_Land_changePeople_16 : decode c_Land_changePeople 16 = .ok (.getfield 47, 3) := by decide +kernel
theorem d_Land_changePeople_19 : decode c_Land_changePeople 19 = .ok (.iload_n 2, 1) := by decide +kernel
theorem d_Land_changePeople_20 : decode c_Land_changePeople 20 = .ok (.iload_n 3, 1) := by decide +kernel
theorem d_Land_changePeople_21 : decode c_Land_changePeople 21 = .ok (.isub, 1) := by decide +kernel
theorem d_Land_changePeople_22 : decode c_Land_changePeople 22 = .ok (.iadd, 1) := by decide +kernel
theorem d_Land_changePeople_23 : decode c_Land_changePeople 23 = .ok (.putfield 47, 3) := by decide +kernel
theorem d_Land_changePeople_26 : decode c_Land_changePeople 26 = .ok (.iload_n 3, 1) := by decide +kernel
theorem d_Land_changePeople_27 : decode c_Land_changePeople 27 = .ok (.ireturn, 1) := by decide +kernel
theorem d_Land_everywhere_0 : decode c_Land_everywhere 0 = .ok (.iconst 0, 1) := by decide +kernel
theorem d_Land_everywhere_1 : decode c_Land_everywhere 1 = .ok (.istore_n 1, 1) := by decide +kernel
theorem d_Land_everywhere_2 : decode c_Land_everywhere 2 = .ok (.iconst 0, 1) := by decide +kernel
theorem d_Land_everywhere_3 : decode c_Land_everywhere 3 = .ok (.istore_n 2, 1) := by decide +kernel
theorem d_Land_everywhere_4 : decode c_Land_everywhere 4 = .ok (.iload_n 2, 1) := by decide +kernel
theorem d_Land_everywhere_5 : decode c_Land_everywhere 5 = .ok (.aload_n 0, 1) := by decide +kernel
theorem d_Land_everywhere_6 : decode c_Land_everywhere 6 = .ok (.getfield 39, 3) := by decide +kernel
theorem d_Land_everywhere_9 : decode c_Land_everywhere 9 = .ok (.if_icmp .ge 16, 3) := by decide +kernel
theorem d_Land_everywhere_12 : decode c_Land_everywhere 12 = .ok (.iload_n 1, 1) := by decide +kernel
theorem d_Land_everywhere_13 : decode c_Land_everywhere 13 = .ok (.iload_n 2, 1) := by decide +kernel
theorem d_Land_everywhere_14 : decode c_Land_everywhere 14 = .ok (.invokestatic 50, 3) := by decide +kernel
theorem d_Land_everywhere_17 : decode c_Land_everywhere 17 = .ok (.ior, 1) := by decide +kernel
theorem d_Land_everywhere_18 : decode c_Land_everywhere 18 = .ok (.istore_n 1, 1) := by decide +kernel
theorem d_Land_everywhere_19 : decode c_Land_everywhere 19 = .ok (.iinc 2 1, 3) := by decide +kernel
theorem d_Land_everywhere_22 : decode c_Land_everywhere 22 = .ok (.goto (-18), 3) := by decide +kernel
theorem d_Land_everywhere_25 : decode c_Land_everywhere 25 = .ok (.iload_n 1, 1) := by decide +kernel
theorem d_Land_everywhere_26 : decode c_Land_everywhere 26 = .ok (.ireturn, 1) := by decide +kernel
theorem d_Land_isInside_0 : decode c_Land_isInside 0 = .ok (.iload_n 2, 1) := by decide +kernel
theorem d_Land_isInside_1 : decode c_Land_isInside 1 = .ok (.aload_n 0, 1) := by decide +kernel
theorem d_Land_isInside_2 : decode c_Land_isInside 2 = .ok (.getfield 30, 3) := by decide +kernel
theorem d_Land_isInside_5 : decode c_Land_isInside 5 = .ok (.iload_n 1, 1) := by decide +kernel
theorem d_Land_isInside_6 : decode c_Land_isInside 6 = .ok (.iaload, 1) := by decide +kernel
theorem d_Land_isInside_7 : decode c_Land_isInside 7 = .ok (.invokestatic 59, 3) := by decide +kernel
theorem d_Land_isInside_10 : decode c_Land_isInside 10 = .ok (.ifCond .eq 20, 3) := by decide +kernel
theorem d_Land_isInside_13 : decode c_Land_isInside 13 = .ok (.iload_n 2, 1) := by decide +kernel
theorem d_Land_isInside_14 : decode c_Land_isInside 14 = .ok (.aload_n 0, 1) := by decide +kernel
theorem d_Land_isInside_15 : decode c_Land_isInside 15 = .ok (.getfield 33, 3) := by decide +kernel
theorem d_Land_isInside_18 : decode c_Land_isInside 18 = .ok (.iload_n 1, 1) := by decide +kernel
theorem d_Land_isInside_19 : decode c_Land_isInside 19 = .ok (.iaload, 1) := by decide +kernel
theorem d_Land_isInside_20 : decode c_Land_isInside 20 = .ok (.invokestatic 59, 3) := by decide +kernel
theorem d_Land_isInside_23 : decode c_Land_isInside 23 = .ok (.ifCond .eq 7, 3) := by decide +kernel
theorem d_Land_isInside_26 : decode c_Land_isInside 26 = .ok (.iconst 1, 1) := by decide +kernel
theorem d_Land_isInside_27 : decode c_Land_isInside 27 = .ok (.goto 4, 3) := by decide +kernel
theorem d_Land_isInside_30 : decode c_Land_isInside 30 = .ok (.iconst 0, 1) := by decide +kernel
theorem d_Land_isInside_31 : decode c_Land_isInside 31 = .ok (.ireturn, 1) := by decide +kernel
theorem d_Land_outline_0 : decode c_Land_outline 0 = .ok (.iconst 0, 1) := by decide +kernel
theorem d_Land_outline_1 : decode c_Land_outline 1 = .ok (.istore_n 2, 1) := by decide +kernel
theorem d_Land_outline_2 : decode c_Land_outline 2 = .ok (.iconst 0, 1) := by decide +kernel
theorem d_Land_outline_3 : decode c_Land_outline 3 = .ok (.istore_n 3, 1) := by decide +kernel
theorem d_Land_outline_4 : decode c_Land_outline 4 = .ok (.iload_n 3, 1) := by decide +kernel
theorem d_Land_outline_5 : decode c_Land_outline 5 = .ok (.aload_n 0, 1) := by decide +kernel
theorem d_Land_outline_6 : decode c_Land_outline 6 = .ok (.getfield 56, 3) := by decide +kernel
theorem d_Land_outline_9 : decode c_Land_outline 9 = .ok (.if_icmp .ge 41, 3) := by decide +kernel
theorem d_Land_outline_12 : decode c_Land_outline 12 = .ok (.iload_n 1, 1) := by decide +kernel
theorem d_Land_outline_13 : decode c_Land_outline 13 = .ok (.aload_n 0, 1) := by decide +kernel
theorem d_Land_outline_14 : decode c_Land_outline 14 = .ok (.getfield 30, 3) := by decide +kernel
theorem d_Land_outline_17 : decode c_Land_outline 17 = .ok (.iload_n 3, 1) := by decide +kernel
theorem d_Land_outline_18 : decode c_Land_outline 18 = .ok (.iaload, 1) := by decide +kernel
theorem d_Land_outline_19 : decode c_Land_outline 19 = .ok (.invokestatic 59, 3) := by decide +kernel
theorem d_Land_outline_22 : decode c_Land_outline 22 = .ok (.iload_n 1, 1) := by decide +kernel
theorem d_Land_outline_23 : decode c_Land_outline 23 = .ok (.aload_n 0, 1) := by decide +kernel
theorem d_Land_outline_24 : decode c_Land_outline 24 = .ok (.getfield 33, 3) := by decide +kernel
theorem d_Land_outline_27 : decode c_Land_outline 27 = .ok (.iload_n 3, 1) := by decide +kernel
theorem d_Land_outline_28 : decode c_Land_outline 28 = .ok (.iaload, 1) := by decide +kernel
theorem d_Land_outline_29 : decode c_Land_outline 29 = .ok (.invokestatic 59, 3) := by decide +kernel
theorem d_Land_outline_32 : decode c_Land_outline 32 = .ok (.if_icmp .eq 12, 3) := by decide +kernel
theorem d_Land_outline_35 : decode c_Land_outline 35 = .ok (.iload_n 2, 1) := by decide +kernel
theorem d_Land_outline_36 : decode c_Land_outline 36 = .ok (.aload_n 0, 1) := by decide +kernel
theorem d_Land_outline_37 : decode c_Land_outline 37 = .ok (.getfield 36, 3) := by decide +kernel
theorem d_Land_outline_40 : decode c_Land_outline 40 = .ok (.iload_n 3, 1) := by decide +kernel
theorem d_Land_outline_41 : decode c_Land_outline 41 = .ok (.iaload, 1) := by decide +kernel
theorem d_Land_outline_42 : decode c_Land_outline 42 = .ok (.iadd, 1) := by decide +kernel
theorem d_Land_outline_43 : decode c_Land_outline 43 = .ok (.istore_n 2, 1) := by decide +kernel
theorem d_Land_outline_44 : decode c_Land_outline 44 = .ok (.iinc 3 1, 3) := by decide +kernel
theorem d_Land_outline_47 : decode c_Land_outline 47 = .ok (.goto (-43), 3) := by decide +kernel
theorem d_Land_outline_50 : decode c_Land_outline 50 = .ok (.iload_n 2, 1) := by decide +kernel
theorem d_Land_outline_51 : decode c_Land_outline 51 = .ok (.ireturn, 1) := by decide +kernel
theorem d_Land_outgoing_0 : decode c_Land_outgoing 0 = .ok (.iconst 0, 1) := by decide +kernel
theorem d_Land_outgoing_1 : decode c_Land_outgoing 1 = .ok (.istore_n 2, 1) := by decide +kernel
theorem d_Land_outgoing_2 : decode c_Land_outgoing 2 = .ok (.iconst 0, 1) := by decide +kernel
theorem d_Land_outgoing_3 : decode c_Land_outgoing 3 = .ok (.istore_n 3, 1) := by decide +kernel
theorem d_Land_outgoing_4 : decode c_Land_outgoing 4 = .ok (.iload_n 3, 1) := by decide +kernel
theorem d_Land_outgoing_5 : decode c_Land_outgoing 5 = .ok (.aload_n 0, 1) := by decide +kernel
theorem d_Land_outgoing_6 : decode c_Land_outgoing 6 = .ok (.getfield 56, 3) := by decide +kernel
theorem d_Land_outgoing_9 : decode c_Land_outgoing 9 = .ok (.if_icmp .ge 44, 3) := by decide +kernel
theorem d_Land_outgoing_12 : decode c_Land_outgoing 12 = .ok (.iload_n 1, 1) := by decide +kernel
theorem d_Land_outgoing_13 : decode c_Land_outgoing 13 = .ok (.aload_n 0, 1) := by decide +kernel
theorem d_Land_outgoing_14 : decode c_Land_outgoing 14 = .ok (.getfield 30, 3) := by decide +kernel
theorem d_Land_outgoing_17 : decode c_Land_outgoing 17 = .ok (.iload_n 3, 1) := by decide +kernel
theorem d_Land_outgoing_18 : decode c_Land_outgoing 18 = .ok (.iaload, 1) := by decide +kernel
theorem d_Land_outgoing_19 : decode c_Land_outgoing 19 = .ok (.invokestatic 59, 3) := by decide +kernel
theorem d_Land_outgoing_22 : decode c_Land_outgoing 22 = .ok (.ifCond .eq 25, 3) := by decide +kernel
theorem d_Land_outgoing_25 : decode c_Land_outgoing 25 = .ok (.iload_n 1, 1) := by decide +kernel
theorem d_Land_outgoing_26 : decode c_Land_outgoing 26 = .ok (.aload_n 0, 1) := by decide +kernel
theorem d_Land_outgoing_27 : decode c_Land_outgoing 27 = .ok (.getfield 33, 3) := by decide +kernel
theorem d_Land_outgoing_30 : decode c_Land_outgoing 30 = .ok (.iload_n 3, 1) := by decide +kernel
theorem d_Land_outgoing_31 : decode c_Land_outgoing 31 = .ok (.iaload, 1) := by decide +kernel
theorem d_Land_outgoing_32 : decode c_Land_outgoing 32 = .ok (.invokestatic 59, 3) := by decide +kernel
theorem d_Land_outgoing_35 : decode c_Land_outgoing 35 = .ok (.ifCond .ne 12, 3) := by decide +kernel
theorem d_Land_outgoing_38 : decode c_Land_outgoing 38 = .ok (.iload_n 2, 1) := by decide +kernel
theorem d_Land_outgoing_39 : decode c_Land_outgoing 39 = .ok (.aload_n 0, 1) := by decide +kernel
theorem d_Land_outgoing_40 : decode c_Land_outgoing 40 = .ok (.getfield 36, 3) := by decide +kernel
theorem d_Land_outgoing_43 : decode c_Land_outgoing 43 = .ok (.iload_n 3, 1) := by decide +kernel
theorem d_Land_outgoing_44 : decode c_Land_outgoing 44 = .ok (.iaload, 1) := by decide +kernel
theorem d_Land_outgoing_45 : decode c_Land_outgoing 45 = .ok (.iadd, 1) := by decide +kernel
theorem d_Land_outgoing_46 : decode c_Land_outgoing 46 = .ok (.istore_n 2, 1) := by decide +kernel
theorem d_Land_outgoing_47 : decode c_Land_outgoing 47 = .ok (.iinc 3 1, 3) := by decide +kernel
theorem d_Land_outgoing_50 : decode c_Land_outgoing 50 = .ok (.goto (-46), 3) := by decide +kernel
theorem d_Land_outgoing_53 : decode c_Land_outgoing 53 = .ok (.iload_n 2, 1) := by decide +kernel
theorem d_Land_outgoing_54 : decode c_Land_outgoing 54 = .ok (.ireturn, 1) := by decide +kernel
theorem d_Land_contact_0 : decode c_Land_contact 0 = .ok (.aload_n 0, 1) := by decide +kernel
theorem d_Land_contact_1 : decode c_Land_contact 1 = .ok (.getfield 24, 3) := by decide +kernel
theorem d_Land_contact_4 : decode c_Land_contact 4 = .ok (.iload_n 1, 1) := by decide +kernel
theorem d_Land_contact_5 : decode c_Land_contact 5 = .ok (.iaload, 1) := by decide +kernel
theorem d_Land_contact_6 : decode c_Land_contact 6 = .ok (.iload_n 2, 1) := by decide +kernel
theorem d_Land_contact_7 : decode c_Land_contact 7 = .ok (.iand, 1) := by decide +kernel
theorem d_Land_contact_8 : decode c_Land_contact 8 = .ok (.ifCond .ne 5, 3) := by decide +kernel
theorem d_Land_contact_11 : decode c_Land_contact 11 = .ok (.iconst 0, 1) := by decide +kernel
theorem d_Land_contact_12 : decode c_Land_contact 12 = .ok (.ireturn, 1) := by decide +kernel
theorem d_Land_contact_13 : decode c_Land_contact 13 = .ok (.iconst 0, 1) := by decide +kernel
theorem d_Land_contact_14 : decode c_Land_contact 14 = .ok (.istore_n 3, 1) := by decide +kernel
theorem d_Land_contact_15 : decode c_Land_contact 15 = .ok (.iconst 0, 1) := by decide +kernel
theorem d_Land_contact_16 : decode c_Land_contact 16 = .ok (.istore 4, 2) := by decide +kernel
theorem d_Land_contact_18 : decode c_Land_contact 18 = .ok (.iload 4, 2) := by decide +kernel
theorem d_Land_contact_20 : decode c_Land_contact 20 = .ok (.aload_n 0, 1) := by decide +kernel
theorem d_Land_contact_21 : decode c_Land_contact 21 = .ok (.getfield 56, 3) := by decide +kernel
theorem d_Land_contact_24 : decode c_Land_contact 24 = .ok (.if_icmp .ge 81, 3) := by decide +kernel
theorem d_Land_contact_27 : decode c_Land_contact 27 = .ok (.aload_n 0, 1) := by decide +kernel
theorem d_Land_contact_28 : decode c_Land_contact 28 = .ok (.getfield 30, 3) := by decide +kernel
theorem d_Land_contact_31 : decode c_Land_contact 31 = .ok (.iload 4, 2) := by decide +kernel
theorem d_Land_contact_33 : decode c_Land_contact 33 = .ok (.iaload, 1) := by decide +kernel
theorem d_Land_contact_34 : decode c_Land_contact 34 = .ok (.iload_n 1, 1) := by decide +kernel
theorem d_Land_contact_35 : decode c_Land_contact 35 = .ok (.if_icmp .ne 17, 3) := by decide +kernel
theorem d_Land_contact_38 : decode c_Land_contact 38 = .ok (.iload_n 2, 1) := by decide +kernel
theorem d_Land_contact_39 : decode c_Land_contact 39 = .ok (.aload_n 0, 1) := by decide +kernel
theorem d_Land_contact_40 : decode c_Land_contact 40 = .ok (.getfield 33, 3) := by decide +kernel
theorem d_Land_contact_43 : decode c_Land_contact 43 = .ok (.iload 4, 2) := by decide +kernel
theorem d_Land_contact_45 : decode c_Land_contact 45 = .ok (.iaload, 1) := by decide +kernel
theorem d_Land_contact_46 : decode c_Land_contact 46 = .ok (.invokestatic 59, 3) := by decide +kernel
theorem d_Land_contact_49 : decode c_Land_contact 49 = .ok (.ifCond .ne 28, 3) := by decide +kernel
theorem d_Land_contact_52 : decode c_Land_contact 52 = .ok (.aload_n 0, 1) := by decide +kernel
theorem d_Land_contact_53 : decode c_Land_contact 53 = .ok (.getfield 33, 3) := by decide +kernel
theorem d_Land_contact_56 : decode c_Land_contact 56 = .ok (.iload 4, 2) := by decide +kernel
theorem d_Land_contact_58 : decode c_Land_contact 58 = .ok (.iaload, 1) := by decide +kernel
theorem d_Land_contact_59 : decode c_Land_contact 59 = .ok (.iload_n 1, 1) := by decide +kernel
theorem d_Land_contact_60 : decode c_Land_contact 60 = .ok (.if_icmp .ne 21, 3) := by decide +kernel
theorem d_Land_contact_63 : decode c_Land_contact 63 = .ok (.iload_n 2, 1) := by decide +kernel
theorem d_Land_contact_64 : decode c_Land_contact 64 = .ok (.aload_n 0, 1) := by decide +kernel
theorem d_Land_contact_65 : decode c_Land_contact 65 = .ok (.getfield 30, 3) := by decide +kernel
theorem d_Land_contact_68 : decode c_Land_contact 68 = .ok (.iload 4, 2) := by decide +kernel
theorem d_Land_contact_70 : decode c_Land_contact 70 = .ok (.iaload, 1) := by decide +kernel
theorem d_Land_contact_71 : decode c_Land_contact 71 = .ok (.invokestatic 59, 3) := by decide +kernel
theorem d_Land_contact_74 : decode c_Land_contact 74 = .ok (.ifCond .eq 7, 3) := by decide +kernel
theorem d_Land_contact_77 : decode c_Land_contact 77 = .ok (.iconst 1, 1) := by decide +kernel
theorem d_Land_contact_78 : decode c_Land_contact 78 = .ok (.goto 4, 3) := by decide +kernel
theorem d_Land_contact_81 : decode c_Land_contact 81 = .ok (.iconst 0, 1) := by decide +kernel
theorem d_Land_contact_82 : decode c_Land_contact 82 = .ok (.istore 5, 2) := by decide +kernel
theorem d_Land_contact_84 : decode c_Land_contact 84 = .ok (.iload 5, 2) := by decide +kernel
theorem d_Land_contact_86 : decode c_Land_contact 86 = .ok (.ifCond .eq 13, 3) := by decide +kernel
theorem d_Land_contact_89 : decode c_Land_contact 89 = .ok (.iload_n 3, 1) := by decide +kernel
theorem d_Land_contact_90 : decode c_Land_contact 90 = .ok (.aload_n 0, 1) := by decide +kernel
theorem d_Land_contact_91 : decode c_Land_contact 91 = .ok (.getfield 36, 3) := by decide +kernel
theorem d_Land_contact_94 : decode c_Land_contact 94 = .ok (.iload 4, 2) := by decide +kernel
theorem d_Land_contact_96 : decode c_Land_contact 96 = .ok (.iaload, 1) := by decide +kernel
theorem d_Land_contact_97 : decode c_Land_contact 97 = .ok (.iadd, 1) := by decide +kernel
theorem d_Land_contact_98 : decode c_Land_contact 98 = .ok (.istore_n 3, 1) := by decide +kernel
theorem d_Land_contact_99 : decode c_Land_contact 99 = .ok (.iinc 4 1, 3) := by decide +kernel
theorem d_Land_contact_102 : decode c_Land_contact 102 = .ok (.goto (-84), 3) := by decide +kernel
theorem d_Land_contact_105 : decode c_Land_contact 105 = .ok (.iload_n 3, 1) := by decide +kernel
theorem d_Land_contact_106 : decode c_Land_contact 106 = .ok (.ireturn, 1) := by decide +kernel
theorem d_Law_init_0 : decode c_Law_init 0 = .ok (.aload_n 0, 1) := by decide +kernel
theorem d_Law_init_1 : decode c_Law_init 1 = .ok (.invokespecial 3, 3) := by decide +kernel
theorem d_Law_init_4 : decode c_Law_init 4 = .ok (.aload_n 0, 1) := by decide +kernel
theorem d_Law_init_5 : decode c_Law_init 5 = .ok (.iconst 2, 1) := by decide +kernel
theorem d_Law_init_6 : decode c_Law_init 6 = .ok (.putfield 9, 3) := by decide +kernel
theorem d_Law_init_9 : decode c_Law_init 9 = .ok (.aload_n 0, 1) := by decide +kernel
theorem d_Law_init_10 : decode c_Law_init 10 = .ok (.bipush 100, 2) := by decide +kernel
theorem d_Law_init_12 : decode c_Law_init 12 = .ok (.putfield 15, 3) := by decide +kernel
theorem d_Law_init_15 : decode c_Law_init 15 = .ok (.aload_n 0, 1) := by decide +kernel
theorem d_Law_init_16 : decode c_Law_init 16 = .ok (.bipush 10, 2) := by decide +kernel
theorem d_Law_init_18 : decode c_Law_init 18 = .ok (.putfield 18, 3) := by decide +kernel
theorem d_Law_init_21 : decode c_Law_init 21 = .ok (.aload_n 0, 1) := by decide +kernel
theorem d_Law_init_22 : decode c_Law_init 22 = .ok (.bipush 10, 2) := by decide +kernel
theorem d_Law_init_24 : decode c_Law_init 24 = .ok (.newarray .boolean, 2) := by decide +kernel
theorem d_Law_init_26 : decode c_Law_init 26 = .ok (.putfield 21, 3) := by decide +kernel
theorem d_Law_init_29 : decode c_Law_init 29 = .ok (.aload_n 0, 1) := by decide +kernel
theorem d_Law_init_30 : decode c_Law_init 30 = .ok (.bipush 30, 2) := by decide +kernel
theorem d_Law_init_32 : decode c_Law_init 32 = .ok (.newarray .int, 2) := by decide +kernel
theorem d_Law_init_34 : decode c_Law_init 34 = .ok (.putfield 25, 3) := by decide +kernel
theorem d_Law_init_37 : decode c_Law_init 37 = .ok (.aload_n 0, 1) := by decide +kernel
theorem d_Law_init_38 : decode c_Law_init 38 = .ok (.getfield 25, 3) := by decide +kernel
theorem d_Law_init_41 : decode c_Law_init 41 = .ok (.iconst (-1), 1) := by decide +kernel
theorem d_Law_init_42 : decode c_Law_init 42 = .ok (.invokestatic 29, 3) := by decide +kernel
theorem d_Law_init_45 : decode c_Law_init 45 = .ok (.return_, 1) := by decide +kernel
theorem d_Law_hasDistrict_0 : decode c_Law_hasDistrict 0 = .ok (.iload_n 1, 1) := by decide +kernel
theorem d_Law_hasDistrict_1 : decode c_Law_hasDistrict 1 = .ok (.iconst 0, 1) := by decide +kernel
theorem d_Law_hasDistrict_2 : decode c_Law_hasDistrict 2 = .ok (.aload_n 0, 1) := by decide +kernel
theorem d_Law_hasDistrict_3 : decode c_Law_hasDistrict 3 = .ok (.getfield 9, 3) := by decide +kernel
theorem d_Law_hasDistrict_6 : decode c_Law_hasDistrict 6 = .ok (.iconst 1, 1) := by decide +kernel
theorem d_Law_hasDistrict_7 : decode c_Law_hasDistrict 7 = .ok (.isub, 1) := by decide +kernel
theorem d_Law_hasDistrict_8 : decode c_Law_hasDistrict 8 = .ok (.invokestatic 35, 3) := by decide +kernel
theorem d_Law_hasDistrict_11 : decode c_Law_hasDistrict 11 = .ok (.ireturn, 1) := by decide +kernel
theorem d_Law_fixNothing_0 : decode c_Law_fixNothing 0 = .ok (.aload_n 0, 1) := by decide +kernel
theorem d_Law_fixNothing_1 : decode c_Law_fixNothing 1 = .ok (.getfield 25, 3) := by decide +kernel
theorem d_Law_fixNothing_4 : decode c_Law_fixNothing 4 = .ok (.iconst (-1), 1) := by decide +kernel
theorem d_Law_fixNothing_5 : decode c_Law_fixNothing 5 = .ok (.invokestatic 29, 3) := by decide +kernel
theorem d_Law_fixNothing_8 : decode c_Law_fixNothing 8 = .ok (.return_, 1) := by decide +kernel
theorem d_Law_fixedPlaces_0 : decode c_Law_fixedPlaces 0 = .ok (.iconst 0, 1) := by decide +kernel
theorem d_Law_fixedPlaces_1 : decode c_Law_fixedPlaces 1 = .ok (.istore_n 1, 1) := by decide +kernel
theorem d_Law_fixedPlaces_2 : decode c_Law_fixedPlaces 2 = .ok (.iconst 0, 1) := by decide +kernel
theorem d_Law_fixedPlaces_3 : decode c_Law_fixedPlaces 3 = .ok (.istore_n 2, 1) := by decide +kernel
theorem d_Law_fixedPlaces_4 : decode c_Law_fixedPlaces 4 = .ok (.iload_n 2, 1) := by decide +kernel
theorem d_Law_fixedPlaces_5 : decode c_Law_fixedPlaces 5 = .ok (.bipush 30, 2) := by decide +kernel
theorem d_Law_fixedPlaces_7 : decode c_Law_fixedPlaces 7 = .ok (.if_icmp .ge 22, 3) := by decide +kernel
theorem d_Law_fixedPlaces_10 : decode c_Law_fixedPlaces 10 = .ok (.aload_n 0, 1) := by decide +kernel
theorem d_Law_fixedPlaces_11 : decode c_Law_fixedPlaces 11 = .ok (.getfield 25, 3) := by decide +kernel
theorem d_Law_fixedPlaces_14 : decode c_Law_fixedPlaces 14 = .ok (.iload_n 2, 1) := by decide +kernel
theorem d_Law_fixedPlaces_15 : decode c_Law_fixedPlaces 15 = .ok (.iaload, 1) := by decide +kernel
theorem d_Law_fixedPlaces_16 : decode c_Law_fixedPlaces 16 = .ok (.iconst (-1), 1) := by decide +kernel
theorem d_Law_fixedPlaces_17 : decode c_Law_fixedPlaces 17 = .ok (.if_icmp .eq 6, 3) := by decide +kernel
theorem d_Law_fixedPlaces_20 : decode c_Law_fixedPlaces 20 = .ok (.iinc 1 1, 3) := by decide +kernel
theorem d_Law_fixedPlaces_23 : decode c_Law_fixedPlaces 23 = .ok (.iinc 2 1, 3) := by decide +kernel
theorem d_Law_fixedPlaces_26 : decode c_Law_fixedPlaces 26 = .ok (.goto (-22), 3) := by decide +kernel
theorem d_Law_fixedPlaces_29 : decode c_Law_fixedPlaces 29 = .ok (.iload_n 1, 1) := by decide +kernel
theorem d_Law_fixedPlaces_30 : decode c_Law_fixedPlaces 30 = .ok (.ireturn, 1) := by decide +kernel
theorem d_Mender_init_0 : decode c_Mender_init 0 = .ok (.aload_n 0, 1) := by decide +kernel
theorem d_Mender_init_1 : decode c_Mender_init 1 = .ok (.invokespecial 3, 3) := by decide +kernel
theorem d_Mender_init_4 : decode c_Mender_init 4 = .ok (.aload_n 0, 1) := by decide +kernel
theorem d_Mender_init_5 : decode c_Mender_init 5 = .ok (.aload_n 1, 1) := by decide +kernel
theorem d_Mender_init_6 : decode c_Mender_init 6 = .ok (.putfield 9, 3) := by decide +kernel
theorem d_Mender_init_9 : decode c_Mender_init 9 = .ok (.aload_n 0, 1) := by decide +kernel
theorem d_Mender_init_10 : decode c_Mender_init 10 = .ok (.aload_n 2, 1) := by decide +kernel
theorem d_Mender_init_11 : decode c_Mender_init 11 = .ok (.putfield 15, 3) := by decide +kernel
theorem d_Mender_init_14 : decode c_Mender_init 14 = .ok (.aload_n 0, 1) := by decide +kernel
theorem d_Mender_init_15 : decode c_Mender_init 15 = .ok (.aload_n 3, 1) := by decide +kernel
theorem d_Mender_init_16 : decode c_Mender_init 16 = .ok (.putfield 19, 3) := by decide +kernel
theorem d_Mender_init_19 : decode c_Mender_init 19 = .ok (.aload_n 0, 1) := by decide +kernel
theorem d_Mender_init_20 : decode c_Mender_init 20 = .ok (.new 23, 3) := by decide +kernel
theorem d_Mender_init_23 : decode c_Mender_init 23 = .ok (.dup, 1) := by decide +kernel
theorem d_Mender_init_24 : decode c_Mender_init 24 = .ok (.invokespecial 25, 3) := by decide +kernel
theorem d_Mender_init_27 : decode c_Mender_init 27 = .ok (.putfield 26, 3) := by decide +kernel
theorem d_Mender_init_30 : decode c_Mender_init 30 = .ok (.aload_n 0, 1) := by decide +kernel
theorem d_Mender_init_31 : decode c_Mender_init 31 = .ok (.new 23, 3) := by decide +kernel
theorem d_Mender_init_34 : decode c_Mender_init 34 = .ok (.dup, 1) := by decide +kernel
theorem d_Mender_init_35 : decode c_Mender_init 35 = .ok (.invokespecial 25, 3) := by decide +kernel
theorem d_Mender_init_38 : decode c_Mender_init 38 = .ok (.putfield 30, 3) := by decide +kernel
theorem d_Mender_init_41 : decode c_Mender_init 41 = .ok (.return_, 1) := by decide +kernel
theorem d_Mender_repair_0 : decode c_Mender_repair 0 = .ok (.aload_n 0, 1) := by decide +kernel
theorem d_Mender_repair_1 : decode c_Mender_repair 1 = .ok (.ldc 35, 2) := by decide +kernel
theorem d_Mender_repair_3 : decode c_Mender_repair 3 = .ok (.putfield 36, 3) := by decide +kernel
theorem d_Mender_repair_6 : decode c_Mender_repair 6 = .ok (.aload_n 0, 1) := by decide +kernel
theorem d_Mender_repair_7 : decode c_Mender_repair 7 = .ok (.iconst 0, 1) := by decide +kernel
theorem d_Mender_repair_8 : decode c_Mender_repair 8 = .ok (.putfield 40, 3) := by decide +kernel
theorem d_Mender_repair_11 : decode c_Mender_repair 11 = .ok (.aload_n 0, 1) := by decide +kernel
theorem d_Mender_repair_12 : decode c_Mender_repair 12 = .ok (.getfield 26, 3) := by decide +kernel
theorem d_Mender_repair_15 : decode c_Mender_repair 15 = .ok (.aload_n 1, 1) := by decide +kernel
theorem d_Mender_repair_16 : decode c_Mender_repair 16 = .ok (.invokevirtual 43, 3) := by decide +kernel
theorem d_Mender_repair_19 : decode c_Mender_repair 19 = .ok (.iconst 0, 1) := by decide +kernel
theorem d_Mender_repair_20 : decode c_Mender_repair 20 = .ok (.istore_n 3, 1) := by decide +kernel
theorem d_Mender_repair_21 : decode c_Mender_repair 21 = .ok (.iload_n 3, 1) := by decide +kernel
theorem d_Mender_repair_22 : decode c_Mender_repair 22 = .ok (.iload_n 2, 1) := by decide +kernel
theorem d_Mender_repair_23 : decode c_Mender_repair 23 = .ok (.if_icmp .gt 17, 3) := by decide +kernel
theorem d_Mender_repair_26 : decode c_Mender_repair 26 = .ok (.aload_n 0, 1) := by decide +kernel
theorem d_Mender_repair_27 : decode c_Mender_repair 27 = .ok (.iload_n 3, 1) := by decide +kernel
theorem d_Mender_repair_28 : decode c_Mender_repair 28 = .ok (.iload_n 3, 1) := by decide +kernel
theorem d_Mender_repair_29 : decode c_Mender_repair 29 = .ok (.iconst 0, 1) := by decide +kernel
theorem d_Mender_repair_30 : decode c_Mender_repair 30 = .ok (.iconst 0, 1) := by decide +kernel
theorem d_Mender_repair_31 : decode c_Mender_repair 31 = .ok (.invokevirtual 47, 3) := by decide +kernel
theorem d_Mender_repair_34 : decode c_Mender_repair 34 = .ok (.iinc 3 1, 3) := by decide +kernel
theorem d_Mender_repair_37 : decode c_Mender_repair 37 = .ok (.goto (-16), 3) := by decide +kernel
theorem d_Mender_repair_40 : decode c_Mender_repair 40 = .ok (.aload_n 0, 1) := by decide +kernel
theorem d_Mender_repair_41 : decode c_Mender_repair 41 = .ok (.getfield 36, 3) := by decide +kernel
theorem d_Mender_repair_44 : decode c_Mender_repair 44 = .ok (.ldc 35, 2) := by decide +kernel
theorem d_Mender_repair_46 : decode c_Mender_repair 46 = .ok (.if_icmp .ne 6, 3) := by decide +kernel
theorem d_Mender_repair_49 : decode c_Mender_repair 49 = .ok (.bipush (-6), 2) := by decide +kernel
theorem d_Mender_repair_51 : decode c_Mender_repair 51 = .ok (.ireturn, 1) := by decide +kernel
theorem d_Mender_repair_52 : decode c_Mender_repair 52 = .ok (.aload_n 1, 1) := by decide +kernel
theorem d_Mender_repair_53 : decode c_Mender_repair 53 = .ok (.aload_n 0, 1) := by decide +kernel
theorem d_Mender_repair_54 : decode c_Mender_repair 54 = .ok (.getfield 30, 3) := by decide +kernel
theorem d_Mender_repair_57 : decode c_Mender_repair 57 = .ok (.invokevirtual 43, 3) := by decide +kernel
theorem d_Mender_repair_60 : decode c_Mender_repair 60 = .ok (.aload_n 0, 1) := by decide +kernel
theorem d_Mender_repair_61 : decode c_Mender_repair 61 = .ok (.getfield 36, 3) := by decide +kernel
theorem d_Mender_repair_64 : decode c_Mender_repair 64 = .ok (.ireturn, 1) := by decide +kernel
theorem d_Mender_tryMoves_0 : decode c_Mender_tryMoves 0 = .ok (.iload 4, 2) := by decide +kernel
theorem d_Mender_tryMoves_2 : decode c_Mender_tryMoves 2 = .ok (.aload_n 0, 1) := by decide +kernel
theorem d_Mender_tryMoves_3 : decode c_Mender_tryMoves 3 = .ok (.getfield 36, 3) := by decide +kernel
theorem d_Mender_tryMoves_6 : decode c_Mender_tryMoves 6 = .ok (.if_icmp .le 4, 3) := by decide +kernel
theorem d_Mender_tryMoves_9 : decode c_Mender_tryMoves 9 = .ok (.return_, 1) := by decide +kernel
theorem d_Mender_tryMoves_10 : decode c_Mender_tryMoves 10 = .ok (.iload_n 2, 1) := by decide +kernel
theorem d_Mender_tryMoves_11 : decode c_Mender_tryMoves 11 = .ok (.ifCond .gt 50, 3) := by decide +kernel
theorem d_Mender_tryMoves_14 : decode c_Mender_tryMoves 14 = .ok (.aload_n 0, 1) := by decide +kernel
theorem d_Mender_tryMoves_15 : decode c_Mender_tryMoves 15 = .ok (.iload_n 1, 1) := by decide +kernel
theorem d_Mender_tryMoves_16 : decode c_Mender_tryMoves 16 = .ok (.iload 4, 2) := by decide +kernel
theorem d_Mender_tryMoves_18 : decode c_Mender_tryMoves 18 = .ok (.invokevirtual 51, 3) := by decide +kernel
theorem d_Mender_tryMoves_21 : decode c_Mender_tryMoves 21 = .ok (.ifCond .eq 39, 3) := by decide +kernel
theorem d_Mender_tryMoves_24 : decode c_Mender_tryMoves 24 = .ok (.aload_n 0, 1) := by decide +kernel
theorem d_Mender_tryMoves_25 : decode c_Mender_tryMoves 25 = .ok (.getfield 19, 3) := by decide +kernel
theorem d_Mender_tryMoves_28 : decode c_Mender_tryMoves 28 = .ok (.aload_n 0, 1) := by decide +kernel
theorem d_Mender_tryMoves_29 : decode c_Mender_tryMoves 29 = .ok (.getfield 26, 3) := by decide +kernel
theorem d_Mender_tryMoves_32 : decode c_Mender_tryMoves 32 = .ok (.invokevirtual 55, 3) := by decide +kernel
theorem d_Mender_tryMoves_35 : decode c_Mender_tryMoves 35 = .ok (.ifCond .eq 25, 3) := by decide +kernel
theorem d_Mender_tryMoves_38 : decode c_Mender_tryMoves 38 = .ok (.aload_n 0, 1) := by decide +kernel
theorem d_Mender_tryMoves_39 : decode c_Mender_tryMoves 39 = .ok (.iload 4, 2) := by decide +kernel
theorem d_Mender_tryMoves_41 : decode c_Mender_tryMoves 41 = .ok (.putfield 36, 3) := by decide +kernel
theorem d_Mender_tryMoves_44 : decode c_Mender_tryMoves 44 = .ok (.aload_n 0, 1) := by decide +kernel
theorem d_Mender_tryMoves_45 : decode c_Mender_tryMoves 45 = .ok (.iload_n 1, 1) := by decide +kernel
theorem d_Mender_tryMoves_46 : decode c_Mender_tryMoves 46 = .ok (.putfield 40, 3) := by decide +kernel
theorem d_Mender_tryMoves_49 : decode c_Mender_tryMoves 49 = .ok (.aload_n 0, 1) := by decide +kernel
theorem d_Mender_tryMoves_50 : decode c_Mender_tryMoves 50 = .ok (.getfield 30, 3) := by decide +kernel
theorem d_Mender_tryMoves_53 : decode c_Mender_tryMoves 53 = .ok (.aload_n 0, 1) := by decide +kernel
theorem d_Mender_tryMoves_54 : decode c_Mender_tryMoves 54 = .ok (.getfield 26, 3) := by decide +kernel
theorem d_Mender_tryMoves_57 : decode c_Mender_tryMoves 57 = .ok (.invokevirtual 43, 3) := by decide +kernel
theorem d_Mender_tryMoves_60 : decode c_Mender_tryMoves 60 = .ok (.return_, 1) := by decide +kernel
theorem d_Mender_tryMoves_61 : decode c_Mender_tryMoves 61 = .ok (.iload_n 3, 1) := by decide +kernel
theorem d_Mender_tryMoves_62 : decode c_Mender_tryMoves 62 = .ok (.istore 5, 2) := by decide +kernel
theorem d_Mender_tryMoves_64 : decode c_Mender_tryMoves 64 = .ok (.iload 5, 2) := by decide +kernel
theorem d_Mender_tryMoves_66 : decode c_Mender_tryMoves 66 = .ok (.aload_n 0, 1) := by decide +kernel
theorem d_Mender_tryMoves_67 : decode c_Mender_tryMoves 67 = .ok (.getfield 9, 3) := by decide +kernel
theorem d_Mender_tryMoves_70 : decode c_Mender_tryMoves 70 = .ok (.getfield 61, 3) := by decide +kernel
theorem d_Mender_tryMoves_73 : decode c_Mender_tryMoves 73 = .ok (.if_icmp .ge 96, 3) := by decide +kernel
theorem d_Mender_tryMoves_76 : decode c_Mender_tryMoves 76 = .ok (.aload_n 0, 1) := by decide +kernel
theorem d_Mender_tryMoves_77 : decode c_Mender_tryMoves 77 = .ok (.getfield 26, 3) := by decide +kernel
theorem d_Mender_tryMoves_80 : decode c_Mender_tryMoves 80 = .ok (.getfield 66, 3) := by decide +kernel
theorem d_Mender_tryMoves_83 : decode c_Mender_tryMoves 83 = .ok (.iload 5, 2) := by decide +kernel
theorem d_Mender_tryMoves_85 : decode c_Mender_tryMoves 85 = .ok (.iaload, 1) := by decide +kernel
theorem d_Mender_tryMoves_86 : decode c_Mender_tryMoves 86 = .ok (.istore 6, 2) := by decide +kernel
theorem d_Mender_tryMoves_88 : decode c_Mender_tryMoves 88 = .ok (.iconst 0, 1) := by decide +kernel
theorem d_Mender_tryMoves_89 : decode c_Mender_tryMoves 89 = .ok (.istore 7, 2) := by decide +kernel
theorem d_Mender_tryMoves_91 : decode c_Mender_tryMoves 91 = .ok (.iload 7, 2) := by decide +kernel
theorem d_Mender_tryMoves_93 : decode c_Mender_tryMoves 93 = .ok (.aload_n 0, 1) := by decide +kernel
theorem d_Mender_tryMoves_94 : decode c_Mender_tryMoves 94 = .ok (.getfield 15, 3) := by decide +kernel
theorem d_Mender_tryMoves_97 : decode c_Mender_tryMoves 97 = .ok (.getfield 70, 3) := by decide +kernel
theorem d_Mender_tryMoves_100 : decode c_Mender_tryMoves 100 = .ok (.if_icmp .ge 52, 3) := by decide +kernel
theorem d_Mender_tryMoves_103 : decode c_Mender_tryMoves 103 = .ok (.iload 7, 2) := by decide +kernel
theorem d_Mender_tryMoves_105 : decode c_Mender_tryMoves 105 = .ok (.iload 6, 2) := by decide +kernel
theorem d_Mender_tryMoves_107 : decode c_Mender_tryMoves 107 = .ok (.if_icmp .eq 39, 3) := by decide +kernel
theorem d_Mender_tryMoves_110 : decode c_Mender_tryMoves 110 = .ok (.aload_n 0, 1) := by decide +kernel
theorem d_Mender_tryMoves_111 : decode c_Mender_tryMoves 111 = .ok (.getfield 26, 3) := by decide +kernel
theorem d_Mender_tryMoves_114 : decode c_Mender_tryMoves 114 = .ok (.iload 5, 2) := by decide +kernel
theorem d_Mender_tryMoves_116 : decode c_Mender_tryMoves 116 = .ok (.iload 7, 2) := by decide +kernel
theorem d_Mender_tryMoves_118 : decode c_Mender_tryMoves 118 = .ok (.invokevirtual 75, 3) := by decide +kernel
theorem d_Mender_tryMoves_121 : decode c_Mender_tryMoves 121 = .ok (.aload_n 0, 1) := by decide +kernel
theorem d_Mender_tryMoves_122 : decode c_Mender_tryMoves 122 = .ok (.iload_n 1, 1) := by decide +kernel
theorem d_Mender_tryMoves_123 : decode c_Mender_tryMoves 123 = .ok (.iload_n 2, 1) := by decide +kernel
theorem d_Mender_tryMoves_124 : decode c_Mender_tryMoves 124 = .ok (.iconst 1, 1) := by decide +kernel
theorem d_Mender_tryMoves_125 : decode c_Mender_tryMoves 125 = .ok (.isub, 1) := by decide +kernel
theorem d_Mender_tryMoves_126 : decode c_Mender_tryMoves 126 = .ok (.iload 5, 2) := by decide +kernel
theorem d_Mender_tryMoves_128 : decode c_Mender_tryMoves 128 = .ok (.iconst 1, 1) := by decide +kernel
theorem d_Mender_tryMoves_129 : decode c_Mender_tryMoves 129 = .ok (.iadd, 1) := by decide +kernel
theorem d_Mender_tryMoves_130 : decode c_Mender_tryMoves 130 = .ok (.iload 4, 2) := by decide +kernel
theorem d_Mender_tryMoves_132 : decode c_Mender_tryMoves 132 = .ok (.aload_n 0, 1) := by decide +kernel
theorem d_Mender_tryMoves_133 : decode c_Mender_tryMoves 133 = .ok (.getfield 9, 3) := by decide +kernel
theorem d_Mender_tryMoves_136 : decode c_Mender_tryMoves 136 = .ok (.getfield 79, 3) := by decide +kernel
theorem d_Mender_tryMoves_139 : decode c_Mender_tryMoves 139 = .ok (.iload 5, 2) := by decide +kernel
theorem d_Mender_tryMoves_141 : decode c_Mender_tryMoves 141 = .ok (.iaload, 1) := by decide +kernel
theorem d_Mender_tryMoves_142 : decode c_Mender_tryMoves 142 = .ok (.iadd, 1) := by decide +kernel
theorem d_Mender_tryMoves_143 : decode c_Mender_tryMoves 143 = .ok (.invokevirtual 47, 3) := by decide +kernel
theorem d_Mender_tryMoves_146 : decode c_Mender_tryMoves 146 = .ok (.iinc 7 1, 3) := by decide +kernel
theorem d_Mender_tryMoves_149 : decode c_Mender_tryMoves 149 = .ok (.goto (-58), 3) := by decide +kernel
theorem d_Mender_tryMoves_152 : decode c_Mender_tryMoves 152 = .ok (.aload_n 0, 1) := by decide +kernel
theorem d_Mender_tryMoves_153 : decode c_Mender_tryMoves 153 = .ok (.getfield 26, 3) := by decide +kernel
theorem d_Mender_tryMoves_156 : decode c_Mender_tryMoves 156 = .ok (.iload 5, 2) := by decide +kernel
theorem d_Mender_tryMoves_158 : decode c_Mender_tryMoves 158 = .ok (.iload 6, 2) := by decide +kernel
theorem d_Mender_tryMoves_160 : decode c_Mender_tryMoves 160 = .ok (.invokevirtual 75, 3) := by decide +kernel
theorem d_Mender_tryMoves_163 : decode c_Mender_tryMoves 163 = .ok (.iinc 5 1, 3) := by decide +kernel
theorem d_Mender_tryMoves_166 : decode c_Mender_tryMoves 166 = .ok (.goto (-102), 3) := by decide +kernel
theorem d_Mender_tryMoves_169 : decode c_Mender_tryMoves 169 = .ok (.return_, 1) := by decide +kernel
theorem d_Mender_isBetter_0 : decode c_Mender_isBetter 0 = .ok (.iload_n 2, 1) := by decide +kernel
theorem d_Mender_isBetter_1 : decode c_Mender_isBetter 1 = .ok (.aload_n 0, 1) := by decide +kernel
theorem d_Mender_isBetter_2 : decode c_Mender_isBetter 2 = .ok (.getfield 36, 3) := by decide +kernel
theorem d_Mender_isBetter_5 : decode c_Mender_isBetter 5 = .ok (.if_icmp .lt 33, 3) := by decide +kernel
theorem d_Mender_isBetter_8 : decode c_Mender_isBetter 8 = .ok (.iload_n 2, 1) := by decide +kernel
theorem d_Mender_isBetter_9 : decode c_Mender_isBetter 9 = .ok (.aload_n 0, 1) := by decide +kernel
theorem d_Mender_isBetter_10 : decode c_Mender_isBetter 10 = .ok (.getfield 36, 3) := by decide +kernel
theorem d_Mender_isBetter_13 : decode c_Mender_isBetter 13 = .ok (.if_icmp .ne 29, 3) := by decide +kernel
theorem d_Mender_isBetter_16 : decode c_Mender_isBetter 16 = .ok (.iload_n 1, 1) := by decide +kernel
theorem d_Mender_isBetter_17 : decode c_Mender_isBetter 17 = .ok (.aload_n 0, 1) := by decide +kernel
theorem d_Mender_isBetter_18 : decode c_Mender_isBetter 18 = .ok (.getfield 40, 3) := by decide +kernel
theorem d_Mender_isBetter_21 : decode c_Mender_isBetter 21 = .ok (.if_icmp .ne 21, 3) := by decide +kernel
theorem d_Mender_isBetter_24 : decode c_Mender_isBetter 24 = .ok (.aload_n 0, 1) := by decide +kernel
theorem d_Mender_isBetter_25 : decode c_Mender_isBetter 25 = .ok (.getfield 26, 3) := by decide +kernel
theorem d_Mender_isBetter_28 : decode c_Mender_isBetter 28 = .ok (.aload_n 0, 1) := by decide +kernel
theorem d_Mender_isBetter_29 : decode c_Mender_isBetter 29 = .ok (.getfield 30, 3) := by decide +kernel
theorem d_Mender_isBetter_32 : decode c_Mender_isBetter 32 = .ok (.invokevirtual 82, 3) := by decide +kernel
theorem d_Mender_isBetter_35 : decode c_Mender_isBetter 35 = .ok (.ifCond .eq 7, 3) := by decide +kernel
theorem d_Mender_isBetter_38 : decode c_Mender_isBetter 38 = .ok (.iconst 1, 1) := by decide +kernel
theorem d_Mender_isBetter_39 : decode c_Mender_isBetter 39 = .ok (.goto 4, 3) := by decide +kernel
theorem d_Mender_isBetter_42 : decode c_Mender_isBetter 42 = .ok (.iconst 0, 1) := by decide +kernel
theorem d_Mender_isBetter_43 : decode c_Mender_isBetter 43 = .ok (.ireturn, 1) := by decide +kernel
theorem d_Parting_init_0 : decode c_Parting_init 0 = .ok (.aload_n 0, 1) := by decide +kernel
theorem d_Parting_init_1 : decode c_Parting_init 1 = .ok (.invokespecial 3, 3) := by decide +kernel
theorem d_Parting_init_4 : decode c_Parting_init 4 = .ok (.aload_n 0, 1) := by decide +kernel
theorem d_Parting_init_5 : decode c_Parting_init 5 = .ok (.bipush 30, 2) := by decide +kernel
theorem d_Parting_init_7 : decode c_Parting_init 7 = .ok (.newarray .int, 2) := by decide +kernel
theorem d_Parting_init_9 : decode c_Parting_init 9 = .ok (.putfield 9, 3) := by decide +kernel
theorem d_Parting_init_12 : decode c_Parting_init 12 = .ok (.aload_n 0, 1) := by decide +kernel
theorem d_Parting_init_13 : decode c_Parting_init 13 = .ok (.bipush 6, 2) := by decide +kernel
theorem d_Parting_init_15 : decode c_Parting_init 15 = .ok (.newarray .int, 2) := by decide +kernel
theorem d_Parting_init_17 : decode c_Parting_init 17 = .ok (.putfield 15, 3) := by decide +kernel
theorem d_Parting_init_20 : decode c_Parting_init 20 = .ok (.return_, 1) := by decide +kernel
theorem d_Parting_move_0 : decode c_Parting_move 0 = .ok (.aload_n 0, 1) := by decide +kernel
theorem d_Parting_move_1 : decode c_Parting_move 1 = .ok (.getfield 15, 3) := by decide +kernel
theorem d_Parting_move_4 : decode c_Parting_move 4 = .ok (.aload_n 0, 1) := by decide +kernel
theorem d_Parting_move_5 : decode c_Parting_move 5 = .ok (.getfield 9, 3) := by decide +kernel
theorem d_Parting_move_8 : decode c_Parting_move 8 = .ok (.iload_n 1, 1) := by decide +kernel
theorem d_Parting_move_9 : decode c_Parting_move 9 = .ok (.iaload, 1) := by decide +kernel
theorem d_Parting_move_10 : decode c_Parting_move 10 = .ok (.dup2, 1) := by decide +kernel
theorem d_Parting_move_11 : decode c_Parting_move 11 = .ok (.iaload, 1) := by decide +kernel
theorem d_Parting_move_12 : decode c_Parting_move 12 = .ok (.iload_n 1, 1) := by decide +kernel
theorem d_Parting_move_13 : decode c_Parting_move 13 = .ok (.invokestatic 18, 3) := by decide +kernel
theorem d_Parting_move_16 : decode c_Parting_move 16 = .ok (.iconst (-1), 1) := by decide +kernel
theorem d_Parting_move_17 : decode c_Parting_move 17 = .ok (.ixor, 1) := by decide +kernel
theorem d_Parting_move_18 : decode c_Parting_move 18 = .ok (.iand, 1) := by decide +kernel
theorem d_Parting_move_19 : decode c_Parting_move 19 = .ok (.iastore, 1) := by decide +kernel
theorem d_Parting_move_20 : decode c_Parting_move 20 = .ok (.aload_n 0, 1) := by decide +kernel
theorem d_Parting_move_21 : decode c_Parting_move 21 = .ok (.getfield 15, 3) := by decide +kernel
theorem d_Parting_move_24 : decode c_Parting_move 24 = .ok (.iload_n 2, 1) := by decide +kernel
theorem d_Parting_move_25 : decode c_Parting_move 25 = .ok (.dup2, 1) := by decide +kernel
theorem d_Parting_move_26 : decode c_Parting_move 26 = .ok (.iaload, 1) := by decide +kernel
theorem d_Parting_move_27 : decode c_Parting_move 27 = .ok (.iload_n 1, 1) := by decide +kernel
theorem d_Parting_move_28 : decode c_Parting_move 28 = .ok (.invokestatic 18, 3) := by decide +kernel
theorem d_Parting_move_31 : decode c_Parting_move 31 = .ok (.ior, 1) := by decide +kernel
theorem d_Parting_move_32 : decode c_Parting_move 32 = .ok (.iastore, 1) := by decide +kernel
theorem d_Parting_move_33 : decode c_Parting_move 33 = .ok (.aload_n 0, 1) := by decide +kernel
theorem d_Parting_move_34 : decode c_Parting_move 34 = .ok (.getfield 9, 3) := by decide +kernel
theorem d_Parting_move_37 : decode c_Parting_move 37 = .ok (.iload_n 1, 1) := by decide +kernel
theorem d_Parting_move_38 : decode c_Parting_move 38 = .ok (.iload_n 2, 1) := by decide +kernel
theorem d_Parting_move_39 : decode c_Parting_move 39 = .ok (.iastore, 1) := by decide +kernel
theorem d_Parting_move_40 : decode c_Parting_move 40 = .ok (.return_, 1) := by decide +kernel
theorem d_Parting_gather_0 : decode c_Parting_gather 0 = .ok (.aload_n 0, 1) := by decide +kernel
theorem d_Parting_gather_1 : decode c_Parting_gather 1 = .ok (.getfield 9, 3) := by decide +kernel
theorem d_Parting_gather_4 : decode c_Parting_gather 4 = .ok (.iconst 0, 1) := by decide +kernel
theorem d_Parting_gather_5 : decode c_Parting_gather 5 = .ok (.invokestatic 24, 3) := by decide +kernel
theorem d_Parting_gather_8 : decode c_Parting_gather 8 = .ok (.aload_n 0, 1) := by decide +kernel
theorem d_Parting_gather_9 : decode c_Parting_gather 9 = .ok (.getfield 15, 3) := by decide +kernel
theorem d_Parting_gather_12 : decode c_Parting_gather 12 = .ok (.iconst 0, 1) := by decide +kernel
theorem d_Parting_gather_13 : decode c_Parting_gather 13 = .ok (.invokestatic 24, 3) := by decide +kernel
theorem d_Parting_gather_16 : decode c_Parting_gather 16 = .ok (.aload_n 0, 1) := by decide +kernel
theorem d_Parting_gather_17 : decode c_Parting_gather 17 = .ok (.getfield 15, 3) := by decide +kernel
theorem d_Parting_gather_20 : decode c_Parting_gather 20 = .ok (.iconst 0, 1) := by decide +kernel
theorem d_Parting_gather_21 : decode c_Parting_gather 21 = .ok (.iload_n 1, 1) := by decide +kernel
theorem d_Parting_gather_22 : decode c_Parting_gather 22 = .ok (.iastore, 1) := by decide +kernel
theorem d_Parting_gather_23 : decode c_Parting_gather 23 = .ok (.return_, 1) := by decide +kernel
theorem d_Parting_deal_0 : decode c_Parting_deal 0 = .ok (.aload_n 0, 1) := by decide +kernel
theorem d_Parting_deal_1 : decode c_Parting_deal 1 = .ok (.getfield 15, 3) := by decide +kernel
theorem d_Parting_deal_4 : decode c_Parting_deal 4 = .ok (.iload_n 1, 1) := by decide +kernel
theorem d_Parting_deal_5 : decode c_Parting_deal 5 = .ok (.iload_n 2, 1) := by decide +kernel
theorem d_Parting_deal_6 : decode c_Parting_deal 6 = .ok (.iastore, 1) := by decide +kernel
theorem d_Parting_deal_7 : decode c_Parting_deal 7 = .ok (.iconst 0, 1) := by decide +kernel
theorem d_Parting_deal_8 : decode c_Parting_deal 8 = .ok (.istore_n 3, 1) := by decide +kernel
theorem d_Parting_deal_9 : decode c_Parting_deal 9 = .ok (.iload_n 3, 1) := by decide +kernel
theorem d_Parting_deal_10 : decode c_Parting_deal 10 = .ok (.bipush 30, 2) := by decide +kernel
theorem d_Parting_deal_12 : decode c_Parting_deal 12 = .ok (.if_icmp .ge 24, 3) := by decide +kernel
theorem d_Parting_deal_15 : decode c_Parting_deal 15 = .ok (.iload_n 2, 1) := by decide +kernel
theorem d_Parting_deal_16 : decode c_Parting_deal 16 = .ok (.iload_n 3, 1) := by decide +kernel
theorem d_Parting_deal_17 : decode c_Parting_deal 17 = .ok (.invokestatic 30, 3) := by decide +kernel
theorem d_Parting_deal_20 : decode c_Parting_deal 20 = .ok (.ifCond .eq 10, 3) := by decide +kernel
theorem d_Parting_deal_23 : decode c_Parting_deal 23 = .ok (.aload_n 0, 1) := by decide +kernel
theorem d_Parting_deal_24 : decode c_Parting_deal 24 = .ok (.getfield 9, 3) := by decide +kernel
theorem d_Parting_deal_27 : decode c_Parting_deal 27 = .ok (.iload_n 3, 1) := by decide +kernel
theorem d_Parting_deal_28 : decode c_Parting_deal 28 = .ok (.iload_n 1, 1) := by decide +kernel
theorem d_Parting_deal_29 : decode c_Parting_deal 29 = .ok (.iastore, 1) := by decide +kernel
theorem d_Parting_deal_30 : decode c_Parting_deal 30 = .ok (.iinc 3 1, 3) := by decide +kernel
theorem d_Parting_deal_33 : decode c_Parting_deal 33 = .ok (.goto (-24), 3) := by decide +kernel
theorem d_Parting_deal_36 : decode c_Parting_deal 36 = .ok (.return_, 1) := by decide +kernel
theorem d_Parting_become_0 : decode c_Parting_become 0 = .ok (.aload_n 1, 1) := by decide +kernel
theorem d_Parting_become_1 : decode c_Parting_become 1 = .ok (.getfield 9, 3) := by decide +kernel
theorem d_Parting_become_4 : decode c_Parting_become 4 = .ok (.iconst 0, 1) := by decide +kernel
theorem d_Parting_become_5 : decode c_Parting_become 5 = .ok (.aload_n 0, 1) := by decide +kernel
theorem d_Parting_become_6 : decode c_Parting_become 6 = .ok (.getfield 9, 3) := by decide +kernel
theorem d_Parting_become_9 : decode c_Parting_become 9 = .ok (.iconst 0, 1) := by decide +kernel
theorem d_Parting_become_10 : decode c_Parting_become 10 = .ok (.bipush 30, 2) := by decide +kernel
theorem d_Parting_become_12 : decode c_Parting_become 12 = .ok (.invokestatic 34, 3) := by decide +kernel
theorem d_Parting_become_15 : decode c_Parting_become 15 = .ok (.aload_n 1, 1) := by decide +kernel
theorem d_Parting_become_16 : decode c_Parting_become 16 = .ok (.getfield 15, 3) := by decide +kernel
theorem d_Parting_become_19 : decode c_Parting_become 19 = .ok (.iconst 0, 1) := by decide +kernel
theorem d_Parting_become_20 : decode c_Parting_become 20 = .ok (.aload_n 0, 1) := by decide +kernel
theorem d_Parting_become_21 : decode c_Parting_become 21 = .ok (.getfield 15, 3) := by decide +kernel
theorem d_Parting_become_24 : decode c_Parting_become 24 = .ok (.iconst 0, 1) := by decide +kernel
theorem d_Parting_become_25 : decode c_Parting_become 25 = .ok (.bipush 6, 2) := by decide +kernel
theorem d_Parting_become_27 : decode c_Parting_become 27 = .ok (.invokestatic 34, 3) := by decide +kernel
theorem d_Parting_become_30 : decode c_Parting_become 30 = .ok (.return_, 1) := by decide +kernel
theorem d_Parting_comesAhead_0 : decode c_Parting_comesAhead 0 = .ok (.iconst 0, 1) := by decide +kernel
theorem d_Parting_comesAhead_1 : decode c_Parting_comesAhead 1 = .ok (.istore_n 2, 1) := by decide +kernel
theorem d_Parting_comesAhead_2 : decode c_Parting_comesAhead 2 = .ok (.iload_n 2, 1) := by decide +kernel
theorem d_Parting_comesAhead_3 : decode c_Parting_comesAhead 3 = .ok (.bipush 30, 2) := by decide +kernel
theorem d_Parting_comesAhead_5 : decode c_Parting_comesAhead 5 = .ok (.if_icmp .ge 45, 3) := by decide +kernel
theorem d_Parting_comesAhead_8 : decode c_Parting_comesAhead 8 = .ok (.aload_n 0, 1) := by decide +kernel
theorem d_Parting_comesAhead_9 : decode c_Parting_comesAhead 9 = .ok (.getfield 9, 3) := by decide +kernel
theorem d_Parting_comesAhead_12 : decode c_Parting_comesAhead 12 = .ok (.iload_n 2, 1) := by decide +kernel
theorem d_Parting_comesAhead_13 : decode c_Parting_comesAhead 13 = .ok (.iaload, 1) := by decide +kernel
theorem d_Parting_comesAhead_14 : decode c_Parting_comesAhead 14 = .ok (.aload_n 1, 1) := by decide +kernel
theorem d_Parting_comesAhead_15 : decode c_Parting_comesAhead 15 = .ok (.getfield 9, 3) := by decide +kernel
theorem d_Parting_comesAhead_18 : decode c_Parting_comesAhead 18 = .ok (.iload_n 2, 1) := by decide +kernel
theorem d_Parting_comesAhead_19 : decode c_Parting_comesAhead 19 = .ok (.iaload, 1) := by decide +kernel
theorem d_Parting_comesAhead_20 : decode c_Parting_comesAhead 20 = .ok (.if_icmp .eq 24, 3) := by decide +kernel
theorem d_Parting_comesAhead_23 : decode c_Parting_comesAhead 23 = .ok (.aload_n 0, 1) := by decide +kernel
theorem d_Parting_comesAhead_24 : decode c_Parting_comesAhead 24 = .ok (.getfield 9, 3) := by decide +kernel
theorem d_Parting_comesAhead_27 : decode c_Parting_comesAhead 27 = .ok (.iload_n 2, 1) := by decide +kernel
theorem d_Parting_comesAhead_28 : decode c_Parting_comesAhead 28 = .ok (.iaload, 1) := by decide +kernel
theorem d_Parting_comesAhead_29 : decode c_Parting_comesAhead 29 = .ok (.aload_n 1, 1) := by decide +kernel
theorem d_Parting_comesAhead_30 : decode c_Parting_comesAhead 30 = .ok (.getfield 9, 3) := by decide +kernel
theorem d_Parting_comesAhead_33 : decode c_Parting_comesAhead 33 = .ok (.iload_n 2, 1) := by decide +kernel
theorem d_Parting_comesAhead_34 : decode c_Parting_comesAhead 34 = .ok (.iaload, 1) := by decide +kernel
theorem d_Parting_comesAhead_35 : decode c_Parting_comesAhead 35 = .ok (.if_icmp .ge 7, 3) := by decide +kernel
theorem d_Parting_comesAhead_38 : decode c_Parting_comesAhead 38 = .ok (.iconst 1, 1) := by decide +kernel
theorem d_Parting_comesAhead_39 : decode c_Parting_comesAhead 39 = .ok (.goto 4, 3) := by decide +kernel
theorem d_Parting_comesAhead_42 : decode c_Parting_comesAhead 42 = .ok (.iconst 0, 1) := by decide +kernel
theorem d_Parting_comesAhead_43 : decode c_Parting_comesAhead 43 = .ok (.ireturn, 1) := by decide +kernel
theorem d_Parting_comesAhead_44 : decode c_Parting_comesAhead 44 = .ok (.iinc 2 1, 3) := by decide +kernel
theorem d_Parting_comesAhead_47 : decode c_Parting_comesAhead 47 = .ok (.goto (-45), 3) := by decide +kernel
theorem d_Parting_comesAhead_50 : decode c_Parting_comesAhead 50 = .ok (.iconst 0, 1) := by decide +kernel
theorem d_Parting_comesAhead_51 : decode c_Parting_comesAhead 51 = .ok (.ireturn, 1) := by decide +kernel
theorem d_Scale_init_0 : decode c_Scale_init 0 = .ok (.aload_n 0, 1) := by decide +kernel
theorem d_Scale_init_1 : decode c_Scale_init 1 = .ok (.invokespecial 3, 3) := by decide +kernel
theorem d_Scale_init_4 : decode c_Scale_init 4 = .ok (.aload_n 0, 1) := by decide +kernel
theorem d_Scale_init_5 : decode c_Scale_init 5 = .ok (.aload_n 1, 1) := by decide +kernel
theorem d_Scale_init_6 : decode c_Scale_init 6 = .ok (.putfield 9, 3) := by decide +kernel
theorem d_Scale_init_9 : decode c_Scale_init 9 = .ok (.aload_n 0, 1) := by decide +kernel
theorem d_Scale_init_10 : decode c_Scale_init 10 = .ok (.aload_n 2, 1) := by decide +kernel
theorem d_Scale_init_11 : decode c_Scale_init 11 = .ok (.putfield 15, 3) := by decide +kernel
theorem d_Scale_init_14 : decode c_Scale_init 14 = .ok (.aload_n 0, 1) := by decide +kernel
theorem d_Scale_init_15 : decode c_Scale_init 15 = .ok (.bipush 6, 2) := by decide +kernel
theorem d_Scale_init_17 : decode c_Scale_init 17 = .ok (.newarray .int, 2) := by decide +kernel
theorem d_Scale_init_19 : decode c_Scale_init 19 = .ok (.putfield 19, 3) := by decide +kernel
theorem d_Scale_init_22 : decode c_Scale_init 22 = .ok (.return_, 1) := by decide +kernel
theorem d_Scale_weigh_0 : decode c_Scale_weigh 0 = .ok (.iconst 0, 1) := by decide +kernel
theorem d_Scale_weigh_1 : decode c_Scale_weigh 1 = .ok (.istore_n 3, 1) := by decide +kernel
theorem d_Scale_weigh_2 : decode c_Scale_weigh 2 = .ok (.iload_n 3, 1) := by decide +kernel
theorem d_Scale_weigh_3 : decode c_Scale_weigh 3 = .ok (.aload_n 0, 1) := by decide +kernel
theorem d_Scale_weigh_4 : decode c_Scale_weigh 4 = .ok (.getfield 15, 3) := by decide +kernel
theorem d_Scale_weigh_7 : decode c_Scale_weigh 7 = .ok (.getfield 23, 3) := by decide +kernel
theorem d_Scale_weigh_10 : decode c_Scale_weigh 10 = .ok (.if_icmp .ge 26, 3) := by decide +kernel
theorem d_Scale_weigh_13 : decode c_Scale_weigh 13 = .ok (.aload_n 0, 1) := by decide +kernel
theorem d_Scale_weigh_14 : decode c_Scale_weigh 14 = .ok (.getfield 19, 3) := by decide +kernel
theorem d_Scale_weigh_17 : decode c_Scale_weigh 17 = .ok (.iload_n 3, 1) := by decide +kernel
theorem d_Scale_weigh_18 : decode c_Scale_weigh 18 = .ok (.aload_n 0, 1) := by decide +kernel
theorem d_Scale_weigh_19 : decode c_Scale_weigh 19 = .ok (.aload_n 1, 1) := by decide +kernel
theorem d_Scale_weigh_20 : decode c_Scale_weigh 20 = .ok (.getfield 29, 3) := by decide +kernel
theorem d_Scale_weigh_23 : decode c_Scale_weigh 23 = .ok (.iload_n 3, 1) := by decide +kernel
theorem d_Scale_weigh_24 : decode c_Scale_weigh 24 = .ok (.iaload, 1) := by decide +kernel
theorem d_Scale_weigh_25 : decode c_Scale_weigh 25 = .ok (.iload_n 2, 1) := by decide +kernel
theorem d_Scale_weigh_26 : decode c_Scale_weigh 26 = .ok (.invokevirtual 34, 3) := by decide +kernel
theorem d_Scale_weigh_29 : decode c_Scale_weigh 29 = .ok (.iastore, 1) := by decide +kernel
theorem d_Scale_weigh_30 : decode c_Scale_weigh 30 = .ok (.iinc 3 1, 3) := by decide +kernel
theorem d_Scale_weigh_33 : decode c_Scale_weigh 33 = .ok (.goto (-31), 3) := by decide +kernel
theorem d_Scale_weigh_36 : decode c_Scale_weigh 36 = .ok (.aload_n 0, 1) := by decide +kernel
theorem d_Scale_weigh_37 : decode c_Scale_weigh 37 = .ok (.iload_n 2, 1) := by decide +kernel
theorem d_Scale_weigh_38 : decode c_Scale_weigh 38 = .ok (.invokevirtual 38, 3) := by decide +kernel
theorem d_Scale_weigh_41 : decode c_Scale_weigh 41 = .ok (.ireturn, 1) := by decide +kernel
theorem d_Scale_together_0 : decode c_Scale_together 0 = .ok (.iconst 0, 1) := by decide +kernel
theorem d_Scale_together_1 : decode c_Scale_together 1 = .ok (.istore_n 2, 1) := by decide +kernel
theorem d_Scale_together_2 : decode c_Scale_together 2 = .ok (.iconst 0, 1) := by decide +kernel
theorem d_Scale_together_3 : decode c_Scale_together 3 = .ok (.istore_n 3, 1) := by decide +kernel
theorem d_Scale_together_4 : decode c_Scale_together 4 = .ok (.ldc 44, 2) := by decide +kernel
theorem d_Scale_together_6 : decode c_Scale_together 6 = .ok (.istore 4, 2) := by decide +kernel
theorem d_Scale_together_8 : decode c_Scale_together 8 = .ok (.iconst 0, 1) := by decide +kernel
theorem d_Scale_together_9 : decode c_Scale_together 9 = .ok (.istore 5, 2) := by decide +kernel
theorem d_Scale_together_11 : decode c_Scale_together 11 = .ok (.iload 5, 2) := by decide +kernel
theorem d_Scale_together_13 : decode c_Scale_together 13 = .ok (.aload_n 0, 1) := by decide +kernel
theorem d_Scale_together_14 : decode c_Scale_together 14 = .ok (.getfield 15, 3) := by decide +kernel
theorem d_Scale_together_17 : decode c_Scale_together 17 = .ok (.getfield 23, 3) := by decide +kernel
theorem d_Scale_together_20 : decode c_Scale_together 20 = .ok (.if_icmp .ge 45, 3) := by decide +kernel
theorem d_Scale_together_23 : decode c_Scale_together 23 = .ok (.iload_n 2, 1) := by decide +kernel
theorem d_Scale_together_24 : decode c_Scale_together 24 = .ok (.aload_n 0, 1) := by decide +kernel
theorem d_Scale_together_25 : decode c_Scale_together 25 = .ok (.getfield 19, 3) := by decide +kernel
theorem d_Scale_together_28 : decode c_Scale_together 28 = .ok (.iload 5, 2) := by decide +kernel
theorem d_Scale_together_30 : decode c_Scale_together 30 = .ok (.iaload, 1) := by decide +kernel
theorem d_Scale_together_31 : decode c_Scale_together 31 = .ok (.iadd, 1) := by decide +kernel
theorem d_Scale_together_32 : decode c_Scale_together 32 = .ok (.istore_n 2, 1) := by decide +kernel
theorem d_Scale_together_33 : decode c_Scale_together 33 = .ok (.iload_n 3, 1) := by decide +kernel
theorem d_Scale_together_34 : decode c_Scale_together 34 = .ok (.aload_n 0, 1) := by decide +kernel
theorem d_Scale_together_35 : decode c_Scale_together 35 = .ok (.getfield 19, 3) := by decide +kernel
theorem d_Scale_together_38 : decode c_Scale_together 38 = .ok (.iload 5, 2) := by decide +kernel
theorem d_Scale_together_40 : decode c_Scale_together 40 = .ok (.iaload, 1) := by decide +kernel
theorem d_Scale_together_41 : decode c_Scale_together 41 = .ok (.invokestatic 45, 3) := by decide +kernel
theorem d_Scale_together_44 : decode c_Scale_together 44 = .ok (.istore_n 3, 1) := by decide +kernel
theorem d_Scale_together_45 : decode c_Scale_together 45 = .ok (.iload 4, 2) := by decide +kernel
theorem d_Scale_together_47 : decode c_Scale_together 47 = .ok (.aload_n 0, 1) := by decide +kernel
theorem d_Scale_together_48 : decode c_Scale_together 48 = .ok (.getfield 19, 3) := by decide +kernel
theorem d_Scale_together_51 : decode c_Scale_together 51 = .ok (.iload 5, 2) := by decide +kernel
theorem d_Scale_together_53 : decode c_Scale_together 53 = .ok (.iaload, 1) := by decide +kernel
theorem d_Scale_together_54 : decode c_Scale_together 54 = .ok (.invokestatic 50, 3) := by decide +kernel
theorem d_Scale_together_57 : decode c_Scale_together 57 = .ok (.istore 4, 2) := by decide +kernel
theorem d_Scale_together_59 : decode c_Scale_together 59 = .ok (.iinc 5 1, 3) := by decide +kernel
theorem d_Scale_together_62 : decode c_Scale_together 62 = .ok (.goto (-51), 3) := by decide +kernel
theorem d_Scale_together_65 : decode c_Scale_together 65 = .ok (.iload_n 1, 1) := by decide +kernel
theorem d_Scale_together_66 : decode c_Scale_together 66 = .ok (.bipush 6, 2) := by decide +kernel
theorem d_Scale_together_68 : decode c_Scale_together 68 = .ok (.if_icmp .ne 10, 3) := by decide +kernel
theorem d_Scale_together_71 : decode c_Scale_together 71 = .ok (.iload_n 3, 1) := by decide +kernel
theorem d_Scale_together_72 : decode c_Scale_together 72 = .ok (.iload 4, 2) := by decide +kernel
theorem d_Scale_together_74 : decode c_Scale_together 74 = .ok (.isub, 1) := by decide +kernel
theorem d_Scale_together_75 : decode c_Scale_together 75 = .ok (.goto 4, 3) := by decide +kernel
theorem d_Scale_together_78 : decode c_Scale_together 78 = .ok (.iload_n 2, 1) := by decide +kernel
theorem d_Scale_together_79 : decode c_Scale_together 79 = .ok (.ireturn, 1) := by decide +kernel
theorem d_Scale_shareOf_0 : decode c_Scale_shareOf 0 = .ok (.iload_n 2, 1) := by decide +kernel
theorem d_Scale_shareOf_1 : decode c_Scale_shareOf 1 = .ok (.lookupswitch 62 #[(0, 35), (1, 44), (6, 50)], 35) := by decide +kernel
theorem d_Scale_shareOf_36 : decode c_Scale_shareOf 36 = .ok (.aload_n 0, 1) := by decide +kernel
theorem d_Scale_shareOf_37 : decode c_Scale_shareOf 37 = .ok (.getfield 9, 3) := by decide +kernel
theorem d_Scale_shareOf_40 : decode c_Scale_shareOf 40 = .ok (.iload_n 1, 1) := by decide +kernel
theorem d_Scale_shareOf_41 : decode c_Scale_shareOf 41 = .ok (.invokevirtual 53, 3) := by decide +kernel
theorem d_Scale_shareOf_44 : decode c_Scale_shareOf 44 = .ok (.ireturn, 1) := by decide +kernel
theorem d_Scale_shareOf_45 : decode c_Scale_shareOf 45 = .ok (.aload_n 0, 1) := by decide +kernel
theorem d_Scale_shareOf_46 : decode c_Scale_shareOf 46 = .ok (.iload_n 1, 1) := by decide +kernel
theorem d_Scale_shareOf_47 : decode c_Scale_shareOf 47 = .ok (.invokevirtual 58, 3) := by decide +kernel
theorem d_Scale_shareOf_50 : decode c_Scale_shareOf 50 = .ok (.ireturn, 1) := by decide +kernel
theorem d_Scale_shareOf_51 : decode c_Scale_shareOf 51 = .ok (.aload_n 0, 1) := by decide +kernel
theorem d_Scale_shareOf_52 : decode c_Scale_shareOf 52 = .ok (.getfield 9, 3) := by decide +kernel
theorem d_Scale_shareOf_55 : decode c_Scale_shareOf 55 = .ok (.getfield 61, 3) := by decide +kernel
theorem d_Scale_shareOf_58 : decode c_Scale_shareOf 58 = .ok (.iload_n 1, 1) := by decide +kernel
theorem d_Scale_shareOf_59 : decode c_Scale_shareOf 59 = .ok (.invokestatic 64, 3) := by decide +kernel
theorem d_Scale_shareOf_62 : decode c_Scale_shareOf 62 = .ok (.ireturn, 1) := by decide +kernel
theorem d_Scale_shareOf_63 : decode c_Scale_shareOf 63 = .ok (.aload_n 0, 1) := by decide +kernel
theorem d_Scale_shareOf_64 : decode c_Scale_shareOf 64 = .ok (.iload_n 1, 1) := by decide +kernel
theorem d_Scale_shareOf_65 : decode c_Scale_shareOf 65 = .ok (.iload_n 2, 1) := by decide +kernel
theorem d_Scale_shareOf_66 : decode c_Scale_shareOf 66 = .ok (.invokevirtual 70, 3) := by decide +kernel
theorem d_Scale_shareOf_69 : decode c_Scale_shareOf 69 = .ok (.ireturn, 1) := by decide +kernel
theorem d_Scale_voteShare_0 : decode c_Scale_voteShare 0 = .ok (.aload_n 0, 1) := by decide +kernel
theorem d_Scale_voteShare_1 : decode c_Scale_voteShare 1 = .ok (.getfield 9, 3) := by decide +kernel
theorem d_Scale_voteShare_4 : decode c_Scale_voteShare 4 = .ok (.getfield 73, 3) := by decide +kernel
theorem d_Scale_voteShare_7 : decode c_Scale_voteShare 7 = .ok (.iload_n 1, 1) := by decide +kernel
theorem d_Scale_voteShare_8 : decode c_Scale_voteShare 8 = .ok (.invokestatic 64, 3) := by decide +kernel
theorem d_Scale_voteShare_11 : decode c_Scale_voteShare 11 = .ok (.istore_n 3, 1) := by decide +kernel
theorem d_Scale_voteShare_12 : decode c_Scale_voteShare 12 = .ok (.aload_n 0, 1) := by decide +kernel
theorem d_Scale_voteShare_13 : decode c_Scale_voteShare 13 = .ok (.getfield 9, 3) := by decide +kernel
theorem d_Scale_voteShare_16 : decode c_Scale_voteShare 16 = .ok (.getfield 76, 3) := by decide +kernel
theorem d_Scale_voteShare_19 : decode c_Scale_voteShare 19 = .ok (.iload_n 1, 1) := by decide +kernel
theorem d_Scale_voteShare_20 : decode c_Scale_voteShare 20 = .ok (.invokestatic 64, 3) := by decide +kernel
theorem d_Scale_voteShare_23 : decode c_Scale_voteShare 23 = .ok (.istore 4, 2) := by decide +kernel
theorem d_Scale_voteShare_25 : decode c_Scale_voteShare 25 = .ok (.iload_n 2, 1) := by decide +kernel
theorem d_Scale_voteShare_26 : decode c_Scale_voteShare 26 = .ok (.tableswitch 57 2 4 #[26, 38, 50], 26) := by decide +kernel
theorem d_Scale_voteShare_52 : decode c_Scale_voteShare 52 = .ok (.iload_n 3, 1) := by decide +kernel
theorem d_Scale_voteShare_53 : decode c_Scale_voteShare 53 = .ok (.iload 4, 2) := by decide +kernel
theorem d_Scale_voteShare_55 : decode c_Scale_voteShare 55 = .ok (.if_icmp .le 7, 3) := by decide +kernel
theorem d_Scale_voteShare_58 : decode c_Scale_voteShare 58 = .ok (.iconst 1, 1) := by decide +kernel
theorem d_Scale_voteShare_59 : decode c_Scale_voteShare 59 = .ok (.goto 4, 3) := by decide +kernel
theorem d_Scale_voteShare_62 : decode c_Scale_voteShare 62 = .ok (.iconst 0, 1) := by decide +kernel
theorem d_Scale_voteShare_63 : decode c_Scale_voteShare 63 = .ok (.ireturn, 1) := by decide +kernel
theorem d_Scale_voteShare_64 : decode c_Scale_voteShare 64 = .ok (.iload 4, 2) := by decide +kernel
theorem d_Scale_voteShare_66 : decode c_Scale_voteShare 66 = .ok (.iload_n 3, 1) := by decide +kernel
theorem d_Scale_voteShare_67 : decode c_Scale_voteShare 67 = .ok (.if_icmp .le 7, 3) := by decide +kernel
theorem d_Scale_voteShare_70 : decode c_Scale_voteShare 70 = .ok (.iconst 1, 1) := by decide +kernel
theorem d_Scale_voteShare_71 : decode c_Scale_voteShare 71 = .ok (.goto 4, 3) := by decide +kernel
theorem d_Scale_voteShare_74 : decode c_Scale_voteShare 74 = .ok (.iconst 0, 1) := by decide +kernel
theorem d_Scale_voteShare_75 : decode c_Scale_voteShare 75 = .ok (.ireturn, 1) := by decide +kernel
theorem d_Scale_voteShare_76 : decode c_Scale_voteShare 76 = .ok (.iload_n 3, 1) := by decide +kernel
theorem d_Scale_voteShare_77 : decode c_Scale_voteShare 77 = .ok (.iload 4, 2) := by decide +kernel
theorem d_Scale_voteShare_79 : decode c_Scale_voteShare 79 = .ok (.invokestatic 79, 3) := by decide +kernel
theorem d_Scale_voteShare_82 : decode c_Scale_voteShare 82 = .ok (.ireturn, 1) := by decide +kernel
theorem d_Scale_voteShare_83 : decode c_Scale_voteShare 83 = .ok (.iload 4, 2) := by decide +kernel
theorem d_Scale_voteShare_85 : decode c_Scale_voteShare 85 = .ok (.iload_n 3, 1) := by decide +kernel
theorem d_Scale_voteShare_86 : decode c_Scale_voteShare 86 = .ok (.invokestatic 79, 3) := by decide +kernel
theorem d_Scale_voteShare_89 : decode c_Scale_voteShare 89 = .ok (.ireturn, 1) := by decide +kernel
theorem d_Scale_cutTowns_0 : decode c_Scale_cutTowns 0 = .ok (.iconst 0, 1) := by decide +kernel
theorem d_Scale_cutTowns_1 : decode c_Scale_cutTowns 1 = .ok (.istore_n 2, 1) := by decide +kernel
theorem d_Scale_cutTowns_2 : decode c_Scale_cutTowns 2 = .ok (.iconst 0, 1) := by decide +kernel
theorem d_Scale_cutTowns_3 : decode c_Scale_cutTowns 3 = .ok (.istore_n 3, 1) := by decide +kernel
theorem d_Scale_cutTowns_4 : decode c_Scale_cutTowns 4 = .ok (.iload_n 3, 1) := by decide +kernel
theorem d_Scale_cutTowns_5 : decode c_Scale_cutTowns 5 = .ok (.bipush 10, 2) := by decide +kernel
theorem d_Scale_cutTowns_7 : decode c_Scale_cutTowns 7 = .ok (.if_icmp .ge 49, 3) := by decide +kernel
theorem d_Scale_cutTowns_10 : decode c_Scale_cutTowns 10 = .ok (.aload_n 0, 1) := by decide +kernel
theorem d_Scale_cutTowns_11 : decode c_Scale_cutTowns 11 = .ok (.getfield 9, 3) := by decide +kernel
theorem d_Scale_cutTowns_14 : decode c_Scale_cutTowns 14 = .ok (.getfield 82, 3) := by decide +kernel
theorem d_Scale_cutTowns_17 : decode c_Scale_cutTowns 17 = .ok (.iload_n 3, 1) := by decide +kernel
theorem d_Scale_cutTowns_18 : decode c_Scale_cutTowns 18 = .ok (.iaload, 1) := by decide +kernel
theorem d_Scale_cutTowns_19 : decode c_Scale_cutTowns 19 = .ok (.istore 4, 2) := by decide +kernel
theorem d_Scale_cutTowns_21 : decode c_Scale_cutTowns 21 = .ok (.iload 4, 2) := by decide +kernel
theorem d_Scale_cutTowns_23 : decode c_Scale_cutTowns 23 = .ok (.ifCond .eq 27, 3) := by decide +kernel
theorem d_Scale_cutTowns_26 : decode c_Scale_cutTowns 26 = .ok (.iload_n 1, 1) := by decide +kernel
theorem d_Scale_cutTowns_27 : decode c_Scale_cutTowns 27 = .ok (.iload 4, 2) := by decide +kernel
theorem d_Scale_cutTowns_29 : decode c_Scale_cutTowns 29 = .ok (.invokestatic 85, 3) := by decide +kernel
theorem d_Scale_cutTowns_32 : decode c_Scale_cutTowns 32 = .ok (.invokestatic 88, 3) := by decide +kernel
theorem d_Scale_cutTowns_35 : decode c_Scale_cutTowns 35 = .ok (.ifCond .eq 15, 3) := by decide +kernel
theorem d_Scale_cutTowns_38 : decode c_Scale_cutTowns 38 = .ok (.iload 4, 2) := by decide +kernel
theorem d_Scale_cutTowns_40 : decode c_Scale_cutTowns 40 = .ok (.iload_n 1, 1) := by decide +kernel
theorem d_Scale_cutTowns_41 : decode c_Scale_cutTowns 41 = .ok (.iconst (-1), 1) := by decide +kernel
theorem d_Scale_cutTowns_42 : decode c_Scale_cutTowns 42 = .ok (.ixor, 1) := by decide +kernel
theorem d_Scale_cutTowns_43 : decode c_Scale_cutTowns 43 = .ok (.iand, 1) := by decide +kernel
theorem d_Scale_cutTowns_44 : decode c_Scale_cutTowns 44 = .ok (.ifCond .eq 6, 3) := by decide +kernel
theorem d_Scale_cutTowns_47 : decode c_Scale_cutTowns 47 = .ok (.iinc 2 1, 3) := by decide +kernel
theorem d_Scale_cutTowns_50 : decode c_Scale_cutTowns 50 = .ok (.iinc 3 1, 3) := by decide +kernel
theorem d_Scale_cutTowns_53 : decode c_Scale_cutTowns 53 = .ok (.goto (-49), 3) := by decide +kernel
theorem d_Scale_cutTowns_56 : decode c_Scale_cutTowns 56 = .ok (.iload_n 2, 1) := by decide +kernel
theorem d_Scale_cutTowns_57 : decode c_Scale_cutTowns 57 = .ok (.ireturn, 1) := by decide +kernel
theorem d_Scale_wasted_0 : decode c_Scale_wasted 0 = .ok (.iload_n 0, 1) := by decide +kernel
theorem d_Scale_wasted_1 : decode c_Scale_wasted 1 = .ok (.iload_n 1, 1) := by decide +kernel
theorem d_Scale_wasted_2 : decode c_Scale_wasted 2 = .ok (.if_icmp .le 15, 3) := by decide +kernel
theorem d_Scale_wasted_5 : decode c_Scale_wasted 5 = .ok (.iload_n 0, 1) := by decide +kernel
theorem d_Scale_wasted_6 : decode c_Scale_wasted 6 = .ok (.iload_n 0, 1) := by decide +kernel
theorem d_Scale_wasted_7 : decode c_Scale_wasted 7 = .ok (.iload_n 1, 1) := by decide +kernel
theorem d_Scale_wasted_8 : decode c_Scale_wasted 8 = .ok (.iadd, 1) := by decide +kernel
theorem d_Scale_wasted_9 : decode c_Scale_wasted 9 = .ok (.iconst 2, 1) := by decide +kernel
theorem d_Scale_wasted_10 : decode c_Scale_wasted 10 = .ok (.idiv, 1) := by decide +kernel
theorem d_Scale_wasted_11 : decode c_Scale_wasted 11 = .ok (.isub, 1) := by decide +kernel
theorem d_Scale_wasted_12 : decode c_Scale_wasted 12 = .ok (.iconst 1, 1) := by decide +kernel
theorem d_Scale_wasted_13 : decode c_Scale_wasted 13 = .ok (.isub, 1) := by decide +kernel
theorem d_Scale_wasted_14 : decode c_Scale_wasted 14 = .ok (.goto 4, 3) := by decide +kernel
theorem d_Scale_wasted_17 : decode c_Scale_wasted 17 = .ok (.iload_n 0, 1) := by decide +kernel
theorem d_Scale_wasted_18 : decode c_Scale_wasted 18 = .ok (.ireturn, 1) := by decide +kernel
theorem d_Sets_only_0 : decode c_Sets_only 0 = .ok (.iconst 1, 1) := by decide +kernel
theorem d_Sets_only_1 : decode c_Sets_only 1 = .ok (.bipush 29, 2) := by decide +kernel
theorem d_Sets_only_3 : decode c_Sets_only 3 = .ok (.iload_n 0, 1) := by decide +kernel
theorem d_Sets_only_4 : decode c_Sets_only 4 = .ok (.isub, 1) := by decide +kernel
theorem d_Sets_only_5 : decode c_Sets_only 5 = .ok (.ishl, 1) := by decide +kernel
theorem d_Sets_only_6 : decode c_Sets_only 6 = .ok (.ireturn, 1) := by decide +kernel
theorem d_Sets_has_0 : decode c_Sets_has 0 = .ok (.iload_n 0, 1) := by decide +kernel
theorem d_Sets_has_1 : decode c_Sets_has 1 = .ok (.bipush 29, 2) := by decide +kernel
theorem d_Sets_has_3 : decode c_Sets_has 3 = .ok (.iload_n 1, 1) := by decide +kernel
theorem d_Sets_has_4 : decode c_Sets_has 4 = .ok (.isub, 1) := by decide +kernel
theorem d_Sets_has_5 : decode c_Sets_has 5 = .ok (.iushr, 1) := by decide +kernel
theorem d_Sets_has_6 : decode c_Sets_has 6 = .ok (.iconst 1, 1) := by decide +kernel
theorem d_Sets_has_7 : decode c_Sets_has 7 = .ok (.iand, 1) := by decide +kernel
theorem d_Sets_has_8 : decode c_Sets_has 8 = .ok (.ifCond .eq 7, 3) := by decide +kernel
theorem d_Sets_has_11 : decode c_Sets_has 11 = .ok (.iconst 1, 1) := by decide +kernel
theorem d_Sets_has_12 : decode c_Sets_has 12 = .ok (.goto 4, 3) := by decide +kernel
theorem d_Sets_has_15 : decode c_Sets_has 15 = .ok (.iconst 0, 1) := by decide +kernel
theorem d_Sets_has_16 : decode c_Sets_has 16 = .ok (.ireturn, 1) := by decide +kernel
theorem d_Sets_first_0 : decode c_Sets_first 0 = .ok (.iconst 0, 1) := by decide +kernel
theorem d_Sets_first_1 : decode c_Sets_first 1 = .ok (.istore_n 1, 1) := by decide +kernel
theorem d_Sets_first_2 : decode c_Sets_first 2 = .ok (.iload_n 1, 1) := by decide +kernel
theorem d_Sets_first_3 : decode c_Sets_first 3 = .ok (.bipush 30, 2) := by decide +kernel
theorem d_Sets_first_5 : decode c_Sets_first 5 = .ok (.if_icmp .ge 19, 3) := by decide +kernel
theorem d_Sets_first_8 : decode c_Sets_first 8 = .ok (.iload_n 0, 1) := by decide +kernel
theorem d_Sets_first_9 : decode c_Sets_first 9 = .ok (.iload_n 1, 1) := by decide +kernel
theorem d_Sets_first_10 : decode c_Sets_first 10 = .ok (.invokestatic 9, 3) := by decide +kernel
theorem d_Sets_first_13 : decode c_Sets_first 13 = .ok (.ifCond .eq 5, 3) := by decide +kernel
theorem d_Sets_first_16 : decode c_Sets_first 16 = .ok (.iload_n 1, 1) := by decide +kernel
theorem d_Sets_first_17 : decode c_Sets_first 17 = .ok (.ireturn, 1) := by decide +kernel
theorem d_Sets_first_18 : decode c_Sets_first 18 = .ok (.iinc 1 1, 3) := by decide +kernel
theorem d_Sets_first_21 : decode c_Sets_first 21 = .ok (.goto (-19), 3) := by decide +kernel
theorem d_Sets_first_24 : decode c_Sets_first 24 = .ok (.iconst (-1), 1) := by decide +kernel
theorem d_Sets_first_25 : decode c_Sets_first 25 = .ok (.ireturn, 1) := by decide +kernel
theorem d_Sets_last_0 : decode c_Sets_last 0 = .ok (.bipush 29, 2) := by decide +kernel
theorem d_Sets_last_2 : decode c_Sets_last 2 = .ok (.iload_n 0, 1) := by decide +kernel
theorem d_Sets_last_3 : decode c_Sets_last 3 = .ok (.iload_n 0, 1) := by decide +kernel
theorem d_Sets_last_4 : decode c_Sets_last 4 = .ok (.ineg, 1) := by decide +kernel
theorem d_Sets_last_5 : decode c_Sets_last 5 = .ok (.iand, 1) := by decide +kernel
theorem d_Sets_last_6 : decode c_Sets_last 6 = .ok (.iconst 1, 1) := by decide +kernel
theorem d_Sets_last_7 : decode c_Sets_last 7 = .ok (.isub, 1) := by decide +kernel
theorem d_Sets_last_8 : decode c_Sets_last 8 = .ok (.invokestatic 15, 3) := by decide +kernel
theorem d_Sets_last_11 : decode c_Sets_last 11 = .ok (.isub, 1) := by decide +kernel
theorem d_Sets_last_12 : decode c_Sets_last 12 = .ok (.ireturn, 1) := by decide +kernel
theorem d_Sets_sum_0 : decode c_Sets_sum 0 = .ok (.iconst 0, 1) := by decide +kernel
theorem d_Sets_sum_1 : decode c_Sets_sum 1 = .ok (.istore_n 2, 1) := by decide +kernel
theorem d_Sets_sum_2 : decode c_Sets_sum 2 = .ok (.iload_n 1, 1) := by decide +kernel
theorem d_Sets_sum_3 : decode c_Sets_sum 3 = .ok (.istore_n 3, 1) := by decide +kernel
theorem d_Sets_sum_4 : decode c_Sets_sum 4 = .ok (.iconst 0, 1) := by decide +kernel
theorem d_Sets_sum_5 : decode c_Sets_sum 5 = .ok (.istore 4, 2) := by decide +kernel
theorem d_Sets_sum_7 : decode c_Sets_sum 7 = .ok (.iload 4, 2) := by decide +kernel
theorem d_Sets_sum_9 : decode c_Sets_sum 9 = .ok (.bipush 30, 2) := by decide +kernel
theorem d_Sets_sum_11 : decode c_Sets_sum 11 = .ok (.if_icmp .ge 28, 3) := by decide +kernel
theorem d_Sets_sum_14 : decode c_Sets_sum 14 = .ok (.iload_n 3, 1) := by decide +kernel
theorem d_Sets_sum_15 : decode c_Sets_sum 15 = .ok (.ifCond .eq 24, 3) := by decide +kernel
theorem d_Sets_sum_18 : decode c_Sets_sum 18 = .ok (.iload_n 2, 1) := by decide +kernel
theorem d_Sets_sum_19 : decode c_Sets_sum 19 = .ok (.aload_n 0, 1) := by decide +kernel
theorem d_Sets_sum_20 : decode c_Sets_sum 20 = .ok (.iload_n 3, 1) := by decide +kernel
theorem d_Sets_sum_21 : decode c_Sets_sum 21 = .ok (.invokestatic 21, 3) := by decide +kernel
theorem d_Sets_sum_24 : decode c_Sets_sum 24 = .ok (.iaload, 1) := by decide +kernel
theorem d_Sets_sum_25 : decode c_Sets_sum 25 = .ok (.iadd, 1) := by decide +kernel
theorem d_Sets_sum_26 : decode c_Sets_sum 26 = .ok (.istore_n 2, 1) := by decide +kernel
theorem d_Sets_sum_27 : decode c_Sets_sum 27 = .ok (.iload_n 3, 1) := by decide +kernel
theorem d_Sets_sum_28 : decode c_Sets_sum 28 = .ok (.iload_n 3, 1) := by decide +kernel
theorem d_Sets_sum_29 : decode c_Sets_sum 29 = .ok (.iconst 1, 1) := by decide +kernel
theorem d_Sets_sum_30 : decode c_Sets_sum 30 = .ok (.isub, 1) := by decide +kernel
theorem d_Sets_sum_31 : decode c_Sets_sum 31 = .ok (.iand, 1) := by decide +kernel
theorem d_Sets_sum_32 : decode c_Sets_sum 32 = .ok (.istore_n 3, 1) := by decide +kernel
theorem d_Sets_sum_33 : decode c_Sets_sum 33 = .ok (.iinc 4 1, 3) := by decide +kernel
theorem d_Sets_sum_36 : decode c_Sets_sum 36 = .ok (.goto (-29), 3) := by decide +kernel
theorem d_Sets_sum_39 : decode c_Sets_sum 39 = .ok (.iload_n 2, 1) := by decide +kernel
theorem d_Sets_sum_40 : decode c_Sets_sum 40 = .ok (.ireturn, 1) := by decide +kernel
theorem d_Sets_spread_0 : decode c_Sets_spread 0 = .ok (.iload_n 2, 1) := by decide +kernel
theorem d_Sets_spread_1 : decode c_Sets_spread 1 = .ok (.iload_n 1, 1) := by decide +kernel
theorem d_Sets_spread_2 : decode c_Sets_spread 2 = .ok (.iand, 1) := by decide +kernel
theorem d_Sets_spread_3 : decode c_Sets_spread 3 = .ok (.istore_n 3, 1) := by decide +kernel
theorem d_Sets_spread_4 : decode c_Sets_spread 4 = .ok (.iload_n 3, 1) := by decide +kernel
theorem d_Sets_spread_5 : decode c_Sets_spread 5 = .ok (.istore 4, 2) := by decide +kernel
theorem d_Sets_spread_7 : decode c_Sets_spread 7 = .ok (.iconst 0, 1) := by decide +kernel
theorem d_Sets_spread_8 : decode c_Sets_spread 8 = .ok (.istore 5, 2) := by decide +kernel
theorem d_Sets_spread_10 : decode c_Sets_spread 10 = .ok (.iload 5, 2) := by decide +kernel
theorem d_Sets_spread_12 : decode c_Sets_spread 12 = .ok (.bipush 30, 2) := by decide +kernel
theorem d_Sets_spread_14 : decode c_Sets_spread 14 = .ok (.if_icmp .ge 59, 3) := by decide +kernel
theorem d_Sets_spread_17 : decode c_Sets_spread 17 = .ok (.iload 4, 2) := by decide +kernel
theorem d_Sets_spread_19 : decode c_Sets_spread 19 = .ok (.ifCond .eq 54, 3) := by decide +kernel
theorem d_Sets_spread_22 : decode c_Sets_spread 22 = .ok (.bipush 29, 2) := by decide +kernel
theorem d_Sets_spread_24 : decode c_Sets_spread 24 = .ok (.iload 4, 2) := by decide +kernel
theorem d_Sets_spread_26 : decode c_Sets_spread 26 = .ok (.iload 4, 2) := by decide +kernel
theorem d_Sets_spread_28 : decode c_Sets_spread 28 = .ok (.ineg, 1) := by decide +kernel
theorem d_Sets_spread_29 : decode c_Sets_spread 29 = .ok (.iand, 1) := by decide +kernel
theorem d_Sets_spread_30 : decode c_Sets_spread 30 = .ok (.iconst 1, 1) := by decide +kernel
theorem d_Sets_spread_31 : decode c_Sets_spread 31 = .ok (.isub, 1) := by decide +kernel
theorem d_Sets_spread_32 : decode c_Sets_spread 32 = .ok (.invokestatic 15, 3) := by decide +kernel
theorem d_Sets_spread_35 : decode c_Sets_spread 35 = .ok (.isub, 1) := by decide +kernel
theorem d_Sets_spread_36 : decode c_Sets_spread 36 = .ok (.istore 6, 2) := by decide +kernel
theorem d_Sets_spread_38 : decode c_Sets_spread 38 = .ok (.aload_n 0, 1) := by decide +kernel
theorem d_Sets_spread_39 : decode c_Sets_spread 39 = .ok (.iload 6, 2) := by decide +kernel
theorem d_Sets_spread_41 : decode c_Sets_spread 41 = .ok (.iaload, 1) := by decide +kernel
theorem d_Sets_spread_42 : decode c_Sets_spread 42 = .ok (.iload_n 1, 1) := by decide +kernel
theorem d_Sets_spread_43 : decode c_Sets_spread 43 = .ok (.iand, 1) := by decide +kernel
theorem d_Sets_spread_44 : decode c_Sets_spread 44 = .ok (.iload_n 3, 1) := by decide +kernel
theorem d_Sets_spread_45 : decode c_Sets_spread 45 = .ok (.iconst (-1), 1) := by decide +kernel
theorem d_Sets_spread_46 : decode c_Sets_spread 46 = .ok (.ixor, 1) := by decide +kernel
theorem d_Sets_spread_47 : decode c_Sets_spread 47 = .ok (.iand, 1) := by decide +kernel
theorem d_Sets_spread_48 : decode c_Sets_spread 48 = .ok (.istore 7, 2) := by decide +kernel
theorem d_Sets_spread_50 : decode c_Sets_spread 50 = .ok (.iload_n 3, 1) := by decide +kernel
theorem d_Sets_spread_51 : decode c_Sets_spread 51 = .ok (.iload 7, 2) := by decide +kernel
theorem d_Sets_spread_53 : decode c_Sets_spread 53 = .ok (.ior, 1) := by decide +kernel
theorem d_Sets_spread_54 : decode c_Sets_spread 54 = .ok (.istore_n 3, 1) := by decide +kernel
theorem d_Sets_spread_55 : decode c_Sets_spread 55 = .ok (.iload 4, 2) := by decide +kernel
theorem d_Sets_spread_57 : decode c_Sets_spread 57 = .ok (.iload 4, 2) := by decide +kernel
theorem d_Sets_spread_59 : decode c_Sets_spread 59 = .ok (.iconst 1, 1) := by decide +kernel
theorem d_Sets_spread_60 : decode c_Sets_spread 60 = .ok (.isub, 1) := by decide +kernel
theorem d_Sets_spread_61 : decode c_Sets_spread 61 = .ok (.iand, 1) := by decide +kernel
theorem d_Sets_spread_62 : decode c_Sets_spread 62 = .ok (.iload 7, 2) := by decide +kernel
theorem d_Sets_spread_64 : decode c_Sets_spread 64 = .ok (.ior, 1) := by decide +kernel
theorem d_Sets_spread_65 : decode c_Sets_spread 65 = .ok (.istore 4, 2) := by decide +kernel
theorem d_Sets_spread_67 : decode c_Sets_spread 67 = .ok (.iinc 5 1, 3) := by decide +kernel
theorem d_Sets_spread_70 : decode c_Sets_spread 70 = .ok (.goto (-60), 3) := by decide +kernel
theorem d_Sets_spread_73 : decode c_Sets_spread 73 = .ok (.iload_n 3, 1) := by decide +kernel
theorem d_Sets_spread_74 : decode c_Sets_spread 74 = .ok (.ireturn, 1) := by decide +kernel
theorem d_Walker_init_0 : decode c_Walker_init 0 = .ok (.aload_n 0, 1) := by decide +kernel
theorem d_Walker_init_1 : decode c_Walker_init 1 = .ok (.invokespecial 3, 3) := by decide +kernel
theorem d_Walker_init_4 : decode c_Walker_init 4 = .ok (.aload_n 0, 1) := by decide +kernel
theorem d_Walker_init_5 : decode c_Walker_init 5 = .ok (.aload_n 1, 1) := by decide +kernel
theorem d_Walker_init_6 : decode c_Walker_init 6 = .ok (.putfield 9, 3) := by decide +kernel
theorem d_Walker_init_9 : decode c_Walker_init 9 = .ok (.aload_n 0, 1) := by decide +kernel
theorem d_Walker_init_10 : decode c_Walker_init 10 = .ok (.aload_n 2, 1) := by decide +kernel
theorem d_Walker_init_11 : decode c_Walker_init 11 = .ok (.putfield 15, 3) := by decide +kernel
theorem d_Walker_init_14 : decode c_Walker_init 14 = .ok (.aload_n 0, 1) := by decide +kernel
theorem d_Walker_init_15 : decode c_Walker_init 15 = .ok (.aload_n 3, 1) := by decide +kernel
theorem d_Walker_init_16 : decode c_Walker_init 16 = .ok (.putfield 19, 3) := by decide +kernel
theorem d_Walker_init_19 : decode c_Walker_init 19 = .ok (.aload_n 0, 1) := by decide +kernel
theorem d_Walker_init_20 : decode c_Walker_init 20 = .ok (.bipush 6, 2) := by decide +kernel
theorem d_Walker_init_22 : decode c_Walker_init 22 = .ok (.newarray .int, 2) := by decide +kernel
theorem d_Walker_init_24 : decode c_Walker_init 24 = .ok (.putfield 23, 3) := by decide +kernel
theorem d_Walker_init_27 : decode c_Walker_init 27 = .ok (.aload_n 0, 1) := by decide +kernel
theorem d_Walker_init_28 : decode c_Walker_init 28 = .ok (.new 27, 3) := by decide +kernel
theorem d_Walker_init_31 : decode c_Walker_init 31 = .ok (.dup, 1) := by decide +kernel
theorem d_Walker_init_32 : decode c_Walker_init 32 = .ok (.invokespecial 29, 3) := by decide +kernel
theorem d_Walker_init_35 : decode c_Walker_init 35 = .ok (.putfield 30, 3) := by decide +kernel
theorem d_Walker_init_38 : decode c_Walker_init 38 = .ok (.aload_n 0, 1) := by decide +kernel
theorem d_Walker_init_39 : decode c_Walker_init 39 = .ok (.bipush 30, 2) := by decide +kernel
theorem d_Walker_init_41 : decode c_Walker_init 41 = .ok (.newarray .int, 2) := by decide +kernel
theorem d_Walker_init_43 : decode c_Walker_init 43 = .ok (.putfield 34, 3) := by decide +kernel
theorem d_Walker_init_46 : decode c_Walker_init 46 = .ok (.aload_n 0, 1) := by decide +kernel
theorem d_Walker_init_47 : decode c_Walker_init 47 = .ok (.bipush 30, 2) := by decide +kernel
theorem d_Walker_init_49 : decode c_Walker_init 49 = .ok (.newarray .int, 2) := by decide +kernel
theorem d_Walker_init_51 : decode c_Walker_init 51 = .ok (.putfield 37, 3) := by decide +kernel
theorem d_Walker_init_54 : decode c_Walker_init 54 = .ok (.aload_n 0, 1) := by decide +kernel
theorem d_Walker_init_55 : decode c_Walker_init 55 = .ok (.bipush 100, 2) := by decide +kernel
theorem d_Walker_init_57 : decode c_Walker_init 57 = .ok (.newarray .int, 2) := by decide +kernel
theorem d_Walker_init_59 : decode c_Walker_init 59 = .ok (.putfield 40, 3) := by decide +kernel
theorem d_Walker_init_62 : decode c_Walker_init 62 = .ok (.return_, 1) := by decide +kernel
theorem d_Walker_roam_0 : decode c_Walker_roam 0 = .ok (.aload_n 0, 1) := by decide +kernel
theorem d_Walker_roam_1 : decode c_Walker_roam 1 = .ok (.getfield 30, 3) := by decide +kernel
theorem d_Walker_roam_4 : decode c_Walker_roam 4 = .ok (.aload_n 1, 1) := by decide +kernel
theorem d_Walker_roam_5 : decode c_Walker_roam 5 = .ok (.invokevirtual 43, 3) := by decide +kernel
theorem d_Walker_roam_8 : decode c_Walker_roam 8 = .ok (.aload_n 0, 1) := by decide +kernel
theorem d_Walker_roam_9 : decode c_Walker_roam 9 = .ok (.getfield 19, 3) := by decide +kernel
theorem d_Walker_roam_12 : decode c_Walker_roam 12 = .ok (.aload_n 1, 1) := by decide +kernel
theorem d_Walker_roam_13 : decode c_Walker_roam 13 = .ok (.iload_n 3, 1) := by decide +kernel
theorem d_Walker_roam_14 : decode c_Walker_roam 14 = .ok (.invokevirtual 47, 3) := by decide +kernel
theorem d_Walker_roam_17 : decode c_Walker_roam 17 = .ok (.istore 4, 2) := by decide +kernel
theorem d_Walker_roam_19 : decode c_Walker_roam 19 = .ok (.iload 4, 2) := by decide +kernel
theorem d_Walker_roam_21 : decode c_Walker_roam 21 = .ok (.istore 5, 2) := by decide +kernel
theorem d_Walker_roam_23 : decode c_Walker_roam 23 = .ok (.aload_n 0, 1) := by decide +kernel
theorem d_Walker_roam_24 : decode c_Walker_roam 24 = .ok (.getfield 23, 3) := by decide +kernel
theorem d_Walker_roam_27 : decode c_Walker_roam 27 = .ok (.iconst 0, 1) := by decide +kernel
theorem d_Walker_roam_28 : decode c_Walker_roam 28 = .ok (.invokestatic 53, 3) := by decide +kernel
theorem d_Walker_roam_31 : decode c_Walker_roam 31 = .ok (.iconst 0, 1) := by decide +kernel
theorem d_Walker_roam_32 : decode c_Walker_roam 32 = .ok (.istore 6, 2) := by decide +kernel
theorem d_Walker_roam_34 : decode c_Walker_roam 34 = .ok (.iload 6, 2) := by decide +kernel
theorem d_Walker_roam_36 : decode c_Walker_roam 36 = .ok (.iload_n 2, 1) := by decide +kernel
theorem d_Walker_roam_37 : decode c_Walker_roam 37 = .ok (.if_icmp .ge 116, 3) := by decide +kernel
theorem d_Walker_roam_40 : decode c_Walker_roam 40 = .ok (.aload_n 0, 1) := by decide +kernel
theorem d_Walker_roam_41 : decode c_Walker_roam 41 = .ok (.aload_n 0, 1) := by decide +kernel
theorem d_Walker_roam_42 : decode c_Walker_roam 42 = .ok (.getfield 30, 3) := by decide +kernel
theorem d_Walker_roam_45 : decode c_Walker_roam 45 = .ok (.invokevirtual 59, 3) := by decide +kernel
theorem d_Walker_roam_48 : decode c_Walker_roam 48 = .ok (.ifCond .eq 27, 3) := by decide +kernel
theorem d_Walker_roam_51 : decode c_Walker_roam 51 = .ok (.aload_n 0, 1) := by decide +kernel
theorem d_Walker_roam_52 : decode c_Walker_roam 52 = .ok (.getfield 23, 3) := by decide +kernel
theorem d_Walker_roam_55 : decode c_Walker_roam 55 = .ok (.iconst 5, 1) := by decide +kernel
theorem d_Walker_roam_56 : decode c_Walker_roam 56 = .ok (.dup2, 1) := by decide +kernel
theorem d_Walker_roam_57 : decode c_Walker_roam 57 = .ok (.iaload, 1) := by decide +kernel
theorem d_Walker_roam_58 : decode c_Walker_roam 58 = .ok (.iconst 1, 1) := by decide +kernel
theorem d_Walker_roam_59 : decode c_Walker_roam 59 = .ok (.iadd, 1) := by decide +kernel
theorem d_Walker_roam_60 : decode c_Walker_roam 60 = .ok (.iastore, 1) := by decide +kernel
theorem d_Walker_roam_61 : decode c_Walker_roam 61 = .ok (.aload_n 0, 1) := by decide +kernel
theorem d_Walker_roam_62 : decode c_Walker_roam 62 = .ok (.getfield 19, 3) := by decide +kernel
theorem d_Walker_roam_65 : decode c_Walker_roam 65 = .ok (.aload_n 0, 1) := by decide +kernel
theorem d_Walker_roam_66 : decode c_Walker_roam 66 = .ok (.getfield 30, 3) := by decide +kernel
theorem d_Walker_roam_69 : decode c_Walker_roam 69 = .ok (.iload_n 3, 1) := by decide +kernel
theorem d_Walker_roam_70 : decode c_Walker_roam 70 = .ok (.invokevirtual 47, 3) := by decide +kernel
theorem d_Walker_roam_73 : decode c_Walker_roam 73 = .ok (.istore 5, 2) := by decide +kernel
theorem d_Walker_roam_75 : decode c_Walker_roam 75 = .ok (.aload_n 0, 1) := by decide +kernel
theorem d_Walker_roam_76 : decode c_Walker_roam 76 = .ok (.getfield 23, 3) := by decide +kernel
theorem d_Walker_roam_79 : decode c_Walker_roam 79 = .ok (.iconst 1, 1) := by decide +kernel
theorem d_Walker_roam_80 : decode c_Walker_roam 80 = .ok (.iload 5, 2) := by decide +kernel
theorem d_Walker_roam_82 : decode c_Walker_roam 82 = .ok (.iload 4, 2) := by decide +kernel
theorem d_Walker_roam_84 : decode c_Walker_roam 84 = .ok (.invokestatic 63, 3) := by decide +kernel
theorem d_Walker_roam_87 : decode c_Walker_roam 87 = .ok (.iadd, 1) := by decide +kernel
theorem d_Walker_roam_88 : decode c_Walker_roam 88 = .ok (.dup2, 1) := by decide +kernel
theorem d_Walker_roam_89 : decode c_Walker_roam 89 = .ok (.iaload, 1) := by decide +kernel
theorem d_Walker_roam_90 : decode c_Walker_roam 90 = .ok (.iconst 1, 1) := by decide +kernel
theorem d_Walker_roam_91 : decode c_Walker_roam 91 = .ok (.iadd, 1) := by decide +kernel
theorem d_Walker_roam_92 : decode c_Walker_roam 92 = .ok (.iastore, 1) := by decide +kernel
theorem d_Walker_roam_93 : decode c_Walker_roam 93 = .ok (.aload_n 0, 1) := by decide +kernel
theorem d_Walker_roam_94 : decode c_Walker_roam 94 = .ok (.getfield 23, 3) := by decide +kernel
theorem d_Walker_roam_97 : decode c_Walker_roam 97 = .ok (.iconst 3, 1) := by decide +kernel
theorem d_Walker_roam_98 : decode c_Walker_roam 98 = .ok (.iload 6, 2) := by decide +kernel
theorem d_Walker_roam_100 : decode c_Walker_roam 100 = .ok (.ifCond .ne 8, 3) := by decide +kernel
theorem d_Walker_roam_103 : decode c_Walker_roam 103 = .ok (.iload 5, 2) := by decide +kernel
theorem d_Walker_roam_105 : decode c_Walker_roam 105 = .ok (.goto 14, 3) := by decide +kernel
theorem d_Walker_roam_108 : decode c_Walker_roam 108 = .ok (.aload_n 0, 1) := by decide +kernel
theorem d_Walker_roam_109 : decode c_Walker_roam 109 = .ok (.getfield 23, 3) := by decide +kernel
theorem d_Walker_roam_112 : decode c_Walker_roam 112 = .ok (.iconst 3, 1) := by decide +kernel
theorem d_Walker_roam_113 : decode c_Walker_roam 113 = .ok (.iaload, 1) := by decide +kernel
theorem d_Walker_roam_114 : decode c_Walker_roam 114 = .ok (.iload 5, 2) := by decide +kernel
theorem d_Walker_roam_116 : decode c_Walker_roam 116 = .ok (.invokestatic 69, 3) := by decide +kernel
theorem d_Walker_roam_119 : decode c_Walker_roam 119 = .ok (.iastore, 1) := by decide +kernel
theorem d_Walker_roam_120 : decode c_Walker_roam 120 = .ok (.aload_n 0, 1) := by decide +kernel
theorem d_Walker_roam_121 : decode c_Walker_roam 121 = .ok (.getfield 23, 3) := by decide +kernel
theorem d_Walker_roam_124 : decode c_Walker_roam 124 = .ok (.iconst 4, 1) := by decide +kernel
theorem d_Walker_roam_125 : decode c_Walker_roam 125 = .ok (.iload 6, 2) := by decide +kernel
theorem d_Walker_roam_127 : decode c_Walker_roam 127 = .ok (.ifCond .ne 8, 3) := by decide +kernel
theorem d_Walker_roam_130 : decode c_Walker_roam 130 = .ok (.iload 5, 2) := by decide +kernel
theorem d_Walker_roam_132 : decode c_Walker_roam 132 = .ok (.goto 14, 3) := by decide +kernel
theorem d_Walker_roam_135 : decode c_Walker_roam 135 = .ok (.aload_n 0, 1) := by decide +kernel
theorem d_Walker_roam_136 : decode c_Walker_roam 136 = .ok (.getfield 23, 3) := by decide +kernel
theorem d_Walker_roam_139 : decode c_Walker_roam 139 = .ok (.iconst 4, 1) := by decide +kernel
theorem d_Walker_roam_140 : decode c_Walker_roam 140 = .ok (.iaload, 1) := by decide +kernel
theorem d_Walker_roam_141 : decode c_Walker_roam 141 = .ok (.iload 5, 2) := by decide +kernel
theorem d_Walker_roam_143 : decode c_Walker_roam 143 = .ok (.invokestatic 74, 3) := by decide +kernel
theorem d_Walker_roam_146 : decode c_Walker_roam 146 = .ok (.iastore, 1) := by decide +kernel
theorem d_Walker_roam_147 : decode c_Walker_roam 147 = .ok (.iinc 6 1, 3) := by decide +kernel
theorem d_Walker_roam_150 : decode c_Walker_roam 150 = .ok (.goto (-116), 3) := by decide +kernel
theorem d_Walker_roam_153 : decode c_Walker_roam 153 = .ok (.aload_n 0, 1) := by decide +kernel
theorem d_Walker_roam_154 : decode c_Walker_roam 154 = .ok (.iconst 1, 1) := by decide +kernel
theorem d_Walker_roam_155 : decode c_Walker_roam 155 = .ok (.putfield 77, 3) := by decide +kernel
theorem d_Walker_roam_158 : decode c_Walker_roam 158 = .ok (.return_, 1) := by decide +kernel
theorem d_Walker_takeStep_0 : decode c_Walker_takeStep 0 = .ok (.aload_n 0, 1) := by decide +kernel
theorem d_Walker_takeStep_1 : decode c_Walker_takeStep 1 = .ok (.aload_n 1, 1) := by decide +kernel
theorem d_Walker_takeStep_2 : decode c_Walker_takeStep 2 = .ok (.invokevirtual 81, 3) := by decide +kernel
theorem d_Walker_takeStep_5 : decode c_Walker_takeStep 5 = .ok (.istore_n 2, 1) := by decide +kernel
theorem d_Walker_takeStep_6 : decode c_Walker_takeStep 6 = .ok (.iload_n 2, 1) := by decide +kernel
theorem d_Walker_takeStep_7 : decode c_Walker_takeStep 7 = .ok (.iconst (-1), 1) := by decide +kernel
theorem d_Walker_takeStep_8 : decode c_Walker_takeStep 8 = .ok (.if_icmp .ne 5, 3) := by decide +kernel
theorem d_Walker_takeStep_11 : decode c_Walker_takeStep 11 = .ok (.iconst 0, 1) := by decide +kernel
theorem d_Walker_takeStep_12 : decode c_Walker_takeStep 12 = .ok (.ireturn, 1) := by decide +kernel
theorem d_Walker_takeStep_13 : decode c_Walker_takeStep 13 = .ok (.aload_n 1, 1) := by decide +kernel
theorem d_Walker_takeStep_14 : decode c_Walker_takeStep 14 = .ok (.getfield 85, 3) := by decide +kernel
theorem d_Walker_takeStep_17 : decode c_Walker_takeStep 17 = .ok (.aload_n 0, 1) := by decide +kernel
theorem d_Walker_takeStep_18 : decode c_Walker_takeStep 18 = .ok (.getfield 9, 3) := by decide +kernel
theorem d_Walker_takeStep_21 : decode c_Walker_takeStep 21 = .ok (.getfield 88, 3) := by decide +kernel
theorem d_Walker_takeStep_24 : decode c_Walker_takeStep 24 = .ok (.iload_n 2, 1) := by decide +kernel
theorem d_Walker_takeStep_25 : decode c_Walker_takeStep 25 = .ok (.iaload, 1) := by decide +kernel
theorem d_Walker_takeStep_26 : decode c_Walker_takeStep 26 = .ok (.iaload, 1) := by decide +kernel
theorem d_Walker_takeStep_27 : decode c_Walker_takeStep 27 = .ok (.istore_n 3, 1) := by decide +kernel
theorem d_Walker_takeStep_28 : decode c_Walker_takeStep 28 = .ok (.aload_n 1, 1) := by decide +kernel
theorem d_Walker_takeStep_29 : decode c_Walker_takeStep 29 = .ok (.getfield 85, 3) := by decide +kernel
theorem d_Walker_takeStep_32 : decode c_Walker_takeStep 32 = .ok (.aload_n 0, 1) := by decide +kernel
theorem d_Walker_takeStep_33 : decode c_Walker_takeStep 33 = .ok (.getfield 9, 3) := by decide +kernel
theorem d_Walker_takeStep_36 : decode c_Walker_takeStep 36 = .ok (.getfield 93, 3) := by decide +kernel
theorem d_Walker_takeStep_39 : decode c_Walker_takeStep 39 = .ok (.iload_n 2, 1) := by decide +kernel
theorem d_Walker_takeStep_40 : decode c_Walker_takeStep 40 = .ok (.iaload, 1) := by decide +kernel
theorem d_Walker_takeStep_41 : decode c_Walker_takeStep 41 = .ok (.iaload, 1) := by decide +kernel
theorem d_Walker_takeStep_42 : decode c_Walker_takeStep 42 = .ok (.istore 4, 2) := by decide +kernel
theorem d_Walker_takeStep_44 : decode c_Walker_takeStep 44 = .ok (.iload_n 3, 1) := by decide +kernel
theorem d_Walker_takeStep_45 : decode c_Walker_takeStep 45 = .ok (.iload 4, 2) := by decide +kernel
theorem d_Walker_takeStep_47 : decode c_Walker_takeStep 47 = .ok (.invokestatic 69, 3) := by decide +kernel
theorem d_Walker_takeStep_50 : decode c_Walker_takeStep 50 = .ok (.istore 5, 2) := by decide +kernel
theorem d_Walker_takeStep_52 : decode c_Walker_takeStep 52 = .ok (.iload_n 3, 1) := by decide +kernel
theorem d_Walker_takeStep_53 : decode c_Walker_takeStep 53 = .ok (.iload 4, 2) := by decide +kernel
theorem d_Walker_takeStep_55 : decode c_Walker_takeStep 55 = .ok (.invokestatic 74, 3) := by decide +kernel
theorem d_Walker_takeStep_58 : decode c_Walker_takeStep 58 = .ok (.istore 6, 2) := by decide +kernel
theorem d_Walker_takeStep_60 : decode c_Walker_takeStep 60 = .ok (.aload_n 1, 1) := by decide +kernel
theorem d_Walker_takeStep_61 : decode c_Walker_takeStep 61 = .ok (.getfield 96, 3) := by decide +kernel
theorem d_Walker_takeStep_64 : decode c_Walker_takeStep 64 = .ok (.iload 5, 2) := by decide +kernel
theorem d_Walker_takeStep_66 : decode c_Walker_takeStep 66 = .ok (.iaload, 1) := by decide +kernel
theorem d_Walker_takeStep_67 : decode c_Walker_takeStep 67 = .ok (.istore 7, 2) := by decide +kernel
theorem d_Walker_takeStep_69 : decode c_Walker_takeStep 69 = .ok (.iload 7, 2) := by decide +kernel
theorem d_Walker_takeStep_71 : decode c_Walker_takeStep 71 = .ok (.aload_n 1, 1) := by decide +kernel
theorem d_Walker_takeStep_72 : decode c_Walker_takeStep 72 = .ok (.getfield 96, 3) := by decide +kernel
theorem d_Walker_takeStep_75 : decode c_Walker_takeStep 75 = .ok (.iload 6, 2) := by decide +kernel
theorem d_Walker_takeStep_77 : decode c_Walker_takeStep 77 = .ok (.iaload, 1) := by decide +kernel
theorem d_Walker_takeStep_78 : decode c_Walker_takeStep 78 = .ok (.ior, 1) := by decide +kernel
theorem d_Walker_takeStep_79 : decode c_Walker_takeStep 79 = .ok (.istore 8, 2) := by decide +kernel
theorem d_Walker_takeStep_81 : decode c_Walker_takeStep 81 = .ok (.aload_n 0, 1) := by decide +kernel
theorem d_Walker_takeStep_82 : decode c_Walker_takeStep 82 = .ok (.iload 8, 2) := by decide +kernel
theorem d_Walker_takeStep_84 : decode c_Walker_takeStep 84 = .ok (.invokevirtual 99, 3) := by decide +kernel
theorem d_Walker_takeStep_87 : decode c_Walker_takeStep 87 = .ok (.istore 9, 2) := by decide +kernel
theorem d_Walker_takeStep_89 : decode c_Walker_takeStep 89 = .ok (.iload 9, 2) := by decide +kernel
theorem d_Walker_takeStep_91 : decode c_Walker_takeStep 91 = .ok (.ifCond .eq 10, 3) := by decide +kernel
theorem d_Walker_takeStep_94 : decode c_Walker_takeStep 94 = .ok (.iload 9, 2) := by decide +kernel
theorem d_Walker_takeStep_96 : decode c_Walker_takeStep 96 = .ok (.iload 7, 2) := by decide +kernel
theorem d_Walker_takeStep_98 : decode c_Walker_takeStep 98 = .ok (.if_icmp .ne 5, 3) := by decide +kernel
theorem d_Walker_takeStep_101 : decode c_Walker_takeStep 101 = .ok (.iconst 0, 1) := by decide +kernel
theorem d_Walker_takeStep_102 : decode c_Walker_takeStep 102 = .ok (.ireturn, 1) := by decide +kernel
theorem d_Walker_takeStep_103 : decode c_Walker_takeStep 103 = .ok (.aload_n 1, 1) := by decide +kernel
theorem d_Walker_takeStep_104 : decode c_Walker_takeStep 104 = .ok (.iload 5, 2) := by decide +kernel
theorem d_Walker_takeStep_106 : decode c_Walker_takeStep 106 = .ok (.iload 9, 2) := by decide +kernel
theorem d_Walker_takeStep_108 : decode c_Walker_takeStep 108 = .ok (.invokevirtual 103, 3) := by decide +kernel
theorem d_Walker_takeStep_111 : decode c_Walker_takeStep 111 = .ok (.aload_n 1, 1) := by decide +kernel
theorem d_Walker_takeStep_112 : decode c_Walker_takeStep 112 = .ok (.iload 6, 2) := by decide +kernel
theorem d_Walker_takeStep_114 : decode c_Walker_takeStep 114 = .ok (.iload 8, 2) := by decide +kernel
theorem d_Walker_takeStep_116 : decode c_Walker_takeStep 116 = .ok (.iload 9, 2) := by decide +kernel
theorem d_Walker_takeStep_118 : decode c_Walker_takeStep 118 = .ok (.iconst (-1), 1) := by decide +kernel
theorem d_Walker_takeStep_119 : decode c_Walker_takeStep 119 = .ok (.ixor, 1) := by decide +kernel
theorem d_Walker_takeStep_120 : decode c_Walker_takeStep 120 = .ok (.iand, 1) := by decide +kernel
theorem d_Walker_takeStep_121 : decode c_Walker_takeStep 121 = .ok (.invokevirtual 103, 3) := by decide +kernel
theorem d_Walker_takeStep_124 : decode c_Walker_takeStep 124 = .ok (.aload_n 0, 1) := by decide +kernel
theorem d_Walker_takeStep_125 : decode c_Walker_takeStep 125 = .ok (.getfield 15, 3) := by decide +kernel
theorem d_Walker_takeStep_128 : decode c_Walker_takeStep 128 = .ok (.aload_n 1, 1) := by decide +kernel
theorem d_Walker_takeStep_129 : decode c_Walker_takeStep 129 = .ok (.invokevirtual 107, 3) := by decide +kernel
theorem d_Walker_takeStep_132 : decode c_Walker_takeStep 132 = .ok (.ifCond .eq 5, 3) := by decide +kernel
theorem d_Walker_takeStep_135 : decode c_Walker_takeStep 135 = .ok (.iconst 1, 1) := by decide +kernel
theorem d_Walker_takeStep_136 : decode c_Walker_takeStep 136 = .ok (.ireturn, 1) := by decide +kernel
theorem d_Walker_takeStep_137 : decode c_Walker_takeStep 137 = .ok (.aload_n 1, 1) := by decide +kernel
theorem d_Walker_takeStep_138 : decode c_Walker_takeStep 138 = .ok (.iload 5, 2) := by decide +kernel
theorem d_Walker_takeStep_140 : decode c_Walker_takeStep 140 = .ok (.iload 7, 2) := by decide +kernel
theorem d_Walker_takeStep_142 : decode c_Walker_takeStep 142 = .ok (.invokevirtual 103, 3) := by decide +kernel
theorem d_Walker_takeStep_145 : decode c_Walker_takeStep 145 = .ok (.aload_n 1, 1) := by decide +kernel
theorem d_Walker_takeStep_146 : decode c_Walker_takeStep 146 = .ok (.iload 6, 2) := by decide +kernel
theorem d_Walker_takeStep_148 : decode c_Walker_takeStep 148 = .ok (.iload 8, 2) := by decide +kernel
theorem d_Walker_takeStep_150 : decode c_Walker_takeStep 150 = .ok (.iload 7, 2) := by decide +kernel
theorem d_Walker_takeStep_152 : decode c_Walker_takeStep 152 = .ok (.iconst (-1), 1) := by decide +kernel
theorem d_Walker_takeStep_153 : decode c_Walker_takeStep 153 = .ok (.ixor, 1) := by decide +kernel
theorem d_Walker_takeStep_154 : decode c_Walker_takeStep 154 = .ok (.iand, 1) := by decide +kernel
theorem d_Walker_takeStep_155 : decode c_Walker_takeStep 155 = .ok (.invokevirtual 103, 3) := by decide +kernel
theorem d_Walker_takeStep_158 : decode c_Walker_takeStep 158 = .ok (.iconst 0, 1) := by decide +kernel
theorem d_Walker_takeStep_159 : decode c_Walker_takeStep 159 = .ok (.ireturn, 1) := by decide +kernel
theorem d_Walker_drawLeadingPart_0 : decode c_Walker_drawLeadingPart 0 = .ok (.aload_n 0, 1) := by decide +kernel
theorem d_Walker_drawLeadingPart_1 : decode c_Walker_drawLeadingPart 1 = .ok (.iload_n 1, 1) := by decide +kernel
theorem d_Walker_drawLeadingPart_2 : decode c_Walker_drawLeadingPart 2 = .ok (.invokevirtual 112, 3) := by decide +kernel
theorem d_Walker_drawLeadingPart_5 : decode c_Walker_drawLeadingPart 5 = .ok (.istore_n 2, 1) := by decide +kernel
theorem d_Walker_drawLeadingPart_6 : decode c_Walker_drawLeadingPart 6 = .ok (.aload_n 0, 1) := by decide +kernel
theorem d_Walker_drawLeadingPart_7 : decode c_Walker_drawLeadingPart 7 = .ok (.iload_n 2, 1) := by decide +kernel
theorem d_Walker_drawLeadingPart_8 : decode c_Walker_drawLeadingPart 8 = .ok (.invokevirtual 115, 3) := by decide +kernel
theorem d_Walker_drawLeadingPart_11 : decode c_Walker_drawLeadingPart 11 = .ok (.aload_n 0, 1) := by decide +kernel
theorem d_Walker_drawLeadingPart_12 : decode c_Walker_drawLeadingPart 12 = .ok (.iload_n 1, 1) := by decide +kernel
theorem d_Walker_drawLeadingPart_13 : decode c_Walker_drawLeadingPart 13 = .ok (.invokevirtual 119, 3) := by decide +kernel
theorem d_Walker_drawLeadingPart_16 : decode c_Walker_drawLeadingPart 16 = .ok (.istore_n 3, 1) := by decide +kernel
theorem d_Walker_drawLeadingPart_17 : decode c_Walker_drawLeadingPart 17 = .ok (.iload_n 3, 1) := by decide +kernel
theorem d_Walker_drawLeadingPart_18 : decode c_Walker_drawLeadingPart 18 = .ok (.ifCond .ne 5, 3) := by decide +kernel
theorem d_Walker_drawLeadingPart_21 : decode c_Walker_drawLeadingPart 21 = .ok (.iconst 0, 1) := by decide +kernel
theorem d_Walker_drawLeadingPart_22 : decode c_Walker_drawLeadingPart 22 = .ok (.ireturn, 1) := by decide +kernel
theorem d_Walker_drawLeadingPart_23 : decode c_Walker_drawLeadingPart 23 = .ok (.aload_n 0, 1) := by decide +kernel
theorem d_Walker_drawLeadingPart_24 : decode c_Walker_drawLeadingPart 24 = .ok (.aload_n 0, 1) := by decide +kernel
theorem d_Walker_drawLeadingPart_25 : decode c_Walker_drawLeadingPart 25 = .ok (.getfield 40, 3) := by decide +kernel
theorem d_Walker_drawLeadingPart_28 : decode c_Walker_drawLeadingPart 28 = .ok (.aload_n 0, 1) := by decide +kernel
theorem d_Walker_drawLeadingPart_29 : decode c_Walker_drawLeadingPart 29 = .ok (.invokevirtual 122, 3) := by decide +kernel
theorem d_Walker_drawLeadingPart_32 : decode c_Walker_drawLeadingPart 32 = .ok (.iload_n 3, 1) := by decide +kernel
theorem d_Walker_drawLeadingPart_33 : decode c_Walker_drawLeadingPart 33 = .ok (.irem, 1) := by decide +kernel
theorem d_Walker_drawLeadingPart_34 : decode c_Walker_drawLeadingPart 34 = .ok (.iaload, 1) := by decide +kernel
theorem d_Walker_drawLeadingPart_35 : decode c_Walker_drawLeadingPart 35 = .ok (.iload_n 1, 1) := by decide +kernel
theorem d_Walker_drawLeadingPart_36 : decode c_Walker_drawLeadingPart 36 = .ok (.invokevirtual 126, 3) := by decide +kernel
theorem d_Walker_drawLeadingPart_39 : decode c_Walker_drawLeadingPart 39 = .ok (.istore 4, 2) := by decide +kernel
theorem d_Walker_drawLeadingPart_41 : decode c_Walker_drawLeadingPart 41 = .ok (.iload 4, 2) := by decide +kernel
theorem d_Walker_drawLeadingPart_43 : decode c_Walker_drawLeadingPart 43 = .ok (.iload_n 1, 1) := by decide +kernel
theorem d_Walker_drawLeadingPart_44 : decode c_Walker_drawLeadingPart 44 = .ok (.invokestatic 129, 3) := by decide +kernel
theorem d_Walker_drawLeadingPart_47 : decode c_Walker_drawLeadingPart 47 = .ok (.invokestatic 134, 3) := by decide +kernel
theorem d_Walker_drawLeadingPart_50 : decode c_Walker_drawLeadingPart 50 = .ok (.ifCond .eq 8, 3) := by decide +kernel
theorem d_Walker_drawLeadingPart_53 : decode c_Walker_drawLeadingPart 53 = .ok (.iload 4, 2) := by decide +kernel
theorem d_Walker_drawLeadingPart_55 : decode c_Walker_drawLeadingPart 55 = .ok (.goto 9, 3) := by decide +kernel
theorem d_Walker_drawLeadingPart_58 : decode c_Walker_drawLeadingPart 58 = .ok (.iload_n 1, 1) := by decide +kernel
theorem d_Walker_drawLeadingPart_59 : decode c_Walker_drawLeadingPart 59 = .ok (.iload 4, 2) := by decide +kernel
theorem d_Walker_drawLeadingPart_61 : decode c_Walker_drawLeadingPart 61 = .ok (.iconst (-1), 1) := by decide +kernel
theorem d_Walker_drawLeadingPart_62 : decode c_Walker_drawLeadingPart 62 = .ok (.ixor, 1) := by decide +kernel
theorem d_Walker_drawLeadingPart_63 : decode c_Walker_drawLeadingPart 63 = .ok (.iand, 1) := by decide +kernel
theorem d_Walker_drawLeadingPart_64 : decode c_Walker_drawLeadingPart 64 = .ok (.ireturn, 1) := by decide +kernel
theorem d_Walker_draw_0 : decode c_Walker_draw 0 = .ok (.aload_n 0, 1) := by decide +kernel
theorem d_Walker_draw_1 : decode c_Walker_draw 1 = .ok (.aload_n 0, 1) := by decide +kernel
theorem d_Walker_draw_2 : decode c_Walker_draw 2 = .ok (.getfield 138, 3) := by decide +kernel
theorem d_Walker_draw_5 : decode c_Walker_draw 5 = .ok (.ldc 142, 2) := by decide +kernel
theorem d_Walker_draw_7 : decode c_Walker_draw 7 = .ok (.imul, 1) := by decide +kernel
theorem d_Walker_draw_8 : decode c_Walker_draw 8 = .ok (.sipush 12345, 3) := by decide +kernel
theorem d_Walker_draw_11 : decode c_Walker_draw 11 = .ok (.iadd, 1) := by decide +kernel
theorem d_Walker_draw_12 : decode c_Walker_draw 12 = .ok (.putfield 138, 3) := by decide +kernel
theorem d_Walker_draw_15 : decode c_Walker_draw 15 = .ok (.aload_n 0, 1) := by decide +kernel
theorem d_Walker_draw_16 : decode c_Walker_draw 16 = .ok (.getfield 138, 3) := by decide +kernel
theorem d_Walker_draw_19 : decode c_Walker_draw 19 = .ok (.bipush 16, 2) := by decide +kernel
theorem d_Walker_draw_21 : decode c_Walker_draw 21 = .ok (.iushr, 1) := by decide +kernel
theorem d_Walker_draw_22 : decode c_Walker_draw 22 = .ok (.ireturn, 1) := by decide +kernel
theorem d_Walker_drawCrossing_0 : decode c_Walker_drawCrossing 0 = .ok (.iconst 0, 1) := by decide +kernel
theorem d_Walker_drawCrossing_1 : decode c_Walker_drawCrossing 1 = .ok (.istore_n 2, 1) := by decide +kernel
theorem d_Walker_drawCrossing_2 : decode c_Walker_drawCrossing 2 = .ok (.iconst 0, 1) := by decide +kernel
theorem d_Walker_drawCrossing_3 : decode c_Walker_drawCrossing 3 = .ok (.istore_n 3, 1) := by decide +kernel
theorem d_Walker_drawCrossing_4 : decode c_Walker_drawCrossing 4 = .ok (.iload_n 3, 1) := by decide +kernel
theorem d_Walker_drawCrossing_5 : decode c_Walker_drawCrossing 5 = .ok (.aload_n 0, 1) := by decide +kernel
theorem d_Walker_drawCrossing_6 : decode c_Walker_drawCrossing 6 = .ok (.getfield 9, 3) := by decide +kernel
theorem d_Walker_drawCrossing_9 : decode c_Walker_drawCrossing 9 = .ok (.getfield 143, 3) := by decide +kernel
theorem d_Walker_drawCrossing_12 : decode c_Walker_drawCrossing 12 = .ok (.if_icmp .ge 50, 3) := by decide +kernel
theorem d_Walker_drawCrossing_15 : decode c_Walker_drawCrossing 15 = .ok (.aload_n 1, 1) := by decide +kernel
theorem d_Walker_drawCrossing_16 : decode c_Walker_drawCrossing 16 = .ok (.getfield 85, 3) := by decide +kernel
theorem d_Walker_drawCrossing_19 : decode c_Walker_drawCrossing 19 = .ok (.aload_n 0, 1) := by decide +kernel
theorem d_Walker_drawCrossing_20 : decode c_Walker_drawCrossing 20 = .ok (.getfield 9, 3) := by decide +kernel
theorem d_Walker_drawCrossing_23 : decode c_Walker_drawCrossing 23 = .ok (.getfield 88, 3) := by decide +kernel
theorem d_Walker_drawCrossing_26 : decode c_Walker_drawCrossing 26 = .ok (.iload_n 3, 1) := by decide +kernel
theorem d_Walker_drawCrossing_27 : decode c_Walker_drawCrossing 27 = .ok (.iaload, 1) := by decide +kernel
theorem d_Walker_drawCrossing_28 : decode c_Walker_drawCrossing 28 = .ok (.iaload, 1) := by decide +kernel
theorem d_Walker_drawCrossing_29 : decode c_Walker_drawCrossing 29 = .ok (.aload_n 1, 1) := by decide +kernel
theorem d_Walker_drawCrossing_30 : decode c_Walker_drawCrossing 30 = .ok (.getfield 85, 3) := by decide +kernel
theorem d_Walker_drawCrossing_33 : decode c_Walker_drawCrossing 33 = .ok (.aload_n 0, 1) := by decide +kernel
theorem d_Walker_drawCrossing_34 : decode c_Walker_drawCrossing 34 = .ok (.getfield 9, 3) := by decide +kernel
theorem d_Walker_drawCrossing_37 : decode c_Walker_drawCrossing 37 = .ok (.getfield 93, 3) := by decide +kernel
theorem d_Walker_drawCrossing_40 : decode c_Walker_drawCrossing 40 = .ok (.iload_n 3, 1) := by decide +kernel
theorem d_Walker_drawCrossing_41 : decode c_Walker_drawCrossing 41 = .ok (.iaload, 1) := by decide +kernel
theorem d_Walker_drawCrossing_42 : decode c_Walker_drawCrossing 42 = .ok (.iaload, 1) := by decide +kernel
theorem d_Walker_drawCrossing_43 : decode c_Walker_drawCrossing 43 = .ok (.if_icmp .eq 13, 3) := by decide +kernel
theorem d_Walker_drawCrossing_46 : decode c_Walker_drawCrossing 46 = .ok (.aload_n 0, 1) := by decide +kernel
theorem d_Walker_drawCrossing_47 : decode c_Walker_drawCrossing 47 = .ok (.getfield 40, 3) := by decide +kernel
theorem d_Walker_drawCrossing_50 : decode c_Walker_drawCrossing 50 = .ok (.iload_n 2, 1) := by decide +kernel
theorem d_Walker_drawCrossing_51 : decode c_Walker_drawCrossing 51 = .ok (.iload_n 3, 1) := by decide +kernel
theorem d_Walker_drawCrossing_52 : decode c_Walker_drawCrossing 52 = .ok (.iastore, 1) := by decide +kernel
