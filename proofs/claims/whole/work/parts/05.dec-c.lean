theorem dX5_init_0 : decode cX5_init 0 = .ok (.aload_n 0, 1) := by decide +kernel
theorem dX5_init_1 : decode cX5_init 1 = .ok (.invokespecial 1, 3) := by decide +kernel
theorem dX5_init_4 : decode cX5_init 4 = .ok (.aload_n 0, 1) := by decide +kernel
theorem dX5_init_5 : decode cX5_init 5 = .ok (.bipush 8, 2) := by decide +kernel
theorem dX5_init_7 : decode cX5_init 7 = .ok (.newarray .int, 2) := by decide +kernel
theorem dX5_init_9 : decode cX5_init 9 = .ok (.putfield 7, 3) := by decide +kernel
theorem dX5_init_12 : decode cX5_init 12 = .ok (.aload_n 0, 1) := by decide +kernel
theorem dX5_init_13 : decode cX5_init 13 = .ok (.bipush 8, 2) := by decide +kernel
theorem dX5_init_15 : decode cX5_init 15 = .ok (.newarray .int, 2) := by decide +kernel
theorem dX5_init_17 : decode cX5_init 17 = .ok (.putfield 13, 3) := by decide +kernel
theorem dX5_init_20 : decode cX5_init 20 = .ok (.aload_n 0, 1) := by decide +kernel
theorem dX5_init_21 : decode cX5_init 21 = .ok (.sipush 320, 3) := by decide +kernel
theorem dX5_init_24 : decode cX5_init 24 = .ok (.newarray .int, 2) := by decide +kernel
theorem dX5_init_26 : decode cX5_init 26 = .ok (.putfield 16, 3) := by decide +kernel
theorem dX5_init_29 : decode cX5_init 29 = .ok (.aload_n 0, 1) := by decide +kernel
theorem dX5_init_30 : decode cX5_init 30 = .ok (.bipush 70, 2) := by decide +kernel
theorem dX5_init_32 : decode cX5_init 32 = .ok (.newarray .int, 2) := by decide +kernel
theorem dX5_init_34 : decode cX5_init 34 = .ok (.putfield 19, 3) := by decide +kernel
theorem dX5_init_37 : decode cX5_init 37 = .ok (.aload_n 0, 1) := by decide +kernel
theorem dX5_init_38 : decode cX5_init 38 = .ok (.bipush 40, 2) := by decide +kernel
theorem dX5_init_40 : decode cX5_init 40 = .ok (.newarray .int, 2) := by decide +kernel
theorem dX5_init_42 : decode cX5_init 42 = .ok (.putfield 22, 3) := by decide +kernel
theorem dX5_init_45 : decode cX5_init 45 = .ok (.aload_n 0, 1) := by decide +kernel
theorem dX5_init_46 : decode cX5_init 46 = .ok (.bipush 120, 2) := by decide +kernel
theorem dX5_init_48 : decode cX5_init 48 = .ok (.newarray .int, 2) := by decide +kernel
theorem dX5_init_50 : decode cX5_init 50 = .ok (.putfield 25, 3) := by decide +kernel
theorem dX5_init_53 : decode cX5_init 53 = .ok (.aload_n 0, 1) := by decide +kernel
theorem dX5_init_54 : decode cX5_init 54 = .ok (.bipush 70, 2) := by decide +kernel
theorem dX5_init_56 : decode cX5_init 56 = .ok (.newarray .int, 2) := by decide +kernel
theorem dX5_init_58 : decode cX5_init 58 = .ok (.putfield 28, 3) := by decide +kernel
theorem dX5_init_61 : decode cX5_init 61 = .ok (.aload_n 0, 1) := by decide +kernel
theorem dX5_init_62 : decode cX5_init 62 = .ok (.sipush 1680, 3) := by decide +kernel
theorem dX5_init_65 : decode cX5_init 65 = .ok (.newarray .int, 2) := by decide +kernel
theorem dX5_init_67 : decode cX5_init 67 = .ok (.putfield 31, 3) := by decide +kernel
theorem dX5_init_70 : decode cX5_init 70 = .ok (.aload_n 0, 1) := by decide +kernel
theorem dX5_init_71 : decode cX5_init 71 = .ok (.bipush 70, 2) := by decide +kernel
theorem dX5_init_73 : decode cX5_init 73 = .ok (.newarray .int, 2) := by decide +kernel
theorem dX5_init_75 : decode cX5_init 75 = .ok (.putfield 34, 3) := by decide +kernel
theorem dX5_init_78 : decode cX5_init 78 = .ok (.aload_n 0, 1) := by decide +kernel
theorem dX5_init_79 : decode cX5_init 79 = .ok (.iconst 2, 1) := by decide +kernel
theorem dX5_init_80 : decode cX5_init 80 = .ok (.newarray .boolean, 2) := by decide +kernel
theorem dX5_init_82 : decode cX5_init 82 = .ok (.putfield 37, 3) := by decide +kernel
theorem dX5_init_85 : decode cX5_init 85 = .ok (.aload_n 0, 1) := by decide +kernel
theorem dX5_init_86 : decode cX5_init 86 = .ok (.sipush 140, 3) := by decide +kernel
theorem dX5_init_89 : decode cX5_init 89 = .ok (.newarray .int, 2) := by decide +kernel
theorem dX5_init_91 : decode cX5_init 91 = .ok (.putfield 41, 3) := by decide +kernel
theorem dX5_init_94 : decode cX5_init 94 = .ok (.aload_n 0, 1) := by decide +kernel
theorem dX5_init_95 : decode cX5_init 95 = .ok (.bipush 16, 2) := by decide +kernel
theorem dX5_init_97 : decode cX5_init 97 = .ok (.newarray .int, 2) := by decide +kernel
theorem dX5_init_99 : decode cX5_init 99 = .ok (.putfield 44, 3) := by decide +kernel
theorem dX5_init_102 : decode cX5_init 102 = .ok (.iconst 0, 1) := by decide +kernel
theorem dX5_init_103 : decode cX5_init 103 = .ok (.istore_n 1, 1) := by decide +kernel
theorem dX5_init_104 : decode cX5_init 104 = .ok (.iload_n 1, 1) := by decide +kernel
theorem dX5_init_105 : decode cX5_init 105 = .ok (.bipush 8, 2) := by decide +kernel
theorem dX5_init_107 : decode cX5_init 107 = .ok (.if_icmp .ge 16, 3) := by decide +kernel
theorem dX5_init_110 : decode cX5_init 110 = .ok (.aload_n 0, 1) := by decide +kernel
theorem dX5_init_111 : decode cX5_init 111 = .ok (.getfield 13, 3) := by decide +kernel
theorem dX5_init_114 : decode cX5_init 114 = .ok (.iload_n 1, 1) := by decide +kernel
theorem dX5_init_115 : decode cX5_init 115 = .ok (.iconst (-1), 1) := by decide +kernel
theorem dX5_init_116 : decode cX5_init 116 = .ok (.iastore, 1) := by decide +kernel
theorem dX5_init_117 : decode cX5_init 117 = .ok (.iinc 1 1, 3) := by decide +kernel
theorem dX5_init_120 : decode cX5_init 120 = .ok (.goto (-16), 3) := by decide +kernel
theorem dX5_init_123 : decode cX5_init 123 = .ok (.return_, 1) := by decide +kernel
theorem dX5_in_0 : decode cX5_in 0 = .ok (.lload_n 0, 1) := by decide +kernel
theorem dX5_in_1 : decode cX5_in 1 = .ok (.lload_n 2, 1) := by decide +kernel
theorem dX5_in_2 : decode cX5_in 2 = .ok (.lcmp, 1) := by decide +kernel
theorem dX5_in_3 : decode cX5_in 3 = .ok (.ifCond .lt 14, 3) := by decide +kernel
theorem dX5_in_6 : decode cX5_in 6 = .ok (.lload_n 0, 1) := by decide +kernel
theorem dX5_in_7 : decode cX5_in 7 = .ok (.lload 4, 2) := by decide +kernel
theorem dX5_in_9 : decode cX5_in 9 = .ok (.lcmp, 1) := by decide +kernel
theorem dX5_in_10 : decode cX5_in 10 = .ok (.ifCond .gt 7, 3) := by decide +kernel
theorem dX5_in_13 : decode cX5_in 13 = .ok (.iconst 1, 1) := by decide +kernel
theorem dX5_in_14 : decode cX5_in 14 = .ok (.goto 4, 3) := by decide +kernel
theorem dX5_in_17 : decode cX5_in 17 = .ok (.iconst 0, 1) := by decide +kernel
theorem dX5_in_18 : decode cX5_in 18 = .ok (.ireturn, 1) := by decide +kernel
theorem dX5_has_0 : decode cX5_has 0 = .ok (.iload_n 0, 1) := by decide +kernel
theorem dX5_has_1 : decode cX5_has 1 = .ok (.iload_n 1, 1) := by decide +kernel
theorem dX5_has_2 : decode cX5_has 2 = .ok (.ishr, 1) := by decide +kernel
theorem dX5_has_3 : decode cX5_has 3 = .ok (.iconst 1, 1) := by decide +kernel
theorem dX5_has_4 : decode cX5_has 4 = .ok (.iand, 1) := by decide +kernel
theorem dX5_has_5 : decode cX5_has 5 = .ok (.iconst 1, 1) := by decide +kernel
theorem dX5_has_6 : decode cX5_has 6 = .ok (.if_icmp .ne 7, 3) := by decide +kernel
theorem dX5_has_9 : decode cX5_has 9 = .ok (.iconst 1, 1) := by decide +kernel
theorem dX5_has_10 : decode cX5_has 10 = .ok (.goto 4, 3) := by decide +kernel
theorem dX5_has_13 : decode cX5_has 13 = .ok (.iconst 0, 1) := by decide +kernel
theorem dX5_has_14 : decode cX5_has 14 = .ok (.ireturn, 1) := by decide +kernel
theorem dX5_ones_0 : decode cX5_ones 0 = .ok (.iconst 0, 1) := by decide +kernel
theorem dX5_ones_1 : decode cX5_ones 1 = .ok (.istore_n 1, 1) := by decide +kernel
theorem dX5_ones_2 : decode cX5_ones 2 = .ok (.iload_n 0, 1) := by decide +kernel
theorem dX5_ones_3 : decode cX5_ones 3 = .ok (.istore_n 2, 1) := by decide +kernel
theorem dX5_ones_4 : decode cX5_ones 4 = .ok (.iload_n 2, 1) := by decide +kernel
theorem dX5_ones_5 : decode cX5_ones 5 = .ok (.ifCond .eq 15, 3) := by decide +kernel
theorem dX5_ones_8 : decode cX5_ones 8 = .ok (.iinc 1 1, 3) := by decide +kernel
theorem dX5_ones_11 : decode cX5_ones 11 = .ok (.iload_n 2, 1) := by decide +kernel
theorem dX5_ones_12 : decode cX5_ones 12 = .ok (.iload_n 2, 1) := by decide +kernel
theorem dX5_ones_13 : decode cX5_ones 13 = .ok (.iconst 1, 1) := by decide +kernel
theorem dX5_ones_14 : decode cX5_ones 14 = .ok (.isub, 1) := by decide +kernel
theorem dX5_ones_15 : decode cX5_ones 15 = .ok (.iand, 1) := by decide +kernel
theorem dX5_ones_16 : decode cX5_ones 16 = .ok (.istore_n 2, 1) := by decide +kernel
theorem dX5_ones_17 : decode cX5_ones 17 = .ok (.goto (-13), 3) := by decide +kernel
theorem dX5_ones_20 : decode cX5_ones 20 = .ok (.iload_n 1, 1) := by decide +kernel
theorem dX5_ones_21 : decode cX5_ones 21 = .ok (.ireturn, 1) := by decide +kernel
theorem dX5_find_0 : decode cX5_find 0 = .ok (.aload_n 0, 1) := by decide +kernel
theorem dX5_find_1 : decode cX5_find 1 = .ok (.iload_n 1, 1) := by decide +kernel
theorem dX5_find_2 : decode cX5_find 2 = .ok (.putfield 47, 3) := by decide +kernel
theorem dX5_find_5 : decode cX5_find 5 = .ok (.ldc 51, 2) := by decide +kernel
theorem dX5_find_7 : decode cX5_find 7 = .ok (.iload_n 1, 1) := by decide +kernel
theorem dX5_find_8 : decode cX5_find 8 = .ok (.isub, 1) := by decide +kernel
theorem dX5_find_9 : decode cX5_find 9 = .ok (.ireturn, 1) := by decide +kernel
theorem dX5_well_0 : decode cX5_well 0 = .ok (.aload_n 0, 1) := by decide +kernel
theorem dX5_well_1 : decode cX5_well 1 = .ok (.iconst 0, 1) := by decide +kernel
theorem dX5_well_2 : decode cX5_well 2 = .ok (.putfield 47, 3) := by decide +kernel
theorem dX5_well_5 : decode cX5_well 5 = .ok (.iload_n 1, 1) := by decide +kernel
theorem dX5_well_6 : decode cX5_well 6 = .ok (.ireturn, 1) := by decide +kernel
theorem dX5_isRow_0 : decode cX5_isRow 0 = .ok (.iload_n 0, 1) := by decide +kernel
theorem dX5_isRow_1 : decode cX5_isRow 1 = .ok (.i2l, 1) := by decide +kernel
theorem dX5_isRow_2 : decode cX5_isRow 2 = .ok (.lconst 0, 1) := by decide +kernel
theorem dX5_isRow_3 : decode cX5_isRow 3 = .ok (.ldc2_w 52, 3) := by decide +kernel
theorem dX5_isRow_6 : decode cX5_isRow 6 = .ok (.invokestatic 54, 3) := by decide +kernel
theorem dX5_isRow_9 : decode cX5_isRow 9 = .ok (.ireturn, 1) := by decide +kernel
theorem dX5_row_0 : decode cX5_row 0 = .ok (.iload_n 1, 1) := by decide +kernel
theorem dX5_row_1 : decode cX5_row 1 = .ok (.invokestatic 58, 3) := by decide +kernel
theorem dX5_row_4 : decode cX5_row 4 = .ok (.ifCond .eq 21, 3) := by decide +kernel
theorem dX5_row_7 : decode cX5_row 7 = .ok (.iload_n 2, 1) := by decide +kernel
theorem dX5_row_8 : decode cX5_row 8 = .ok (.i2l, 1) := by decide +kernel
theorem dX5_row_9 : decode cX5_row 9 = .ok (.lconst 0, 1) := by decide +kernel
theorem dX5_row_10 : decode cX5_row 10 = .ok (.ldc2_w 62, 3) := by decide +kernel
theorem dX5_row_13 : decode cX5_row 13 = .ok (.invokestatic 54, 3) := by decide +kernel
theorem dX5_row_16 : decode cX5_row 16 = .ok (.ifCond .eq 9, 3) := by decide +kernel
theorem dX5_row_19 : decode cX5_row 19 = .ok (.iload_n 3, 1) := by decide +kernel
theorem dX5_row_20 : decode cX5_row 20 = .ok (.bipush 40, 2) := by decide +kernel
theorem dX5_row_22 : decode cX5_row 22 = .ok (.if_icmp .le 6, 3) := by decide +kernel
theorem dX5_row_25 : decode cX5_row 25 = .ok (.ldc 64, 2) := by decide +kernel
theorem dX5_row_27 : decode cX5_row 27 = .ok (.ireturn, 1) := by decide +kernel
theorem dX5_row_28 : decode cX5_row 28 = .ok (.iload_n 3, 1) := by decide +kernel
theorem dX5_row_29 : decode cX5_row 29 = .ok (.ifCond .ge 9, 3) := by decide +kernel
theorem dX5_row_32 : decode cX5_row 32 = .ok (.aload_n 0, 1) := by decide +kernel
theorem dX5_row_33 : decode cX5_row 33 = .ok (.iconst 4, 1) := by decide +kernel
theorem dX5_row_34 : decode cX5_row 34 = .ok (.invokevirtual 65, 3) := by decide +kernel
theorem dX5_row_37 : decode cX5_row 37 = .ok (.ireturn, 1) := by decide +kernel
theorem dX5_row_38 : decode cX5_row 38 = .ok (.aload_n 0, 1) := by decide +kernel
theorem dX5_row_39 : decode cX5_row 39 = .ok (.getfield 7, 3) := by decide +kernel
theorem dX5_row_42 : decode cX5_row 42 = .ok (.iload_n 1, 1) := by decide +kernel
theorem dX5_row_43 : decode cX5_row 43 = .ok (.iload_n 2, 1) := by decide +kernel
theorem dX5_row_44 : decode cX5_row 44 = .ok (.iastore, 1) := by decide +kernel
theorem dX5_row_45 : decode cX5_row 45 = .ok (.aload_n 0, 1) := by decide +kernel
theorem dX5_row_46 : decode cX5_row 46 = .ok (.getfield 13, 3) := by decide +kernel
theorem dX5_row_49 : decode cX5_row 49 = .ok (.iload_n 1, 1) := by decide +kernel
theorem dX5_row_50 : decode cX5_row 50 = .ok (.iload_n 3, 1) := by decide +kernel
theorem dX5_row_51 : decode cX5_row 51 = .ok (.iastore, 1) := by decide +kernel
theorem dX5_row_52 : decode cX5_row 52 = .ok (.iconst 0, 1) := by decide +kernel
theorem dX5_row_53 : decode cX5_row 53 = .ok (.istore 4, 2) := by decide +kernel
theorem dX5_row_55 : decode cX5_row 55 = .ok (.iload 4, 2) := by decide +kernel
theorem dX5_row_57 : decode cX5_row 57 = .ok (.bipush 40, 2) := by decide +kernel
theorem dX5_row_59 : decode cX5_row 59 = .ok (.if_icmp .ge 22, 3) := by decide +kernel
theorem dX5_row_62 : decode cX5_row 62 = .ok (.aload_n 0, 1) := by decide +kernel
theorem dX5_row_63 : decode cX5_row 63 = .ok (.getfield 16, 3) := by decide +kernel
theorem dX5_row_66 : decode cX5_row 66 = .ok (.bipush 40, 2) := by decide +kernel
theorem dX5_row_68 : decode cX5_row 68 = .ok (.iload_n 1, 1) := by decide +kernel
theorem dX5_row_69 : decode cX5_row 69 = .ok (.imul, 1) := by decide +kernel
theorem dX5_row_70 : decode cX5_row 70 = .ok (.iload 4, 2) := by decide +kernel
theorem dX5_row_72 : decode cX5_row 72 = .ok (.iadd, 1) := by decide +kernel
theorem dX5_row_73 : decode cX5_row 73 = .ok (.iconst 0, 1) := by decide +kernel
theorem dX5_row_74 : decode cX5_row 74 = .ok (.iastore, 1) := by decide +kernel
theorem dX5_row_75 : decode cX5_row 75 = .ok (.iinc 4 1, 3) := by decide +kernel
theorem dX5_row_78 : decode cX5_row 78 = .ok (.goto (-23), 3) := by decide +kernel
theorem dX5_row_81 : decode cX5_row 81 = .ok (.aload_n 0, 1) := by decide +kernel
theorem dX5_row_82 : decode cX5_row 82 = .ok (.iload_n 3, 1) := by decide +kernel
theorem dX5_row_83 : decode cX5_row 83 = .ok (.invokevirtual 69, 3) := by decide +kernel
theorem dX5_row_86 : decode cX5_row 86 = .ok (.ireturn, 1) := by decide +kernel
theorem dX5_asLane_0 : decode cX5_asLane 0 = .ok (.iload_n 0, 1) := by decide +kernel
theorem dX5_asLane_1 : decode cX5_asLane 1 = .ok (.ifCond .ne 13, 3) := by decide +kernel
theorem dX5_asLane_4 : decode cX5_asLane 4 = .ok (.iload_n 1, 1) := by decide +kernel
theorem dX5_asLane_5 : decode cX5_asLane 5 = .ok (.bipush 24, 2) := by decide +kernel
theorem dX5_asLane_7 : decode cX5_asLane 7 = .ok (.ishl, 1) := by decide +kernel
theorem dX5_asLane_8 : decode cX5_asLane 8 = .ok (.bipush 24, 2) := by decide +kernel
theorem dX5_asLane_10 : decode cX5_asLane 10 = .ok (.ishr, 1) := by decide +kernel
theorem dX5_asLane_11 : decode cX5_asLane 11 = .ok (.goto 19, 3) := by decide +kernel
theorem dX5_asLane_14 : decode cX5_asLane 14 = .ok (.iload_n 0, 1) := by decide +kernel
theorem dX5_asLane_15 : decode cX5_asLane 15 = .ok (.iconst 1, 1) := by decide +kernel
theorem dX5_asLane_16 : decode cX5_asLane 16 = .ok (.if_icmp .ne 13, 3) := by decide +kernel
theorem dX5_asLane_19 : decode cX5_asLane 19 = .ok (.iload_n 1, 1) := by decide +kernel
theorem dX5_asLane_20 : decode cX5_asLane 20 = .ok (.bipush 16, 2) := by decide +kernel
theorem dX5_asLane_22 : decode cX5_asLane 22 = .ok (.ishl, 1) := by decide +kernel
theorem dX5_asLane_23 : decode cX5_asLane 23 = .ok (.bipush 16, 2) := by decide +kernel
theorem dX5_asLane_25 : decode cX5_asLane 25 = .ok (.ishr, 1) := by decide +kernel
theorem dX5_asLane_26 : decode cX5_asLane 26 = .ok (.goto 4, 3) := by decide +kernel
theorem dX5_asLane_29 : decode cX5_asLane 29 = .ok (.iload_n 1, 1) := by decide +kernel
theorem dX5_asLane_30 : decode cX5_asLane 30 = .ok (.ireturn, 1) := by decide +kernel
theorem dX5_set_0 : decode cX5_set 0 = .ok (.iload_n 1, 1) := by decide +kernel
theorem dX5_set_1 : decode cX5_set 1 = .ok (.invokestatic 58, 3) := by decide +kernel
theorem dX5_set_4 : decode cX5_set 4 = .ok (.ifCond .ne 6, 3) := by decide +kernel
theorem dX5_set_7 : decode cX5_set 7 = .ok (.ldc 64, 2) := by decide +kernel
theorem dX5_set_9 : decode cX5_set 9 = .ok (.ireturn, 1) := by decide +kernel
theorem dX5_set_10 : decode cX5_set 10 = .ok (.aload_n 0, 1) := by decide +kernel
theorem dX5_set_11 : decode cX5_set 11 = .ok (.getfield 13, 3) := by decide +kernel
theorem dX5_set_14 : decode cX5_set 14 = .ok (.iload_n 1, 1) := by decide +kernel
theorem dX5_set_15 : decode cX5_set 15 = .ok (.iaload, 1) := by decide +kernel
theorem dX5_set_16 : decode cX5_set 16 = .ok (.ifCond .ge 9, 3) := by decide +kernel
theorem dX5_set_19 : decode cX5_set 19 = .ok (.aload_n 0, 1) := by decide +kernel
theorem dX5_set_20 : decode cX5_set 20 = .ok (.iconst 1, 1) := by decide +kernel
theorem dX5_set_21 : decode cX5_set 21 = .ok (.invokevirtual 65, 3) := by decide +kernel
theorem dX5_set_24 : decode cX5_set 24 = .ok (.ireturn, 1) := by decide +kernel
theorem dX5_set_25 : decode cX5_set 25 = .ok (.iload_n 2, 1) := by decide +kernel
theorem dX5_set_26 : decode cX5_set 26 = .ok (.i2l, 1) := by decide +kernel
theorem dX5_set_27 : decode cX5_set 27 = .ok (.lconst 0, 1) := by decide +kernel
theorem dX5_set_28 : decode cX5_set 28 = .ok (.aload_n 0, 1) := by decide +kernel
theorem dX5_set_29 : decode cX5_set 29 = .ok (.getfield 13, 3) := by decide +kernel
theorem dX5_set_32 : decode cX5_set 32 = .ok (.iload_n 1, 1) := by decide +kernel
theorem dX5_set_33 : decode cX5_set 33 = .ok (.iaload, 1) := by decide +kernel
theorem dX5_set_34 : decode cX5_set 34 = .ok (.iconst 1, 1) := by decide +kernel
theorem dX5_set_35 : decode cX5_set 35 = .ok (.isub, 1) := by decide +kernel
theorem dX5_set_36 : decode cX5_set 36 = .ok (.i2l, 1) := by decide +kernel
theorem dX5_set_37 : decode cX5_set 37 = .ok (.invokestatic 54, 3) := by decide +kernel
theorem dX5_set_40 : decode cX5_set 40 = .ok (.ifCond .ne 9, 3) := by decide +kernel
theorem dX5_set_43 : decode cX5_set 43 = .ok (.aload_n 0, 1) := by decide +kernel
theorem dX5_set_44 : decode cX5_set 44 = .ok (.iconst 2, 1) := by decide +kernel
theorem dX5_set_45 : decode cX5_set 45 = .ok (.invokevirtual 65, 3) := by decide +kernel
theorem dX5_set_48 : decode cX5_set 48 = .ok (.ireturn, 1) := by decide +kernel
theorem dX5_set_49 : decode cX5_set 49 = .ok (.aload_n 0, 1) := by decide +kernel
theorem dX5_set_50 : decode cX5_set 50 = .ok (.getfield 16, 3) := by decide +kernel
theorem dX5_set_53 : decode cX5_set 53 = .ok (.bipush 40, 2) := by decide +kernel
theorem dX5_set_55 : decode cX5_set 55 = .ok (.iload_n 1, 1) := by decide +kernel
theorem dX5_set_56 : decode cX5_set 56 = .ok (.imul, 1) := by decide +kernel
theorem dX5_set_57 : decode cX5_set 57 = .ok (.iload_n 2, 1) := by decide +kernel
theorem dX5_set_58 : decode cX5_set 58 = .ok (.iadd, 1) := by decide +kernel
theorem dX5_set_59 : decode cX5_set 59 = .ok (.aload_n 0, 1) := by decide +kernel
theorem dX5_set_60 : decode cX5_set 60 = .ok (.getfield 7, 3) := by decide +kernel
theorem dX5_set_63 : decode cX5_set 63 = .ok (.iload_n 1, 1) := by decide +kernel
theorem dX5_set_64 : decode cX5_set 64 = .ok (.iaload, 1) := by decide +kernel
theorem dX5_set_65 : decode cX5_set 65 = .ok (.iload_n 3, 1) := by decide +kernel
theorem dX5_set_66 : decode cX5_set 66 = .ok (.invokestatic 72, 3) := by decide +kernel
theorem dX5_set_69 : decode cX5_set 69 = .ok (.iastore, 1) := by decide +kernel
theorem dX5_set_70 : decode cX5_set 70 = .ok (.aload_n 0, 1) := by decide +kernel
theorem dX5_set_71 : decode cX5_set 71 = .ok (.aload_n 0, 1) := by decide +kernel
theorem dX5_set_72 : decode cX5_set 72 = .ok (.getfield 16, 3) := by decide +kernel
theorem dX5_set_75 : decode cX5_set 75 = .ok (.bipush 40, 2) := by decide +kernel
theorem dX5_set_77 : decode cX5_set 77 = .ok (.iload_n 1, 1) := by decide +kernel
theorem dX5_set_78 : decode cX5_set 78 = .ok (.imul, 1) := by decide +kernel
theorem dX5_set_79 : decode cX5_set 79 = .ok (.iload_n 2, 1) := by decide +kernel
theorem dX5_set_80 : decode cX5_set 80 = .ok (.iadd, 1) := by decide +kernel
theorem dX5_set_81 : decode cX5_set 81 = .ok (.iaload, 1) := by decide +kernel
theorem dX5_set_82 : decode cX5_set 82 = .ok (.invokevirtual 69, 3) := by decide +kernel
theorem dX5_set_85 : decode cX5_set 85 = .ok (.ireturn, 1) := by decide +kernel
theorem dX5_copy_0 : decode cX5_copy 0 = .ok (.iload_n 1, 1) := by decide +kernel
theorem dX5_copy_1 : decode cX5_copy 1 = .ok (.invokestatic 58, 3) := by decide +kernel
theorem dX5_copy_4 : decode cX5_copy 4 = .ok (.ifCond .eq 10, 3) := by decide +kernel
theorem dX5_copy_7 : decode cX5_copy 7 = .ok (.iload_n 3, 1) := by decide +kernel
theorem dX5_copy_8 : decode cX5_copy 8 = .ok (.invokestatic 58, 3) := by decide +kernel
theorem dX5_copy_11 : decode cX5_copy 11 = .ok (.ifCond .ne 6, 3) := by decide +kernel
theorem dX5_copy_14 : decode cX5_copy 14 = .ok (.ldc 64, 2) := by decide +kernel
theorem dX5_copy_16 : decode cX5_copy 16 = .ok (.ireturn, 1) := by decide +kernel
theorem dX5_copy_17 : decode cX5_copy 17 = .ok (.aload_n 0, 1) := by decide +kernel
theorem dX5_copy_18 : decode cX5_copy 18 = .ok (.getfield 13, 3) := by decide +kernel
theorem dX5_copy_21 : decode cX5_copy 21 = .ok (.iload_n 1, 1) := by decide +kernel
theorem dX5_copy_22 : decode cX5_copy 22 = .ok (.iaload, 1) := by decide +kernel
theorem dX5_copy_23 : decode cX5_copy 23 = .ok (.ifCond .lt 12, 3) := by decide +kernel
theorem dX5_copy_26 : decode cX5_copy 26 = .ok (.aload_n 0, 1) := by decide +kernel
theorem dX5_copy_27 : decode cX5_copy 27 = .ok (.getfield 13, 3) := by decide +kernel
theorem dX5_copy_30 : decode cX5_copy 30 = .ok (.iload_n 3, 1) := by decide +kernel
theorem dX5_copy_31 : decode cX5_copy 31 = .ok (.iaload, 1) := by decide +kernel
theorem dX5_copy_32 : decode cX5_copy 32 = .ok (.ifCond .ge 9, 3) := by decide +kernel
theorem dX5_copy_35 : decode cX5_copy 35 = .ok (.aload_n 0, 1) := by decide +kernel
theorem dX5_copy_36 : decode cX5_copy 36 = .ok (.iconst 1, 1) := by decide +kernel
theorem dX5_copy_37 : decode cX5_copy 37 = .ok (.invokevirtual 65, 3) := by decide +kernel
theorem dX5_copy_40 : decode cX5_copy 40 = .ok (.ireturn, 1) := by decide +kernel
theorem dX5_copy_41 : decode cX5_copy 41 = .ok (.aload_n 0, 1) := by decide +kernel
theorem dX5_copy_42 : decode cX5_copy 42 = .ok (.getfield 7, 3) := by decide +kernel
theorem dX5_copy_45 : decode cX5_copy 45 = .ok (.iload_n 1, 1) := by decide +kernel
theorem dX5_copy_46 : decode cX5_copy 46 = .ok (.iaload, 1) := by decide +kernel
theorem dX5_copy_47 : decode cX5_copy 47 = .ok (.aload_n 0, 1) := by decide +kernel
theorem dX5_copy_48 : decode cX5_copy 48 = .ok (.getfield 7, 3) := by decide +kernel
theorem dX5_copy_51 : decode cX5_copy 51 = .ok (.iload_n 3, 1) := by decide +kernel
theorem dX5_copy_52 : decode cX5_copy 52 = .ok (.iaload, 1) := by decide +kernel
theorem dX5_copy_53 : decode cX5_copy 53 = .ok (.if_icmp .eq 9, 3) := by decide +kernel
theorem dX5_copy_56 : decode cX5_copy 56 = .ok (.aload_n 0, 1) := by decide +kernel
theorem dX5_copy_57 : decode cX5_copy 57 = .ok (.iconst 5, 1) := by decide +kernel
theorem dX5_copy_58 : decode cX5_copy 58 = .ok (.invokevirtual 65, 3) := by decide +kernel
theorem dX5_copy_61 : decode cX5_copy 61 = .ok (.ireturn, 1) := by decide +kernel
theorem dX5_copy_62 : decode cX5_copy 62 = .ok (.iload 5, 2) := by decide +kernel
theorem dX5_copy_64 : decode cX5_copy 64 = .ok (.ifCond .lt 44, 3) := by decide +kernel
theorem dX5_copy_67 : decode cX5_copy 67 = .ok (.iload_n 2, 1) := by decide +kernel
theorem dX5_copy_68 : decode cX5_copy 68 = .ok (.i2l, 1) := by decide +kernel
theorem dX5_copy_69 : decode cX5_copy 69 = .ok (.lconst 0, 1) := by decide +kernel
theorem dX5_copy_70 : decode cX5_copy 70 = .ok (.aload_n 0, 1) := by decide +kernel
theorem dX5_copy_71 : decode cX5_copy 71 = .ok (.getfield 13, 3) := by decide +kernel
theorem dX5_copy_74 : decode cX5_copy 74 = .ok (.iload_n 1, 1) := by decide +kernel
theorem dX5_copy_75 : decode cX5_copy 75 = .ok (.iaload, 1) := by decide +kernel
theorem dX5_copy_76 : decode cX5_copy 76 = .ok (.i2l, 1) := by decide +kernel
theorem dX5_copy_77 : decode cX5_copy 77 = .ok (.iload 5, 2) := by decide +kernel
theorem dX5_copy_79 : decode cX5_copy 79 = .ok (.i2l, 1) := by decide +kernel
theorem dX5_copy_80 : decode cX5_copy 80 = .ok (.lsub, 1) := by decide +kernel
theorem dX5_copy_81 : decode cX5_copy 81 = .ok (.invokestatic 54, 3) := by decide +kernel
theorem dX5_copy_84 : decode cX5_copy 84 = .ok (.ifCond .eq 24, 3) := by decide +kernel
theorem dX5_copy_87 : decode cX5_copy 87 = .ok (.iload 4, 2) := by decide +kernel
theorem dX5_copy_89 : decode cX5_copy 89 = .ok (.i2l, 1) := by decide +kernel
theorem dX5_copy_90 : decode cX5_copy 90 = .ok (.lconst 0, 1) := by decide +kernel
theorem dX5_copy_91 : decode cX5_copy 91 = .ok (.aload_n 0, 1) := by decide +kernel
theorem dX5_copy_92 : decode cX5_copy 92 = .ok (.getfield 13, 3) := by decide +kernel
theorem dX5_copy_95 : decode cX5_copy 95 = .ok (.iload_n 3, 1) := by decide +kernel
theorem dX5_copy_96 : decode cX5_copy 96 = .ok (.iaload, 1) := by decide +kernel
theorem dX5_copy_97 : decode cX5_copy 97 = .ok (.i2l, 1) := by decide +kernel
theorem dX5_copy_98 : decode cX5_copy 98 = .ok (.iload 5, 2) := by decide +kernel
theorem dX5_copy_100 : decode cX5_copy 100 = .ok (.i2l, 1) := by decide +kernel
theorem dX5_copy_101 : decode cX5_copy 101 = .ok (.lsub, 1) := by decide +kernel
theorem dX5_copy_102 : decode cX5_copy 102 = .ok (.invokestatic 54, 3) := by decide +kernel
theorem dX5_copy_105 : decode cX5_copy 105 = .ok (.ifCond .ne 9, 3) := by decide +kernel
theorem dX5_copy_108 : decode cX5_copy 108 = .ok (.aload_n 0, 1) := by decide +kernel
theorem dX5_copy_109 : decode cX5_copy 109 = .ok (.iconst 2, 1) := by decide +kernel
theorem dX5_copy_110 : decode cX5_copy 110 = .ok (.invokevirtual 65, 3) := by decide +kernel
theorem dX5_copy_113 : decode cX5_copy 113 = .ok (.ireturn, 1) := by decide +kernel
theorem dX5_copy_114 : decode cX5_copy 114 = .ok (.iconst 0, 1) := by decide +kernel
theorem dX5_copy_115 : decode cX5_copy 115 = .ok (.istore 6, 2) := by decide +kernel
theorem dX5_copy_117 : decode cX5_copy 117 = .ok (.iload 6, 2) := by decide +kernel
theorem dX5_copy_119 : decode cX5_copy 119 = .ok (.iload 5, 2) := by decide +kernel
theorem dX5_copy_121 : decode cX5_copy 121 = .ok (.if_icmp .ge 30, 3) := by decide +kernel
theorem dX5_copy_124 : decode cX5_copy 124 = .ok (.aload_n 0, 1) := by decide +kernel
theorem dX5_copy_125 : decode cX5_copy 125 = .ok (.getfield 22, 3) := by decide +kernel
theorem dX5_copy_128 : decode cX5_copy 128 = .ok (.iload 6, 2) := by decide +kernel
theorem dX5_copy_130 : decode cX5_copy 130 = .ok (.aload_n 0, 1) := by decide +kernel
theorem dX5_copy_131 : decode cX5_copy 131 = .ok (.getfield 16, 3) := by decide +kernel
theorem dX5_copy_134 : decode cX5_copy 134 = .ok (.bipush 40, 2) := by decide +kernel
theorem dX5_copy_136 : decode cX5_copy 136 = .ok (.iload_n 1, 1) := by decide +kernel
theorem dX5_copy_137 : decode cX5_copy 137 = .ok (.imul, 1) := by decide +kernel
theorem dX5_copy_138 : decode cX5_copy 138 = .ok (.iload_n 2, 1) := by decide +kernel
theorem dX5_copy_139 : decode cX5_copy 139 = .ok (.iadd, 1) := by decide +kernel
theorem dX5_copy_140 : decode cX5_copy 140 = .ok (.iload 6, 2) := by decide +kernel
theorem dX5_copy_142 : decode cX5_copy 142 = .ok (.iadd, 1) := by decide +kernel
theorem dX5_copy_143 : decode cX5_copy 143 = .ok (.iaload, 1) := by decide +kernel
theorem dX5_copy_144 : decode cX5_copy 144 = .ok (.iastore, 1) := by decide +kernel
theorem dX5_copy_145 : decode cX5_copy 145 = .ok (.iinc 6 1, 3) := by decide +kernel
theorem dX5_copy_148 : decode cX5_copy 148 = .ok (.goto (-31), 3) := by decide +kernel
theorem dX5_copy_151 : decode cX5_copy 151 = .ok (.iconst 0, 1) := by decide +kernel
theorem dX5_copy_152 : decode cX5_copy 152 = .ok (.istore 6, 2) := by decide +kernel
theorem dX5_copy_154 : decode cX5_copy 154 = .ok (.iload 6, 2) := by decide +kernel
theorem dX5_copy_156 : decode cX5_copy 156 = .ok (.iload 5, 2) := by decide +kernel
theorem dX5_copy_158 : decode cX5_copy 158 = .ok (.if_icmp .ge 31, 3) := by decide +kernel
theorem dX5_copy_161 : decode cX5_copy 161 = .ok (.aload_n 0, 1) := by decide +kernel
theorem dX5_copy_162 : decode cX5_copy 162 = .ok (.getfield 16, 3) := by decide +kernel
theorem dX5_copy_165 : decode cX5_copy 165 = .ok (.bipush 40, 2) := by decide +kernel
theorem dX5_copy_167 : decode cX5_copy 167 = .ok (.iload_n 3, 1) := by decide +kernel
theorem dX5_copy_168 : decode cX5_copy 168 = .ok (.imul, 1) := by decide +kernel
theorem dX5_copy_169 : decode cX5_copy 169 = .ok (.iload 4, 2) := by decide +kernel
theorem dX5_copy_171 : decode cX5_copy 171 = .ok (.iadd, 1) := by decide +kernel
theorem dX5_copy_172 : decode cX5_copy 172 = .ok (.iload 6, 2) := by decide +kernel
theorem dX5_copy_174 : decode cX5_copy 174 = .ok (.iadd, 1) := by decide +kernel
theorem dX5_copy_175 : decode cX5_copy 175 = .ok (.aload_n 0, 1) := by decide +kernel
theorem dX5_copy_176 : decode cX5_copy 176 = .ok (.getfield 22, 3) := by decide +kernel
theorem dX5_copy_179 : decode cX5_copy 179 = .ok (.iload 6, 2) := by decide +kernel
theorem dX5_copy_181 : decode cX5_copy 181 = .ok (.iaload, 1) := by decide +kernel
theorem dX5_copy_182 : decode cX5_copy 182 = .ok (.iastore, 1) := by decide +kernel
theorem dX5_copy_183 : decode cX5_copy 183 = .ok (.iinc 6 1, 3) := by decide +kernel
theorem dX5_copy_186 : decode cX5_copy 186 = .ok (.goto (-32), 3) := by decide +kernel
theorem dX5_copy_189 : decode cX5_copy 189 = .ok (.aload_n 0, 1) := by decide +kernel
theorem dX5_copy_190 : decode cX5_copy 190 = .ok (.iload 5, 2) := by decide +kernel
theorem dX5_copy_192 : decode cX5_copy 192 = .ok (.invokevirtual 69, 3) := by decide +kernel
theorem dX5_copy_195 : decode cX5_copy 195 = .ok (.ireturn, 1) := by decide +kernel
theorem dX5_drop_0 : decode cX5_drop 0 = .ok (.iload_n 1, 1) := by decide +kernel
theorem dX5_drop_1 : decode cX5_drop 1 = .ok (.invokestatic 58, 3) := by decide +kernel
theorem dX5_drop_4 : decode cX5_drop 4 = .ok (.ifCond .ne 6, 3) := by decide +kernel
theorem dX5_drop_7 : decode cX5_drop 7 = .ok (.ldc 64, 2) := by decide +kernel
theorem dX5_drop_9 : decode cX5_drop 9 = .ok (.ireturn, 1) := by decide +kernel
theorem dX5_drop_10 : decode cX5_drop 10 = .ok (.aload_n 0, 1) := by decide +kernel
theorem dX5_drop_11 : decode cX5_drop 11 = .ok (.getfield 13, 3) := by decide +kernel
theorem dX5_drop_14 : decode cX5_drop 14 = .ok (.iload_n 1, 1) := by decide +kernel
theorem dX5_drop_15 : decode cX5_drop 15 = .ok (.iaload, 1) := by decide +kernel
theorem dX5_drop_16 : decode cX5_drop 16 = .ok (.ifCond .ge 9, 3) := by decide +kernel
theorem dX5_drop_19 : decode cX5_drop 19 = .ok (.aload_n 0, 1) := by decide +kernel
theorem dX5_drop_20 : decode cX5_drop 20 = .ok (.iconst 1, 1) := by decide +kernel
theorem dX5_drop_21 : decode cX5_drop 21 = .ok (.invokevirtual 65, 3) := by decide +kernel
theorem dX5_drop_24 : decode cX5_drop 24 = .ok (.ireturn, 1) := by decide +kernel
theorem dX5_drop_25 : decode cX5_drop 25 = .ok (.aload_n 0, 1) := by decide +kernel
theorem dX5_drop_26 : decode cX5_drop 26 = .ok (.getfield 13, 3) := by decide +kernel
theorem dX5_drop_29 : decode cX5_drop 29 = .ok (.iload_n 1, 1) := by decide +kernel
theorem dX5_drop_30 : decode cX5_drop 30 = .ok (.iaload, 1) := by decide +kernel
theorem dX5_drop_31 : decode cX5_drop 31 = .ok (.istore_n 2, 1) := by decide +kernel
theorem dX5_drop_32 : decode cX5_drop 32 = .ok (.aload_n 0, 1) := by decide +kernel
theorem dX5_drop_33 : decode cX5_drop 33 = .ok (.getfield 13, 3) := by decide +kernel
theorem dX5_drop_36 : decode cX5_drop 36 = .ok (.iload_n 1, 1) := by decide +kernel
theorem dX5_drop_37 : decode cX5_drop 37 = .ok (.iconst (-1), 1) := by decide +kernel
theorem dX5_drop_38 : decode cX5_drop 38 = .ok (.iastore, 1) := by decide +kernel
theorem dX5_drop_39 : decode cX5_drop 39 = .ok (.aload_n 0, 1) := by decide +kernel
theorem dX5_drop_40 : decode cX5_drop 40 = .ok (.iload_n 2, 1) := by decide +kernel
theorem dX5_drop_41 : decode cX5_drop 41 = .ok (.invokevirtual 69, 3) := by decide +kernel
theorem dX5_drop_44 : decode cX5_drop 44 = .ok (.ireturn, 1) := by decide +kernel
theorem dX5_feed_0 : decode cX5_feed 0 = .ok (.iload_n 1, 1) := by decide +kernel
theorem dX5_feed_1 : decode cX5_feed 1 = .ok (.i2l, 1) := by decide +kernel
theorem dX5_feed_2 : decode cX5_feed 2 = .ok (.lconst 0, 1) := by decide +kernel
theorem dX5_feed_3 : decode cX5_feed 3 = .ok (.ldc2_w 76, 3) := by decide +kernel
theorem dX5_feed_6 : decode cX5_feed 6 = .ok (.invokestatic 54, 3) := by decide +kernel
theorem dX5_feed_9 : decode cX5_feed 9 = .ok (.ifCond .ne 6, 3) := by decide +kernel
theorem dX5_feed_12 : decode cX5_feed 12 = .ok (.ldc 64, 2) := by decide +kernel
theorem dX5_feed_14 : decode cX5_feed 14 = .ok (.ireturn, 1) := by decide +kernel
theorem dX5_feed_15 : decode cX5_feed 15 = .ok (.aload_n 0, 1) := by decide +kernel
theorem dX5_feed_16 : decode cX5_feed 16 = .ok (.getfield 78, 3) := by decide +kernel
theorem dX5_feed_19 : decode cX5_feed 19 = .ok (.bipush 120, 2) := by decide +kernel
theorem dX5_feed_21 : decode cX5_feed 21 = .ok (.if_icmp .ne 6, 3) := by decide +kernel
theorem dX5_feed_24 : decode cX5_feed 24 = .ok (.ldc 81, 2) := by decide +kernel
theorem dX5_feed_26 : decode cX5_feed 26 = .ok (.ireturn, 1) := by decide +kernel
theorem dX5_feed_27 : decode cX5_feed 27 = .ok (.aload_n 0, 1) := by decide +kernel
theorem dX5_feed_28 : decode cX5_feed 28 = .ok (.getfield 25, 3) := by decide +kernel
theorem dX5_feed_31 : decode cX5_feed 31 = .ok (.aload_n 0, 1) := by decide +kernel
theorem dX5_feed_32 : decode cX5_feed 32 = .ok (.getfield 78, 3) := by decide +kernel
theorem dX5_feed_35 : decode cX5_feed 35 = .ok (.iload_n 1, 1) := by decide +kernel
theorem dX5_feed_36 : decode cX5_feed 36 = .ok (.iastore, 1) := by decide +kernel
theorem dX5_feed_37 : decode cX5_feed 37 = .ok (.aload_n 0, 1) := by decide +kernel
theorem dX5_feed_38 : decode cX5_feed 38 = .ok (.dup, 1) := by decide +kernel
theorem dX5_feed_39 : decode cX5_feed 39 = .ok (.getfield 78, 3) := by decide +kernel
theorem dX5_feed_42 : decode cX5_feed 42 = .ok (.iconst 1, 1) := by decide +kernel
theorem dX5_feed_43 : decode cX5_feed 43 = .ok (.iadd, 1) := by decide +kernel
theorem dX5_feed_44 : decode cX5_feed 44 = .ok (.putfield 78, 3) := by decide +kernel
theorem dX5_feed_47 : decode cX5_feed 47 = .ok (.aload_n 0, 1) := by decide +kernel
theorem dX5_feed_48 : decode cX5_feed 48 = .ok (.getfield 78, 3) := by decide +kernel
theorem dX5_feed_51 : decode cX5_feed 51 = .ok (.ireturn, 1) := by decide +kernel
theorem dX5_nextToken_0 : decode cX5_nextToken 0 = .ok (.aload_n 0, 1) := by decide +kernel
theorem dX5_nextToken_1 : decode cX5_nextToken 1 = .ok (.aload_n 0, 1) := by decide +kernel
theorem dX5_nextToken_2 : decode cX5_nextToken 2 = .ok (.getfield 82, 3) := by decide +kernel
theorem dX5_nextToken_5 : decode cX5_nextToken 5 = .ok (.putfield 85, 3) := by decide +kernel
theorem dX5_nextToken_8 : decode cX5_nextToken 8 = .ok (.aload_n 0, 1) := by decide +kernel
theorem dX5_nextToken_9 : decode cX5_nextToken 9 = .ok (.aload_n 0, 1) := by decide +kernel
theorem dX5_nextToken_10 : decode cX5_nextToken 10 = .ok (.getfield 82, 3) := by decide +kernel
theorem dX5_nextToken_13 : decode cX5_nextToken 13 = .ok (.aload_n 0, 1) := by decide +kernel
theorem dX5_nextToken_14 : decode cX5_nextToken 14 = .ok (.getfield 78, 3) := by decide +kernel
theorem dX5_nextToken_17 : decode cX5_nextToken 17 = .ok (.if_icmp .ne 7, 3) := by decide +kernel
theorem dX5_nextToken_20 : decode cX5_nextToken 20 = .ok (.iconst 3, 1) := by decide +kernel
theorem dX5_nextToken_21 : decode cX5_nextToken 21 = .ok (.goto 4, 3) := by decide +kernel
theorem dX5_nextToken_24 : decode cX5_nextToken 24 = .ok (.iconst 0, 1) := by decide +kernel
theorem dX5_nextToken_25 : decode cX5_nextToken 25 = .ok (.putfield 88, 3) := by decide +kernel
theorem dX5_nextToken_28 : decode cX5_nextToken 28 = .ok (.aload_n 0, 1) := by decide +kernel
theorem dX5_nextToken_29 : decode cX5_nextToken 29 = .ok (.iconst 0, 1) := by decide +kernel
theorem dX5_nextToken_30 : decode cX5_nextToken 30 = .ok (.putfield 91, 3) := by decide +kernel
theorem dX5_nextToken_33 : decode cX5_nextToken 33 = .ok (.aload_n 0, 1) := by decide +kernel
theorem dX5_nextToken_34 : decode cX5_nextToken 34 = .ok (.getfield 82, 3) := by decide +kernel
theorem dX5_nextToken_37 : decode cX5_nextToken 37 = .ok (.aload_n 0, 1) := by decide +kernel
theorem dX5_nextToken_38 : decode cX5_nextToken 38 = .ok (.getfield 78, 3) := by decide +kernel
theorem dX5_nextToken_41 : decode cX5_nextToken 41 = .ok (.if_icmp .ge 78, 3) := by decide +kernel
theorem dX5_nextToken_44 : decode cX5_nextToken 44 = .ok (.aload_n 0, 1) := by decide +kernel
theorem dX5_nextToken_45 : decode cX5_nextToken 45 = .ok (.getfield 25, 3) := by decide +kernel
theorem dX5_nextToken_48 : decode cX5_nextToken 48 = .ok (.aload_n 0, 1) := by decide +kernel
theorem dX5_nextToken_49 : decode cX5_nextToken 49 = .ok (.getfield 82, 3) := by decide +kernel
theorem dX5_nextToken_52 : decode cX5_nextToken 52 = .ok (.iaload, 1) := by decide +kernel
theorem dX5_nextToken_53 : decode cX5_nextToken 53 = .ok (.i2l, 1) := by decide +kernel
theorem dX5_nextToken_54 : decode cX5_nextToken 54 = .ok (.ldc2_w 94, 3) := by decide +kernel
theorem dX5_nextToken_57 : decode cX5_nextToken 57 = .ok (.ldc2_w 96, 3) := by decide +kernel
theorem dX5_nextToken_60 : decode cX5_nextToken 60 = .ok (.invokestatic 54, 3) := by decide +kernel
theorem dX5_nextToken_63 : decode cX5_nextToken 63 = .ok (.ifCond .eq 56, 3) := by decide +kernel
theorem dX5_nextToken_66 : decode cX5_nextToken 66 = .ok (.aload_n 0, 1) := by decide +kernel
theorem dX5_nextToken_67 : decode cX5_nextToken 67 = .ok (.aload_n 0, 1) := by decide +kernel
theorem dX5_nextToken_68 : decode cX5_nextToken 68 = .ok (.getfield 91, 3) := by decide +kernel
theorem dX5_nextToken_71 : decode cX5_nextToken 71 = .ok (.bipush 99, 2) := by decide +kernel
theorem dX5_nextToken_73 : decode cX5_nextToken 73 = .ok (.if_icmp .le 10, 3) := by decide +kernel
theorem dX5_nextToken_76 : decode cX5_nextToken 76 = .ok (.aload_n 0, 1) := by decide +kernel
theorem dX5_nextToken_77 : decode cX5_nextToken 77 = .ok (.getfield 91, 3) := by decide +kernel
theorem dX5_nextToken_80 : decode cX5_nextToken 80 = .ok (.goto 23, 3) := by decide +kernel
theorem dX5_nextToken_83 : decode cX5_nextToken 83 = .ok (.bipush 10, 2) := by decide +kernel
theorem dX5_nextToken_85 : decode cX5_nextToken 85 = .ok (.aload_n 0, 1) := by decide +kernel
theorem dX5_nextToken_86 : decode cX5_nextToken 86 = .ok (.getfield 91, 3) := by decide +kernel
theorem dX5_nextToken_89 : decode cX5_nextToken 89 = .ok (.imul, 1) := by decide +kernel
theorem dX5_nextToken_90 : decode cX5_nextToken 90 = .ok (.aload_n 0, 1) := by decide +kernel
theorem dX5_nextToken_91 : decode cX5_nextToken 91 = .ok (.getfield 25, 3) := by decide +kernel
theorem dX5_nextToken_94 : decode cX5_nextToken 94 = .ok (.aload_n 0, 1) := by decide +kernel
theorem dX5_nextToken_95 : decode cX5_nextToken 95 = .ok (.getfield 82, 3) := by decide +kernel
theorem dX5_nextToken_98 : decode cX5_nextToken 98 = .ok (.iaload, 1) := by decide +kernel
theorem dX5_nextToken_99 : decode cX5_nextToken 99 = .ok (.iadd, 1) := by decide +kernel
theorem dX5_nextToken_100 : decode cX5_nextToken 100 = .ok (.bipush 48, 2) := by decide +kernel
theorem dX5_nextToken_102 : decode cX5_nextToken 102 = .ok (.isub, 1) := by decide +kernel
theorem dX5_nextToken_103 : decode cX5_nextToken 103 = .ok (.putfield 91, 3) := by decide +kernel
theorem dX5_nextToken_106 : decode cX5_nextToken 106 = .ok (.aload_n 0, 1) := by decide +kernel
theorem dX5_nextToken_107 : decode cX5_nextToken 107 = .ok (.dup, 1) := by decide +kernel
theorem dX5_nextToken_108 : decode cX5_nextToken 108 = .ok (.getfield 82, 3) := by decide +kernel
theorem dX5_nextToken_111 : decode cX5_nextToken 111 = .ok (.iconst 1, 1) := by decide +kernel
theorem dX5_nextToken_112 : decode cX5_nextToken 112 = .ok (.iadd, 1) := by decide +kernel
theorem dX5_nextToken_113 : decode cX5_nextToken 113 = .ok (.putfield 82, 3) := by decide +kernel
theorem dX5_nextToken_116 : decode cX5_nextToken 116 = .ok (.goto (-83), 3) := by decide +kernel
theorem dX5_nextToken_119 : decode cX5_nextToken 119 = .ok (.aload_n 0, 1) := by decide +kernel
theorem dX5_nextToken_120 : decode cX5_nextToken 120 = .ok (.getfield 82, 3) := by decide +kernel
theorem dX5_nextToken_123 : decode cX5_nextToken 123 = .ok (.aload_n 0, 1) := by decide +kernel
theorem dX5_nextToken_124 : decode cX5_nextToken 124 = .ok (.getfield 85, 3) := by decide +kernel
theorem dX5_nextToken_127 : decode cX5_nextToken 127 = .ok (.if_icmp .le 28, 3) := by decide +kernel
theorem dX5_nextToken_130 : decode cX5_nextToken 130 = .ok (.aload_n 0, 1) := by decide +kernel
theorem dX5_nextToken_131 : decode cX5_nextToken 131 = .ok (.aload_n 0, 1) := by decide +kernel
theorem dX5_nextToken_132 : decode cX5_nextToken 132 = .ok (.getfield 82, 3) := by decide +kernel
theorem dX5_nextToken_135 : decode cX5_nextToken 135 = .ok (.aload_n 0, 1) := by decide +kernel
theorem dX5_nextToken_136 : decode cX5_nextToken 136 = .ok (.getfield 85, 3) := by decide +kernel
theorem dX5_nextToken_139 : decode cX5_nextToken 139 = .ok (.isub, 1) := by decide +kernel
theorem dX5_nextToken_140 : decode cX5_nextToken 140 = .ok (.iconst 2, 1) := by decide +kernel
theorem dX5_nextToken_141 : decode cX5_nextToken 141 = .ok (.if_icmp .le 7, 3) := by decide +kernel
theorem dX5_nextToken_144 : decode cX5_nextToken 144 = .ok (.iconst 0, 1) := by decide +kernel
theorem dX5_nextToken_145 : decode cX5_nextToken 145 = .ok (.goto 4, 3) := by decide +kernel
theorem dX5_nextToken_148 : decode cX5_nextToken 148 = .ok (.iconst 2, 1) := by decide +kernel
theorem dX5_nextToken_149 : decode cX5_nextToken 149 = .ok (.putfield 88, 3) := by decide +kernel
theorem dX5_nextToken_152 : decode cX5_nextToken 152 = .ok (.goto 77, 3) := by decide +kernel
theorem dX5_nextToken_155 : decode cX5_nextToken 155 = .ok (.aload_n 0, 1) := by decide +kernel
theorem dX5_nextToken_156 : decode cX5_nextToken 156 = .ok (.getfield 88, 3) := by decide +kernel
theorem dX5_nextToken_159 : decode cX5_nextToken 159 = .ok (.ifCond .ne 70, 3) := by decide +kernel
theorem dX5_nextToken_162 : decode cX5_nextToken 162 = .ok (.aload_n 0, 1) := by decide +kernel
theorem dX5_nextToken_163 : decode cX5_nextToken 163 = .ok (.aload_n 0, 1) := by decide +kernel
theorem dX5_nextToken_164 : decode cX5_nextToken 164 = .ok (.getfield 25, 3) := by decide +kernel
theorem dX5_nextToken_167 : decode cX5_nextToken 167 = .ok (.aload_n 0, 1) := by decide +kernel
theorem dX5_nextToken_168 : decode cX5_nextToken 168 = .ok (.getfield 82, 3) := by decide +kernel
theorem dX5_nextToken_171 : decode cX5_nextToken 171 = .ok (.iaload, 1) := by decide +kernel
theorem dX5_nextToken_172 : decode cX5_nextToken 172 = .ok (.putfield 91, 3) := by decide +kernel
theorem dX5_nextToken_175 : decode cX5_nextToken 175 = .ok (.aload_n 0, 1) := by decide +kernel
theorem dX5_nextToken_176 : decode cX5_nextToken 176 = .ok (.aload_n 0, 1) := by decide +kernel
theorem dX5_nextToken_177 : decode cX5_nextToken 177 = .ok (.getfield 91, 3) := by decide +kernel
theorem dX5_nextToken_180 : decode cX5_nextToken 180 = .ok (.i2l, 1) := by decide +kernel
theorem dX5_nextToken_181 : decode cX5_nextToken 181 = .ok (.ldc2_w 98, 3) := by decide +kernel
theorem dX5_nextToken_184 : decode cX5_nextToken 184 = .ok (.ldc2_w 100, 3) := by decide +kernel
theorem dX5_nextToken_187 : decode cX5_nextToken 187 = .ok (.invokestatic 54, 3) := by decide +kernel
theorem dX5_nextToken_190 : decode cX5_nextToken 190 = .ok (.ifCond .ne 21, 3) := by decide +kernel
theorem dX5_nextToken_193 : decode cX5_nextToken 193 = .ok (.aload_n 0, 1) := by decide +kernel
theorem dX5_nextToken_194 : decode cX5_nextToken 194 = .ok (.getfield 91, 3) := by decide +kernel
theorem dX5_nextToken_197 : decode cX5_nextToken 197 = .ok (.bipush 44, 2) := by decide +kernel
theorem dX5_nextToken_199 : decode cX5_nextToken 199 = .ok (.if_icmp .eq 12, 3) := by decide +kernel
theorem dX5_nextToken_202 : decode cX5_nextToken 202 = .ok (.aload_n 0, 1) := by decide +kernel
theorem dX5_nextToken_203 : decode cX5_nextToken 203 = .ok (.getfield 91, 3) := by decide +kernel
theorem dX5_nextToken_206 : decode cX5_nextToken 206 = .ok (.bipush 59, 2) := by decide +kernel
theorem dX5_nextToken_208 : decode cX5_nextToken 208 = .ok (.if_icmp .ne 7, 3) := by decide +kernel
theorem dX5_nextToken_211 : decode cX5_nextToken 211 = .ok (.iconst 1, 1) := by decide +kernel
theorem dX5_nextToken_212 : decode cX5_nextToken 212 = .ok (.goto 4, 3) := by decide +kernel
theorem dX5_nextToken_215 : decode cX5_nextToken 215 = .ok (.iconst 0, 1) := by decide +kernel
theorem dX5_nextToken_216 : decode cX5_nextToken 216 = .ok (.putfield 88, 3) := by decide +kernel
theorem dX5_nextToken_219 : decode cX5_nextToken 219 = .ok (.aload_n 0, 1) := by decide +kernel
theorem dX5_nextToken_220 : decode cX5_nextToken 220 = .ok (.dup, 1) := by decide +kernel
theorem dX5_nextToken_221 : decode cX5_nextToken 221 = .ok (.getfield 82, 3) := by decide +kernel
theorem dX5_nextToken_224 : decode cX5_nextToken 224 = .ok (.iconst 1, 1) := by decide +kernel
theorem dX5_nextToken_225 : decode cX5_nextToken 225 = .ok (.iadd, 1) := by decide +kernel
theorem dX5_nextToken_226 : decode cX5_nextToken 226 = .ok (.putfield 82, 3) := by decide +kernel
theorem dX5_nextToken_229 : decode cX5_nextToken 229 = .ok (.return_, 1) := by decide +kernel
theorem dX5_faults_0 : decode cX5_faults 0 = .ok (.aload_n 0, 1) := by decide +kernel
theorem dX5_faults_1 : decode cX5_faults 1 = .ok (.iload_n 1, 1) := by decide +kernel
theorem dX5_faults_2 : decode cX5_faults 2 = .ok (.putfield 102, 3) := by decide +kernel
theorem dX5_faults_5 : decode cX5_faults 5 = .ok (.iconst 0, 1) := by decide +kernel
theorem dX5_faults_6 : decode cX5_faults 6 = .ok (.ireturn, 1) := by decide +kernel
theorem dX5_isLetter_0 : decode cX5_isLetter 0 = .ok (.aload_n 0, 1) := by decide +kernel
theorem dX5_isLetter_1 : decode cX5_isLetter 1 = .ok (.getfield 88, 3) := by decide +kernel
theorem dX5_isLetter_4 : decode cX5_isLetter 4 = .ok (.iconst 1, 1) := by decide +kernel
theorem dX5_isLetter_5 : decode cX5_isLetter 5 = .ok (.if_icmp .ne 15, 3) := by decide +kernel
theorem dX5_isLetter_8 : decode cX5_isLetter 8 = .ok (.aload_n 0, 1) := by decide +kernel
theorem dX5_isLetter_9 : decode cX5_isLetter 9 = .ok (.getfield 91, 3) := by decide +kernel
theorem dX5_isLetter_12 : decode cX5_isLetter 12 = .ok (.iload_n 1, 1) := by decide +kernel
theorem dX5_isLetter_13 : decode cX5_isLetter 13 = .ok (.if_icmp .ne 7, 3) := by decide +kernel
theorem dX5_isLetter_16 : decode cX5_isLetter 16 = .ok (.iconst 1, 1) := by decide +kernel
theorem dX5_isLetter_17 : decode cX5_isLetter 17 = .ok (.goto 4, 3) := by decide +kernel
theorem dX5_isLetter_20 : decode cX5_isLetter 20 = .ok (.iconst 0, 1) := by decide +kernel
theorem dX5_isLetter_21 : decode cX5_isLetter 21 = .ok (.ireturn, 1) := by decide +kernel
theorem dX5_takes_0 : decode cX5_takes 0 = .ok (.aload_n 0, 1) := by decide +kernel
theorem dX5_takes_1 : decode cX5_takes 1 = .ok (.iload_n 1, 1) := by decide +kernel
theorem dX5_takes_2 : decode cX5_takes 2 = .ok (.invokevirtual 105, 3) := by decide +kernel
theorem dX5_takes_5 : decode cX5_takes 5 = .ok (.ifCond .ne 9, 3) := by decide +kernel
theorem dX5_takes_8 : decode cX5_takes 8 = .ok (.aload_n 0, 1) := by decide +kernel
theorem dX5_takes_9 : decode cX5_takes 9 = .ok (.iconst 1, 1) := by decide +kernel
theorem dX5_takes_10 : decode cX5_takes 10 = .ok (.invokevirtual 108, 3) := by decide +kernel
theorem dX5_takes_13 : decode cX5_takes 13 = .ok (.ireturn, 1) := by decide +kernel
theorem dX5_takes_14 : decode cX5_takes 14 = .ok (.aload_n 0, 1) := by decide +kernel
theorem dX5_takes_15 : decode cX5_takes 15 = .ok (.invokevirtual 111, 3) := by decide +kernel
theorem dX5_takes_18 : decode cX5_takes 18 = .ok (.iconst 1, 1) := by decide +kernel
theorem dX5_takes_19 : decode cX5_takes 19 = .ok (.ireturn, 1) := by decide +kernel
theorem dX5_takesNumber_0 : decode cX5_takesNumber 0 = .ok (.aload_n 0, 1) := by decide +kernel
theorem dX5_takesNumber_1 : decode cX5_takesNumber 1 = .ok (.getfield 88, 3) := by decide +kernel
theorem dX5_takesNumber_4 : decode cX5_takesNumber 4 = .ok (.iconst 2, 1) := by decide +kernel
theorem dX5_takesNumber_5 : decode cX5_takesNumber 5 = .ok (.if_icmp .ne 18, 3) := by decide +kernel
theorem dX5_takesNumber_8 : decode cX5_takesNumber 8 = .ok (.aload_n 0, 1) := by decide +kernel
theorem dX5_takesNumber_9 : decode cX5_takesNumber 9 = .ok (.getfield 91, 3) := by decide +kernel
theorem dX5_takesNumber_12 : decode cX5_takesNumber 12 = .ok (.i2l, 1) := by decide +kernel
theorem dX5_takesNumber_13 : decode cX5_takesNumber 13 = .ok (.iload_n 1, 1) := by decide +kernel
theorem dX5_takesNumber_14 : decode cX5_takesNumber 14 = .ok (.i2l, 1) := by decide +kernel
theorem dX5_takesNumber_15 : decode cX5_takesNumber 15 = .ok (.iload_n 2, 1) := by decide +kernel
theorem dX5_takesNumber_16 : decode cX5_takesNumber 16 = .ok (.i2l, 1) := by decide +kernel
theorem dX5_takesNumber_17 : decode cX5_takesNumber 17 = .ok (.invokestatic 54, 3) := by decide +kernel
theorem dX5_takesNumber_20 : decode cX5_takesNumber 20 = .ok (.ifCond .ne 21, 3) := by decide +kernel
theorem dX5_takesNumber_23 : decode cX5_takesNumber 23 = .ok (.aload_n 0, 1) := by decide +kernel
theorem dX5_takesNumber_24 : decode cX5_takesNumber 24 = .ok (.aload_n 0, 1) := by decide +kernel
theorem dX5_takesNumber_25 : decode cX5_takesNumber 25 = .ok (.getfield 88, 3) := by decide +kernel
theorem dX5_takesNumber_28 : decode cX5_takesNumber 28 = .ok (.iconst 2, 1) := by decide +kernel
theorem dX5_takesNumber_29 : decode cX5_takesNumber 29 = .ok (.if_icmp .ne 7, 3) := by decide +kernel
theorem dX5_takesNumber_32 : decode cX5_takesNumber 32 = .ok (.iconst 2, 1) := by decide +kernel
theorem dX5_takesNumber_33 : decode cX5_takesNumber 33 = .ok (.goto 4, 3) := by decide +kernel
theorem dX5_takesNumber_36 : decode cX5_takesNumber 36 = .ok (.iconst 1, 1) := by decide +kernel
theorem dX5_takesNumber_37 : decode cX5_takesNumber 37 = .ok (.invokevirtual 108, 3) := by decide +kernel
theorem dX5_takesNumber_40 : decode cX5_takesNumber 40 = .ok (.ireturn, 1) := by decide +kernel
theorem dX5_takesNumber_41 : decode cX5_takesNumber 41 = .ok (.aload_n 0, 1) := by decide +kernel
theorem dX5_takesNumber_42 : decode cX5_takesNumber 42 = .ok (.getfield 28, 3) := by decide +kernel
theorem dX5_takesNumber_45 : decode cX5_takesNumber 45 = .ok (.iload_n 3, 1) := by decide +kernel
theorem dX5_takesNumber_46 : decode cX5_takesNumber 46 = .ok (.aload_n 0, 1) := by decide +kernel
theorem dX5_takesNumber_47 : decode cX5_takesNumber 47 = .ok (.getfield 91, 3) := by decide +kernel
theorem dX5_takesNumber_50 : decode cX5_takesNumber 50 = .ok (.iastore, 1) := by decide +kernel
theorem dX5_takesNumber_51 : decode cX5_takesNumber 51 = .ok (.aload_n 0, 1) := by decide +kernel
theorem dX5_takesNumber_52 : decode cX5_takesNumber 52 = .ok (.invokevirtual 111, 3) := by decide +kernel
theorem dX5_takesNumber_55 : decode cX5_takesNumber 55 = .ok (.aload_n 0, 1) := by decide +kernel
theorem dX5_takesNumber_56 : decode cX5_takesNumber 56 = .ok (.iload 4, 2) := by decide +kernel
theorem dX5_takesNumber_58 : decode cX5_takesNumber 58 = .ok (.invokevirtual 114, 3) := by decide +kernel
theorem dX5_takesNumber_61 : decode cX5_takesNumber 61 = .ok (.ireturn, 1) := by decide +kernel
theorem dX5_readMan_0 : decode cX5_readMan 0 = .ok (.aload_n 0, 1) := by decide +kernel
theorem dX5_readMan_1 : decode cX5_readMan 1 = .ok (.getfield 28, 3) := by decide +kernel
theorem dX5_readMan_4 : decode cX5_readMan 4 = .ok (.iconst 2, 1) := by decide +kernel
theorem dX5_readMan_5 : decode cX5_readMan 5 = .ok (.iaload, 1) := by decide +kernel
theorem dX5_readMan_6 : decode cX5_readMan 6 = .ok (.istore_n 1, 1) := by decide +kernel
theorem dX5_readMan_7 : decode cX5_readMan 7 = .ok (.iload_n 1, 1) := by decide +kernel
theorem dX5_readMan_8 : decode cX5_readMan 8 = .ok (.iconst 5, 1) := by decide +kernel
theorem dX5_readMan_9 : decode cX5_readMan 9 = .ok (.if_icmp .eq 12, 3) := by decide +kernel
theorem dX5_readMan_12 : decode cX5_readMan 12 = .ok (.aload_n 0, 1) := by decide +kernel
theorem dX5_readMan_13 : decode cX5_readMan 13 = .ok (.getfield 28, 3) := by decide +kernel
theorem dX5_readMan_16 : decode cX5_readMan 16 = .ok (.iconst 3, 1) := by decide +kernel
theorem dX5_readMan_17 : decode cX5_readMan 17 = .ok (.iaload, 1) := by decide +kernel
theorem dX5_readMan_18 : decode cX5_readMan 18 = .ok (.ifCond .le 22, 3) := by decide +kernel
theorem dX5_readMan_21 : decode cX5_readMan 21 = .ok (.aload_n 0, 1) := by decide +kernel
theorem dX5_readMan_22 : decode cX5_readMan 22 = .ok (.aload_n 0, 1) := by decide +kernel
theorem dX5_readMan_23 : decode cX5_readMan 23 = .ok (.getfield 28, 3) := by decide +kernel
theorem dX5_readMan_26 : decode cX5_readMan 26 = .ok (.iconst 3, 1) := by decide +kernel
theorem dX5_readMan_27 : decode cX5_readMan 27 = .ok (.iaload, 1) := by decide +kernel
theorem dX5_readMan_28 : decode cX5_readMan 28 = .ok (.ifCond .le 7, 3) := by decide +kernel
theorem dX5_readMan_31 : decode cX5_readMan 31 = .ok (.iconst 1, 1) := by decide +kernel
theorem dX5_readMan_32 : decode cX5_readMan 32 = .ok (.goto 4, 3) := by decide +kernel
theorem dX5_readMan_35 : decode cX5_readMan 35 = .ok (.iconst 3, 1) := by decide +kernel
theorem dX5_readMan_36 : decode cX5_readMan 36 = .ok (.invokevirtual 108, 3) := by decide +kernel
theorem dX5_readMan_39 : decode cX5_readMan 39 = .ok (.ireturn, 1) := by decide +kernel
theorem dX5_readMan_40 : decode cX5_readMan 40 = .ok (.aload_n 0, 1) := by decide +kernel
theorem dX5_readMan_41 : decode cX5_readMan 41 = .ok (.invokevirtual 111, 3) := by decide +kernel
theorem dX5_readMan_44 : decode cX5_readMan 44 = .ok (.aload_n 0, 1) := by decide +kernel
theorem dX5_readMan_45 : decode cX5_readMan 45 = .ok (.getfield 28, 3) := by decide +kernel
theorem dX5_readMan_48 : decode cX5_readMan 48 = .ok (.iconst 2, 1) := by decide +kernel
theorem dX5_readMan_49 : decode cX5_readMan 49 = .ok (.dup2, 1) := by decide +kernel
theorem dX5_readMan_50 : decode cX5_readMan 50 = .ok (.iaload, 1) := by decide +kernel
theorem dX5_readMan_51 : decode cX5_readMan 51 = .ok (.iconst 1, 1) := by decide +kernel
theorem dX5_readMan_52 : decode cX5_readMan 52 = .ok (.iadd, 1) := by decide +kernel
theorem dX5_readMan_53 : decode cX5_readMan 53 = .ok (.iastore, 1) := by decide +kernel
theorem dX5_readMan_54 : decode cX5_readMan 54 = .ok (.aload_n 0, 1) := by decide +kernel
theorem dX5_readMan_55 : decode cX5_readMan 55 = .ok (.iconst 0, 1) := by decide +kernel
theorem dX5_readMan_56 : decode cX5_readMan 56 = .ok (.bipush 60, 2) := by decide +kernel
theorem dX5_readMan_58 : decode cX5_readMan 58 = .ok (.bipush 6, 2) := by decide +kernel
theorem dX5_readMan_60 : decode cX5_readMan 60 = .ok (.iload_n 1, 1) := by decide +kernel
theorem dX5_readMan_61 : decode cX5_readMan 61 = .ok (.iadd, 1) := by decide +kernel
theorem dX5_readMan_62 : decode cX5_readMan 62 = .ok (.bipush 44, 2) := by decide +kernel
theorem dX5_readMan_64 : decode cX5_readMan 64 = .ok (.invokevirtual 117, 3) := by decide +kernel
theorem dX5_readMan_67 : decode cX5_readMan 67 = .ok (.ifCond .eq 23, 3) := by decide +kernel
theorem dX5_readMan_70 : decode cX5_readMan 70 = .ok (.aload_n 0, 1) := by decide +kernel
theorem dX5_readMan_71 : decode cX5_readMan 71 = .ok (.iconst 0, 1) := by decide +kernel
theorem dX5_readMan_72 : decode cX5_readMan 72 = .ok (.bipush 9, 2) := by decide +kernel
theorem dX5_readMan_74 : decode cX5_readMan 74 = .ok (.bipush 11, 2) := by decide +kernel
theorem dX5_readMan_76 : decode cX5_readMan 76 = .ok (.iload_n 1, 1) := by decide +kernel
theorem dX5_readMan_77 : decode cX5_readMan 77 = .ok (.iadd, 1) := by decide +kernel
theorem dX5_readMan_78 : decode cX5_readMan 78 = .ok (.bipush 59, 2) := by decide +kernel
theorem dX5_readMan_80 : decode cX5_readMan 80 = .ok (.invokevirtual 117, 3) := by decide +kernel
theorem dX5_readMan_83 : decode cX5_readMan 83 = .ok (.ifCond .eq 7, 3) := by decide +kernel
theorem dX5_readMan_86 : decode cX5_readMan 86 = .ok (.iconst 1, 1) := by decide +kernel
theorem dX5_readMan_87 : decode cX5_readMan 87 = .ok (.goto 4, 3) := by decide +kernel
theorem dX5_readMan_90 : decode cX5_readMan 90 = .ok (.iconst 0, 1) := by decide +kernel
theorem dX5_readMan_91 : decode cX5_readMan 91 = .ok (.ireturn, 1) := by decide +kernel
theorem dX5_readLeaver_0 : decode cX5_readLeaver 0 = .ok (.aload_n 0, 1) := by decide +kernel
theorem dX5_readLeaver_1 : decode cX5_readLeaver 1 = .ok (.getfield 28, 3) := by decide +kernel
theorem dX5_readLeaver_4 : decode cX5_readLeaver 4 = .ok (.iconst 3, 1) := by decide +kernel
theorem dX5_readLeaver_5 : decode cX5_readLeaver 5 = .ok (.iaload, 1) := by decide +kernel
theorem dX5_readLeaver_6 : decode cX5_readLeaver 6 = .ok (.istore_n 2, 1) := by decide +kernel
theorem dX5_readLeaver_7 : decode cX5_readLeaver 7 = .ok (.iload_n 2, 1) := by decide +kernel
theorem dX5_readLeaver_8 : decode cX5_readLeaver 8 = .ok (.bipush 6, 2) := by decide +kernel
theorem dX5_readLeaver_10 : decode cX5_readLeaver 10 = .ok (.if_icmp .eq 12, 3) := by decide +kernel
theorem dX5_readLeaver_13 : decode cX5_readLeaver 13 = .ok (.aload_n 0, 1) := by decide +kernel
theorem dX5_readLeaver_14 : decode cX5_readLeaver 14 = .ok (.getfield 28, 3) := by decide +kernel
theorem dX5_readLeaver_17 : decode cX5_readLeaver 17 = .ok (.iconst 2, 1) := by decide +kernel
theorem dX5_readLeaver_18 : decode cX5_readLeaver 18 = .ok (.iaload, 1) := by decide +kernel
theorem dX5_readLeaver_19 : decode cX5_readLeaver 19 = .ok (.ifCond .ne 22, 3) := by decide +kernel
theorem dX5_readLeaver_22 : decode cX5_readLeaver 22 = .ok (.aload_n 0, 1) := by decide +kernel
theorem dX5_readLeaver_23 : decode cX5_readLeaver 23 = .ok (.aload_n 0, 1) := by decide +kernel
theorem dX5_readLeaver_24 : decode cX5_readLeaver 24 = .ok (.getfield 28, 3) := by decide +kernel
theorem dX5_readLeaver_27 : decode cX5_readLeaver 27 = .ok (.iconst 2, 1) := by decide +kernel
theorem dX5_readLeaver_28 : decode cX5_readLeaver 28 = .ok (.iaload, 1) := by decide +kernel
theorem dX5_readLeaver_29 : decode cX5_readLeaver 29 = .ok (.ifCond .ne 7, 3) := by decide +kernel
theorem dX5_readLeaver_32 : decode cX5_readLeaver 32 = .ok (.iconst 1, 1) := by decide +kernel
theorem dX5_readLeaver_33 : decode cX5_readLeaver 33 = .ok (.goto 4, 3) := by decide +kernel
theorem dX5_readLeaver_36 : decode cX5_readLeaver 36 = .ok (.iconst 3, 1) := by decide +kernel
theorem dX5_readLeaver_37 : decode cX5_readLeaver 37 = .ok (.invokevirtual 108, 3) := by decide +kernel
theorem dX5_readLeaver_40 : decode cX5_readLeaver 40 = .ok (.ireturn, 1) := by decide +kernel
theorem dX5_readLeaver_41 : decode cX5_readLeaver 41 = .ok (.aload_n 0, 1) := by decide +kernel
theorem dX5_readLeaver_42 : decode cX5_readLeaver 42 = .ok (.invokevirtual 111, 3) := by decide +kernel
theorem dX5_readLeaver_45 : decode cX5_readLeaver 45 = .ok (.aload_n 0, 1) := by decide +kernel
theorem dX5_readLeaver_46 : decode cX5_readLeaver 46 = .ok (.getfield 28, 3) := by decide +kernel
theorem dX5_readLeaver_49 : decode cX5_readLeaver 49 = .ok (.bipush 16, 2) := by decide +kernel
theorem dX5_readLeaver_51 : decode cX5_readLeaver 51 = .ok (.iload_n 2, 1) := by decide +kernel
theorem dX5_readLeaver_52 : decode cX5_readLeaver 52 = .ok (.iadd, 1) := by decide +kernel
theorem dX5_readLeaver_53 : decode cX5_readLeaver 53 = .ok (.iload_n 1, 1) := by decide +kernel
theorem dX5_readLeaver_54 : decode cX5_readLeaver 54 = .ok (.iastore, 1) := by decide +kernel
theorem dX5_readLeaver_55 : decode cX5_readLeaver 55 = .ok (.aload_n 0, 1) := by decide +kernel
theorem dX5_readLeaver_56 : decode cX5_readLeaver 56 = .ok (.getfield 28, 3) := by decide +kernel
theorem dX5_readLeaver_59 : decode cX5_readLeaver 59 = .ok (.iconst 3, 1) := by decide +kernel
theorem dX5_readLeaver_60 : decode cX5_readLeaver 60 = .ok (.dup2, 1) := by decide +kernel
theorem dX5_readLeaver_61 : decode cX5_readLeaver 61 = .ok (.iaload, 1) := by decide +kernel
theorem dX5_readLeaver_62 : decode cX5_readLeaver 62 = .ok (.iconst 1, 1) := by decide +kernel
theorem dX5_readLeaver_63 : decode cX5_readLeaver 63 = .ok (.iadd, 1) := by decide +kernel
theorem dX5_readLeaver_64 : decode cX5_readLeaver 64 = .ok (.iastore, 1) := by decide +kernel
theorem dX5_readLeaver_65 : decode cX5_readLeaver 65 = .ok (.aload_n 0, 1) := by decide +kernel
theorem dX5_readLeaver_66 : decode cX5_readLeaver 66 = .ok (.iconst 0, 1) := by decide +kernel
theorem dX5_readLeaver_67 : decode cX5_readLeaver 67 = .ok (.aload_n 0, 1) := by decide +kernel
theorem dX5_readLeaver_68 : decode cX5_readLeaver 68 = .ok (.getfield 28, 3) := by decide +kernel
theorem dX5_readLeaver_71 : decode cX5_readLeaver 71 = .ok (.iconst 2, 1) := by decide +kernel
theorem dX5_readLeaver_72 : decode cX5_readLeaver 72 = .ok (.iaload, 1) := by decide +kernel
theorem dX5_readLeaver_73 : decode cX5_readLeaver 73 = .ok (.iconst 1, 1) := by decide +kernel
theorem dX5_readLeaver_74 : decode cX5_readLeaver 74 = .ok (.isub, 1) := by decide +kernel
theorem dX5_readLeaver_75 : decode cX5_readLeaver 75 = .ok (.bipush 22, 2) := by decide +kernel
theorem dX5_readLeaver_77 : decode cX5_readLeaver 77 = .ok (.iload_n 2, 1) := by decide +kernel
theorem dX5_readLeaver_78 : decode cX5_readLeaver 78 = .ok (.iadd, 1) := by decide +kernel
theorem dX5_readLeaver_79 : decode cX5_readLeaver 79 = .ok (.bipush 44, 2) := by decide +kernel
theorem dX5_readLeaver_81 : decode cX5_readLeaver 81 = .ok (.invokevirtual 117, 3) := by decide +kernel
theorem dX5_readLeaver_84 : decode cX5_readLeaver 84 = .ok (.ifCond .eq 38, 3) := by decide +kernel
theorem dX5_readLeaver_87 : decode cX5_readLeaver 87 = .ok (.aload_n 0, 1) := by decide +kernel
theorem dX5_readLeaver_88 : decode cX5_readLeaver 88 = .ok (.iconst 1, 1) := by decide +kernel
theorem dX5_readLeaver_89 : decode cX5_readLeaver 89 = .ok (.bipush 9, 2) := by decide +kernel
theorem dX5_readLeaver_91 : decode cX5_readLeaver 91 = .ok (.bipush 28, 2) := by decide +kernel
theorem dX5_readLeaver_93 : decode cX5_readLeaver 93 = .ok (.iload_n 2, 1) := by decide +kernel
theorem dX5_readLeaver_94 : decode cX5_readLeaver 94 = .ok (.iadd, 1) := by decide +kernel
theorem dX5_readLeaver_95 : decode cX5_readLeaver 95 = .ok (.bipush 44, 2) := by decide +kernel
theorem dX5_readLeaver_97 : decode cX5_readLeaver 97 = .ok (.invokevirtual 117, 3) := by decide +kernel
theorem dX5_readLeaver_100 : decode cX5_readLeaver 100 = .ok (.ifCond .eq 22, 3) := by decide +kernel
theorem dX5_readLeaver_103 : decode cX5_readLeaver 103 = .ok (.aload_n 0, 1) := by decide +kernel
theorem dX5_readLeaver_104 : decode cX5_readLeaver 104 = .ok (.iconst 0, 1) := by decide +kernel
theorem dX5_readLeaver_105 : decode cX5_readLeaver 105 = .ok (.iconst 4, 1) := by decide +kernel
theorem dX5_readLeaver_106 : decode cX5_readLeaver 106 = .ok (.bipush 34, 2) := by decide +kernel
theorem dX5_readLeaver_108 : decode cX5_readLeaver 108 = .ok (.iload_n 2, 1) := by decide +kernel
theorem dX5_readLeaver_109 : decode cX5_readLeaver 109 = .ok (.iadd, 1) := by decide +kernel
theorem dX5_readLeaver_110 : decode cX5_readLeaver 110 = .ok (.bipush 59, 2) := by decide +kernel
theorem dX5_readLeaver_112 : decode cX5_readLeaver 112 = .ok (.invokevirtual 117, 3) := by decide +kernel
theorem dX5_readLeaver_115 : decode cX5_readLeaver 115 = .ok (.ifCond .eq 7, 3) := by decide +kernel
theorem dX5_readLeaver_118 : decode cX5_readLeaver 118 = .ok (.iconst 1, 1) := by decide +kernel
theorem dX5_readLeaver_119 : decode cX5_readLeaver 119 = .ok (.goto 4, 3) := by decide +kernel
theorem dX5_readLeaver_122 : decode cX5_readLeaver 122 = .ok (.iconst 0, 1) := by decide +kernel
theorem dX5_readLeaver_123 : decode cX5_readLeaver 123 = .ok (.ireturn, 1) := by decide +kernel
theorem dX5_readTown_0 : decode cX5_readTown 0 = .ok (.aload_n 0, 1) := by decide +kernel
theorem dX5_readTown_1 : decode cX5_readTown 1 = .ok (.iconst 0, 1) := by decide +kernel
theorem dX5_readTown_2 : decode cX5_readTown 2 = .ok (.putfield 82, 3) := by decide +kernel
theorem dX5_readTown_5 : decode cX5_readTown 5 = .ok (.iconst 0, 1) := by decide +kernel
theorem dX5_readTown_6 : decode cX5_readTown 6 = .ok (.istore_n 1, 1) := by decide +kernel
theorem dX5_readTown_7 : decode cX5_readTown 7 = .ok (.iload_n 1, 1) := by decide +kernel
theorem dX5_readTown_8 : decode cX5_readTown 8 = .ok (.bipush 70, 2) := by decide +kernel
theorem dX5_readTown_10 : decode cX5_readTown 10 = .ok (.if_icmp .ge 16, 3) := by decide +kernel
theorem dX5_readTown_13 : decode cX5_readTown 13 = .ok (.aload_n 0, 1) := by decide +kernel
theorem dX5_readTown_14 : decode cX5_readTown 14 = .ok (.getfield 28, 3) := by decide +kernel
theorem dX5_readTown_17 : decode cX5_readTown 17 = .ok (.iload_n 1, 1) := by decide +kernel
theorem dX5_readTown_18 : decode cX5_readTown 18 = .ok (.iconst 0, 1) := by decide +kernel
theorem dX5_readTown_19 : decode cX5_readTown 19 = .ok (.iastore, 1) := by decide +kernel
theorem dX5_readTown_20 : decode cX5_readTown 20 = .ok (.iinc 1 1, 3) := by decide +kernel
theorem dX5_readTown_23 : decode cX5_readTown 23 = .ok (.goto (-16), 3) := by decide +kernel
theorem dX5_readTown_26 : decode cX5_readTown 26 = .ok (.aload_n 0, 1) := by decide +kernel
theorem dX5_readTown_27 : decode cX5_readTown 27 = .ok (.invokevirtual 111, 3) := by decide +kernel
theorem dX5_readTown_30 : decode cX5_readTown 30 = .ok (.aload_n 0, 1) := by decide +kernel
theorem dX5_readTown_31 : decode cX5_readTown 31 = .ok (.bipush 100, 2) := by decide +kernel
theorem dX5_readTown_33 : decode cX5_readTown 33 = .ok (.invokevirtual 114, 3) := by decide +kernel
theorem dX5_readTown_36 : decode cX5_readTown 36 = .ok (.ifCond .eq 29, 3) := by decide +kernel
theorem dX5_readTown_39 : decode cX5_readTown 39 = .ok (.aload_n 0, 1) := by decide +kernel
theorem dX5_readTown_40 : decode cX5_readTown 40 = .ok (.iconst 1, 1) := by decide +kernel
theorem dX5_readTown_41 : decode cX5_readTown 41 = .ok (.bipush 9, 2) := by decide +kernel
theorem dX5_readTown_43 : decode cX5_readTown 43 = .ok (.iconst 0, 1) := by decide +kernel
theorem dX5_readTown_44 : decode cX5_readTown 44 = .ok (.bipush 44, 2) := by decide +kernel
theorem dX5_readTown_46 : decode cX5_readTown 46 = .ok (.invokevirtual 117, 3) := by decide +kernel
theorem dX5_readTown_49 : decode cX5_readTown 49 = .ok (.ifCond .eq 16, 3) := by decide +kernel
theorem dX5_readTown_52 : decode cX5_readTown 52 = .ok (.aload_n 0, 1) := by decide +kernel
theorem dX5_readTown_53 : decode cX5_readTown 53 = .ok (.iconst 0, 1) := by decide +kernel
theorem dX5_readTown_54 : decode cX5_readTown 54 = .ok (.bipush 9, 2) := by decide +kernel
theorem dX5_readTown_56 : decode cX5_readTown 56 = .ok (.iconst 1, 1) := by decide +kernel
theorem dX5_readTown_57 : decode cX5_readTown 57 = .ok (.bipush 59, 2) := by decide +kernel
theorem dX5_readTown_59 : decode cX5_readTown 59 = .ok (.invokevirtual 117, 3) := by decide +kernel
theorem dX5_readTown_62 : decode cX5_readTown 62 = .ok (.ifCond .ne 5, 3) := by decide +kernel
theorem dX5_readTown_65 : decode cX5_readTown 65 = .ok (.iconst 0, 1) := by decide +kernel
theorem dX5_readTown_66 : decode cX5_readTown 66 = .ok (.ireturn, 1) := by decide +kernel
theorem dX5_readTown_67 : decode cX5_readTown 67 = .ok (.iconst 1, 1) := by decide +kernel
theorem dX5_readTown_68 : decode cX5_readTown 68 = .ok (.istore_n 1, 1) := by decide +kernel
theorem dX5_readTown_69 : decode cX5_readTown 69 = .ok (.iload_n 1, 1) := by decide +kernel
theorem dX5_readTown_70 : decode cX5_readTown 70 = .ok (.ifCond .eq 124, 3) := by decide +kernel
theorem dX5_readTown_73 : decode cX5_readTown 73 = .ok (.aload_n 0, 1) := by decide +kernel
theorem dX5_readTown_74 : decode cX5_readTown 74 = .ok (.getfield 88, 3) := by decide +kernel
theorem dX5_readTown_77 : decode cX5_readTown 77 = .ok (.iconst 3, 1) := by decide +kernel
theorem dX5_readTown_78 : decode cX5_readTown 78 = .ok (.if_icmp .ne 12, 3) := by decide +kernel
theorem dX5_readTown_81 : decode cX5_readTown 81 = .ok (.aload_n 0, 1) := by decide +kernel
theorem dX5_readTown_82 : decode cX5_readTown 82 = .ok (.getfield 28, 3) := by decide +kernel
theorem dX5_readTown_85 : decode cX5_readTown 85 = .ok (.iconst 3, 1) := by decide +kernel
theorem dX5_readTown_86 : decode cX5_readTown 86 = .ok (.iaload, 1) := by decide +kernel
theorem dX5_readTown_87 : decode cX5_readTown 87 = .ok (.ifCond .ne 107, 3) := by decide +kernel
theorem dX5_readTown_90 : decode cX5_readTown 90 = .ok (.aload_n 0, 1) := by decide +kernel
theorem dX5_readTown_91 : decode cX5_readTown 91 = .ok (.bipush 112, 2) := by decide +kernel
theorem dX5_readTown_93 : decode cX5_readTown 93 = .ok (.invokevirtual 105, 3) := by decide +kernel
theorem dX5_readTown_96 : decode cX5_readTown 96 = .ok (.ifCond .eq 7, 3) := by decide +kernel
theorem dX5_readTown_99 : decode cX5_readTown 99 = .ok (.iconst 1, 1) := by decide +kernel
theorem dX5_readTown_100 : decode cX5_readTown 100 = .ok (.goto 56, 3) := by decide +kernel
theorem dX5_readTown_103 : decode cX5_readTown 103 = .ok (.aload_n 0, 1) := by decide +kernel
theorem dX5_readTown_104 : decode cX5_readTown 104 = .ok (.bipush 102, 2) := by decide +kernel
theorem dX5_readTown_106 : decode cX5_readTown 106 = .ok (.invokevirtual 105, 3) := by decide +kernel
theorem dX5_readTown_109 : decode cX5_readTown 109 = .ok (.ifCond .eq 7, 3) := by decide +kernel
theorem dX5_readTown_112 : decode cX5_readTown 112 = .ok (.iconst 2, 1) := by decide +kernel
theorem dX5_readTown_113 : decode cX5_readTown 113 = .ok (.goto 43, 3) := by decide +kernel
theorem dX5_readTown_116 : decode cX5_readTown 116 = .ok (.aload_n 0, 1) := by decide +kernel
theorem dX5_readTown_117 : decode cX5_readTown 117 = .ok (.bipush 115, 2) := by decide +kernel
theorem dX5_readTown_119 : decode cX5_readTown 119 = .ok (.invokevirtual 105, 3) := by decide +kernel
theorem dX5_readTown_122 : decode cX5_readTown 122 = .ok (.ifCond .eq 7, 3) := by decide +kernel
theorem dX5_readTown_125 : decode cX5_readTown 125 = .ok (.iconst 3, 1) := by decide +kernel
theorem dX5_readTown_126 : decode cX5_readTown 126 = .ok (.goto 30, 3) := by decide +kernel
theorem dX5_readTown_129 : decode cX5_readTown 129 = .ok (.aload_n 0, 1) := by decide +kernel
theorem dX5_readTown_130 : decode cX5_readTown 130 = .ok (.bipush 105, 2) := by decide +kernel
theorem dX5_readTown_132 : decode cX5_readTown 132 = .ok (.invokevirtual 105, 3) := by decide +kernel
theorem dX5_readTown_135 : decode cX5_readTown 135 = .ok (.ifCond .eq 7, 3) := by decide +kernel
theorem dX5_readTown_138 : decode cX5_readTown 138 = .ok (.iconst 4, 1) := by decide +kernel
theorem dX5_readTown_139 : decode cX5_readTown 139 = .ok (.goto 17, 3) := by decide +kernel
theorem dX5_readTown_142 : decode cX5_readTown 142 = .ok (.aload_n 0, 1) := by decide +kernel
theorem dX5_readTown_143 : decode cX5_readTown 143 = .ok (.bipush 119, 2) := by decide +kernel
theorem dX5_readTown_145 : decode cX5_readTown 145 = .ok (.invokevirtual 105, 3) := by decide +kernel
theorem dX5_readTown_148 : decode cX5_readTown 148 = .ok (.ifCond .eq 7, 3) := by decide +kernel
theorem dX5_readTown_151 : decode cX5_readTown 151 = .ok (.iconst 5, 1) := by decide +kernel
theorem dX5_readTown_152 : decode cX5_readTown 152 = .ok (.goto 4, 3) := by decide +kernel
theorem dX5_readTown_155 : decode cX5_readTown 155 = .ok (.iconst 0, 1) := by decide +kernel
theorem dX5_readTown_156 : decode cX5_readTown 156 = .ok (.istore_n 2, 1) := by decide +kernel
theorem dX5_readTown_157 : decode cX5_readTown 157 = .ok (.iload_n 2, 1) := by decide +kernel
theorem dX5_readTown_158 : decode cX5_readTown 158 = .ok (.ifCond .le 11, 3) := by decide +kernel
theorem dX5_readTown_161 : decode cX5_readTown 161 = .ok (.aload_n 0, 1) := by decide +kernel
theorem dX5_readTown_162 : decode cX5_readTown 162 = .ok (.iload_n 2, 1) := by decide +kernel
theorem dX5_readTown_163 : decode cX5_readTown 163 = .ok (.invokevirtual 121, 3) := by decide +kernel
theorem dX5_readTown_166 : decode cX5_readTown 166 = .ok (.goto 24, 3) := by decide +kernel
theorem dX5_readTown_169 : decode cX5_readTown 169 = .ok (.aload_n 0, 1) := by decide +kernel
theorem dX5_readTown_170 : decode cX5_readTown 170 = .ok (.bipush 109, 2) := by decide +kernel
theorem dX5_readTown_172 : decode cX5_readTown 172 = .ok (.invokevirtual 105, 3) := by decide +kernel
theorem dX5_readTown_175 : decode cX5_readTown 175 = .ok (.ifCond .eq 10, 3) := by decide +kernel
theorem dX5_readTown_178 : decode cX5_readTown 178 = .ok (.aload_n 0, 1) := by decide +kernel
theorem dX5_readTown_179 : decode cX5_readTown 179 = .ok (.invokevirtual 124, 3) := by decide +kernel
theorem dX5_readTown_182 : decode cX5_readTown 182 = .ok (.goto 8, 3) := by decide +kernel
theorem dX5_readTown_185 : decode cX5_readTown 185 = .ok (.aload_n 0, 1) := by decide +kernel
theorem dX5_readTown_186 : decode cX5_readTown 186 = .ok (.iconst 1, 1) := by decide +kernel
theorem dX5_readTown_187 : decode cX5_readTown 187 = .ok (.invokevirtual 108, 3) := by decide +kernel
theorem dX5_readTown_190 : decode cX5_readTown 190 = .ok (.istore_n 1, 1) := by decide +kernel
theorem dX5_readTown_191 : decode cX5_readTown 191 = .ok (.goto (-122), 3) := by decide +kernel
theorem dX5_readTown_194 : decode cX5_readTown 194 = .ok (.iload_n 1, 1) := by decide +kernel
theorem dX5_readTown_195 : decode cX5_readTown 195 = .ok (.ireturn, 1) := by decide +kernel
theorem dX5_town_0 : decode cX5_town 0 = .ok (.aload_n 0, 1) := by decide +kernel
theorem dX5_town_1 : decode cX5_town 1 = .ok (.invokevirtual 128, 3) := by decide +kernel
theorem dX5_town_4 : decode cX5_town 4 = .ok (.istore_n 1, 1) := by decide +kernel
theorem dX5_town_5 : decode cX5_town 5 = .ok (.aload_n 0, 1) := by decide +kernel
theorem dX5_town_6 : decode cX5_town 6 = .ok (.iconst 0, 1) := by decide +kernel
theorem dX5_town_7 : decode cX5_town 7 = .ok (.putfield 78, 3) := by decide +kernel
theorem dX5_town_10 : decode cX5_town 10 = .ok (.iload_n 1, 1) := by decide +kernel
theorem dX5_town_11 : decode cX5_town 11 = .ok (.ifCond .ne 19, 3) := by decide +kernel
theorem dX5_town_14 : decode cX5_town 14 = .ok (.aload_n 0, 1) := by decide +kernel
theorem dX5_town_15 : decode cX5_town 15 = .ok (.aload_n 0, 1) := by decide +kernel
theorem dX5_town_16 : decode cX5_town 16 = .ok (.getfield 102, 3) := by decide +kernel
theorem dX5_town_19 : decode cX5_town 19 = .ok (.putfield 131, 3) := by decide +kernel
theorem dX5_town_22 : decode cX5_town 22 = .ok (.ldc 134, 2) := by decide +kernel
theorem dX5_town_24 : decode cX5_town 24 = .ok (.aload_n 0, 1) := by decide +kernel
theorem dX5_town_25 : decode cX5_town 25 = .ok (.getfield 85, 3) := by decide +kernel
theorem dX5_town_28 : decode cX5_town 28 = .ok (.isub, 1) := by decide +kernel
theorem dX5_town_29 : decode cX5_town 29 = .ok (.ireturn, 1) := by decide +kernel
theorem dX5_town_30 : decode cX5_town 30 = .ok (.iconst 0, 1) := by decide +kernel
theorem dX5_town_31 : decode cX5_town 31 = .ok (.istore_n 2, 1) := by decide +kernel
theorem dX5_town_32 : decode cX5_town 32 = .ok (.iload_n 2, 1) := by decide +kernel
theorem dX5_town_33 : decode cX5_town 33 = .ok (.bipush 70, 2) := by decide +kernel
theorem dX5_town_35 : decode cX5_town 35 = .ok (.if_icmp .ge 21, 3) := by decide +kernel
theorem dX5_town_38 : decode cX5_town 38 = .ok (.aload_n 0, 1) := by decide +kernel
theorem dX5_town_39 : decode cX5_town 39 = .ok (.getfield 19, 3) := by decide +kernel
theorem dX5_town_42 : decode cX5_town 42 = .ok (.iload_n 2, 1) := by decide +kernel
theorem dX5_town_43 : decode cX5_town 43 = .ok (.aload_n 0, 1) := by decide +kernel
theorem dX5_town_44 : decode cX5_town 44 = .ok (.getfield 28, 3) := by decide +kernel
theorem dX5_town_47 : decode cX5_town 47 = .ok (.iload_n 2, 1) := by decide +kernel
theorem dX5_town_48 : decode cX5_town 48 = .ok (.iaload, 1) := by decide +kernel
theorem dX5_town_49 : decode cX5_town 49 = .ok (.iastore, 1) := by decide +kernel
theorem dX5_town_50 : decode cX5_town 50 = .ok (.iinc 2 1, 3) := by decide +kernel
theorem dX5_town_53 : decode cX5_town 53 = .ok (.goto (-21), 3) := by decide +kernel
theorem dX5_town_56 : decode cX5_town 56 = .ok (.aload_n 0, 1) := by decide +kernel
theorem dX5_town_57 : decode cX5_town 57 = .ok (.iconst 1, 1) := by decide +kernel
theorem dX5_town_58 : decode cX5_town 58 = .ok (.putfield 135, 3) := by decide +kernel
theorem dX5_town_61 : decode cX5_town 61 = .ok (.aload_n 0, 1) := by decide +kernel
theorem dX5_town_62 : decode cX5_town 62 = .ok (.iconst 0, 1) := by decide +kernel
theorem dX5_town_63 : decode cX5_town 63 = .ok (.putfield 139, 3) := by decide +kernel
theorem dX5_town_66 : decode cX5_town 66 = .ok (.aload_n 0, 1) := by decide +kernel
theorem dX5_town_67 : decode cX5_town 67 = .ok (.getfield 19, 3) := by decide +kernel
theorem dX5_town_70 : decode cX5_town 70 = .ok (.iconst 3, 1) := by decide +kernel
theorem dX5_town_71 : decode cX5_town 71 = .ok (.iaload, 1) := by decide +kernel
theorem dX5_town_72 : decode cX5_town 72 = .ok (.ireturn, 1) := by decide +kernel
theorem dX5_fault_0 : decode cX5_fault 0 = .ok (.aload_n 0, 1) := by decide +kernel
theorem dX5_fault_1 : decode cX5_fault 1 = .ok (.getfield 131, 3) := by decide +kernel
theorem dX5_fault_4 : decode cX5_fault 4 = .ok (.ireturn, 1) := by decide +kernel
theorem dX5_isMan_0 : decode cX5_isMan 0 = .ok (.iload_n 1, 1) := by decide +kernel
theorem dX5_isMan_1 : decode cX5_isMan 1 = .ok (.i2l, 1) := by decide +kernel
theorem dX5_isMan_2 : decode cX5_isMan 2 = .ok (.lconst 0, 1) := by decide +kernel
theorem dX5_isMan_3 : decode cX5_isMan 3 = .ok (.aload_n 0, 1) := by decide +kernel
theorem dX5_isMan_4 : decode cX5_isMan 4 = .ok (.getfield 19, 3) := by decide +kernel
theorem dX5_isMan_7 : decode cX5_isMan 7 = .ok (.iconst 2, 1) := by decide +kernel
theorem dX5_isMan_8 : decode cX5_isMan 8 = .ok (.iaload, 1) := by decide +kernel
theorem dX5_isMan_9 : decode cX5_isMan 9 = .ok (.iconst 1, 1) := by decide +kernel
theorem dX5_isMan_10 : decode cX5_isMan 10 = .ok (.isub, 1) := by decide +kernel
theorem dX5_isMan_11 : decode cX5_isMan 11 = .ok (.i2l, 1) := by decide +kernel
theorem dX5_isMan_12 : decode cX5_isMan 12 = .ok (.invokestatic 54, 3) := by decide +kernel
theorem dX5_isMan_15 : decode cX5_isMan 15 = .ok (.ireturn, 1) := by decide +kernel
theorem dX5_isLeaver_0 : decode cX5_isLeaver 0 = .ok (.iload_n 1, 1) := by decide +kernel
theorem dX5_isLeaver_1 : decode cX5_isLeaver 1 = .ok (.i2l, 1) := by decide +kernel
theorem dX5_isLeaver_2 : decode cX5_isLeaver 2 = .ok (.lconst 0, 1) := by decide +kernel
theorem dX5_isLeaver_3 : decode cX5_isLeaver 3 = .ok (.aload_n 0, 1) := by decide +kernel
theorem dX5_isLeaver_4 : decode cX5_isLeaver 4 = .ok (.getfield 19, 3) := by decide +kernel
theorem dX5_isLeaver_7 : decode cX5_isLeaver 7 = .ok (.iconst 3, 1) := by decide +kernel
theorem dX5_isLeaver_8 : decode cX5_isLeaver 8 = .ok (.iaload, 1) := by decide +kernel
theorem dX5_isLeaver_9 : decode cX5_isLeaver 9 = .ok (.iconst 1, 1) := by decide +kernel
theorem dX5_isLeaver_10 : decode cX5_isLeaver 10 = .ok (.isub, 1) := by decide +kernel
theorem dX5_isLeaver_11 : decode cX5_isLeaver 11 = .ok (.i2l, 1) := by decide +kernel
theorem dX5_isLeaver_12 : decode cX5_isLeaver 12 = .ok (.invokestatic 54, 3) := by decide +kernel
theorem dX5_isLeaver_15 : decode cX5_isLeaver 15 = .ok (.ireturn, 1) := by decide +kernel
theorem dX5_houseOf_0 : decode cX5_houseOf 0 = .ok (.aload_n 0, 1) := by decide +kernel
theorem dX5_houseOf_1 : decode cX5_houseOf 1 = .ok (.getfield 19, 3) := by decide +kernel
theorem dX5_houseOf_4 : decode cX5_houseOf 4 = .ok (.bipush 22, 2) := by decide +kernel
theorem dX5_houseOf_6 : decode cX5_houseOf 6 = .ok (.iload_n 1, 1) := by decide +kernel
theorem dX5_houseOf_7 : decode cX5_houseOf 7 = .ok (.iadd, 1) := by decide +kernel
theorem dX5_houseOf_8 : decode cX5_houseOf 8 = .ok (.iaload, 1) := by decide +kernel
theorem dX5_houseOf_9 : decode cX5_houseOf 9 = .ok (.aload_n 0, 1) := by decide +kernel
theorem dX5_houseOf_10 : decode cX5_houseOf 10 = .ok (.getfield 19, 3) := by decide +kernel
theorem dX5_houseOf_13 : decode cX5_houseOf 13 = .ok (.bipush 34, 2) := by decide +kernel
theorem dX5_houseOf_15 : decode cX5_houseOf 15 = .ok (.iload_n 1, 1) := by decide +kernel
theorem dX5_houseOf_16 : decode cX5_houseOf 16 = .ok (.iadd, 1) := by decide +kernel
theorem dX5_houseOf_17 : decode cX5_houseOf 17 = .ok (.iaload, 1) := by decide +kernel
theorem dX5_houseOf_18 : decode cX5_houseOf 18 = .ok (.aload_n 0, 1) := by decide +kernel
theorem dX5_houseOf_19 : decode cX5_houseOf 19 = .ok (.getfield 19, 3) := by decide +kernel
theorem dX5_houseOf_22 : decode cX5_houseOf 22 = .ok (.iconst 4, 1) := by decide +kernel
theorem dX5_houseOf_23 : decode cX5_houseOf 23 = .ok (.iaload, 1) := by decide +kernel
theorem dX5_houseOf_24 : decode cX5_houseOf 24 = .ok (.imul, 1) := by decide +kernel
theorem dX5_houseOf_25 : decode cX5_houseOf 25 = .ok (.iadd, 1) := by decide +kernel
theorem dX5_houseOf_26 : decode cX5_houseOf 26 = .ok (.aload_n 0, 1) := by decide +kernel
theorem dX5_houseOf_27 : decode cX5_houseOf 27 = .ok (.getfield 19, 3) := by decide +kernel
theorem dX5_houseOf_30 : decode cX5_houseOf 30 = .ok (.iconst 2, 1) := by decide +kernel
theorem dX5_houseOf_31 : decode cX5_houseOf 31 = .ok (.iaload, 1) := by decide +kernel
theorem dX5_houseOf_32 : decode cX5_houseOf 32 = .ok (.irem, 1) := by decide +kernel
theorem dX5_houseOf_33 : decode cX5_houseOf 33 = .ok (.ireturn, 1) := by decide +kernel
theorem dX5_timesOf_0 : decode cX5_timesOf 0 = .ok (.aload_n 0, 1) := by decide +kernel
theorem dX5_timesOf_1 : decode cX5_timesOf 1 = .ok (.getfield 19, 3) := by decide +kernel
theorem dX5_timesOf_4 : decode cX5_timesOf 4 = .ok (.bipush 40, 2) := by decide +kernel
theorem dX5_timesOf_6 : decode cX5_timesOf 6 = .ok (.iconst 5, 1) := by decide +kernel
theorem dX5_timesOf_7 : decode cX5_timesOf 7 = .ok (.iload_n 1, 1) := by decide +kernel
theorem dX5_timesOf_8 : decode cX5_timesOf 8 = .ok (.imul, 1) := by decide +kernel
theorem dX5_timesOf_9 : decode cX5_timesOf 9 = .ok (.iadd, 1) := by decide +kernel
theorem dX5_timesOf_10 : decode cX5_timesOf 10 = .ok (.aload_n 0, 1) := by decide +kernel
theorem dX5_timesOf_11 : decode cX5_timesOf 11 = .ok (.iload_n 1, 1) := by decide +kernel
theorem dX5_timesOf_12 : decode cX5_timesOf 12 = .ok (.invokevirtual 142, 3) := by decide +kernel
theorem dX5_timesOf_15 : decode cX5_timesOf 15 = .ok (.iadd, 1) := by decide +kernel
theorem dX5_timesOf_16 : decode cX5_timesOf 16 = .ok (.iaload, 1) := by decide +kernel
theorem dX5_timesOf_17 : decode cX5_timesOf 17 = .ok (.ireturn, 1) := by decide +kernel
theorem dX5_makes_0 : decode cX5_makes 0 = .ok (.aload_n 0, 1) := by decide +kernel
theorem dX5_makes_1 : decode cX5_makes 1 = .ok (.getfield 19, 3) := by decide +kernel
theorem dX5_makes_4 : decode cX5_makes 4 = .ok (.bipush 28, 2) := by decide +kernel
theorem dX5_makes_6 : decode cX5_makes 6 = .ok (.iload_n 1, 1) := by decide +kernel
theorem dX5_makes_7 : decode cX5_makes 7 = .ok (.iadd, 1) := by decide +kernel
theorem dX5_makes_8 : decode cX5_makes 8 = .ok (.iaload, 1) := by decide +kernel
theorem dX5_makes_9 : decode cX5_makes 9 = .ok (.istore_n 2, 1) := by decide +kernel
theorem dX5_makes_10 : decode cX5_makes 10 = .ok (.aload_n 0, 1) := by decide +kernel
theorem dX5_makes_11 : decode cX5_makes 11 = .ok (.getfield 19, 3) := by decide +kernel
theorem dX5_makes_14 : decode cX5_makes 14 = .ok (.iconst 4, 1) := by decide +kernel
theorem dX5_makes_15 : decode cX5_makes 15 = .ok (.iaload, 1) := by decide +kernel
theorem dX5_makes_16 : decode cX5_makes 16 = .ok (.iconst 3, 1) := by decide +kernel
theorem dX5_makes_17 : decode cX5_makes 17 = .ok (.irem, 1) := by decide +kernel
theorem dX5_makes_18 : decode cX5_makes 18 = .ok (.ifCond .ne 7, 3) := by decide +kernel
theorem dX5_makes_21 : decode cX5_makes 21 = .ok (.iload_n 2, 1) := by decide +kernel
theorem dX5_makes_22 : decode cX5_makes 22 = .ok (.goto 4, 3) := by decide +kernel
theorem dX5_makes_25 : decode cX5_makes 25 = .ok (.iconst 0, 1) := by decide +kernel
theorem dX5_makes_26 : decode cX5_makes 26 = .ok (.istore_n 3, 1) := by decide +kernel
theorem dX5_makes_27 : decode cX5_makes 27 = .ok (.aload_n 0, 1) := by decide +kernel
theorem dX5_makes_28 : decode cX5_makes 28 = .ok (.getfield 19, 3) := by decide +kernel
theorem dX5_makes_31 : decode cX5_makes 31 = .ok (.bipush 16, 2) := by decide +kernel
theorem dX5_makes_33 : decode cX5_makes 33 = .ok (.iload_n 1, 1) := by decide +kernel
theorem dX5_makes_34 : decode cX5_makes 34 = .ok (.iadd, 1) := by decide +kernel
theorem dX5_makes_35 : decode cX5_makes 35 = .ok (.iaload, 1) := by decide +kernel
theorem dX5_makes_36 : decode cX5_makes 36 = .ok (.tableswitch 90 2 5 #[32, 55, 59, 61], 32) := by decide +kernel
theorem dX5_makes_68 : decode cX5_makes 68 = .ok (.iload_n 2, 1) := by decide +kernel
theorem dX5_makes_69 : decode cX5_makes 69 = .ok (.aload_n 0, 1) := by decide +kernel
theorem dX5_makes_70 : decode cX5_makes 70 = .ok (.iload_n 1, 1) := by decide +kernel
theorem dX5_makes_71 : decode cX5_makes 71 = .ok (.invokevirtual 145, 3) := by decide +kernel
theorem dX5_makes_74 : decode cX5_makes 74 = .ok (.bipush 9, 2) := by decide +kernel
theorem dX5_makes_76 : decode cX5_makes 76 = .ok (.if_icmp .ge 11, 3) := by decide +kernel
theorem dX5_makes_79 : decode cX5_makes 79 = .ok (.aload_n 0, 1) := by decide +kernel
theorem dX5_makes_80 : decode cX5_makes 80 = .ok (.iload_n 1, 1) := by decide +kernel
theorem dX5_makes_81 : decode cX5_makes 81 = .ok (.invokevirtual 145, 3) := by decide +kernel
theorem dX5_makes_84 : decode cX5_makes 84 = .ok (.goto 5, 3) := by decide +kernel
theorem dX5_makes_87 : decode cX5_makes 87 = .ok (.bipush 9, 2) := by decide +kernel
theorem dX5_makes_89 : decode cX5_makes 89 = .ok (.iadd, 1) := by decide +kernel
theorem dX5_makes_90 : decode cX5_makes 90 = .ok (.ireturn, 1) := by decide +kernel
theorem dX5_makes_91 : decode cX5_makes 91 = .ok (.iload_n 2, 1) := by decide +kernel
theorem dX5_makes_92 : decode cX5_makes 92 = .ok (.iconst 2, 1) := by decide +kernel
theorem dX5_makes_93 : decode cX5_makes 93 = .ok (.idiv, 1) := by decide +kernel
theorem dX5_makes_94 : decode cX5_makes 94 = .ok (.ireturn, 1) := by decide +kernel
theorem dX5_makes_95 : decode cX5_makes 95 = .ok (.iload_n 3, 1) := by decide +kernel
theorem dX5_makes_96 : decode cX5_makes 96 = .ok (.ireturn, 1) := by decide +kernel
theorem dX5_makes_97 : decode cX5_makes 97 = .ok (.bipush 7, 2) := by decide +kernel
theorem dX5_makes_99 : decode cX5_makes 99 = .ok (.aload_n 0, 1) := by decide +kernel
theorem dX5_makes_100 : decode cX5_makes 100 = .ok (.getfield 19, 3) := by decide +kernel
theorem dX5_makes_103 : decode cX5_makes 103 = .ok (.iconst 4, 1) := by decide +kernel
theorem dX5_makes_104 : decode cX5_makes 104 = .ok (.iaload, 1) := by decide +kernel
theorem dX5_makes_105 : decode cX5_makes 105 = .ok (.imul, 1) := by decide +kernel
theorem dX5_makes_106 : decode cX5_makes 106 = .ok (.bipush 10, 2) := by decide +kernel
theorem dX5_makes_108 : decode cX5_makes 108 = .ok (.irem, 1) := by decide +kernel
theorem dX5_makes_109 : decode cX5_makes 109 = .ok (.aload_n 0, 1) := by decide +kernel
theorem dX5_makes_110 : decode cX5_makes 110 = .ok (.getfield 19, 3) := by decide +kernel
theorem dX5_makes_113 : decode cX5_makes 113 = .ok (.iconst 1, 1) := by decide +kernel
theorem dX5_makes_114 : decode cX5_makes 114 = .ok (.iaload, 1) := by decide +kernel
theorem dX5_makes_115 : decode cX5_makes 115 = .ok (.if_icmp .ge 9, 3) := by decide +kernel
theorem dX5_makes_118 : decode cX5_makes 118 = .ok (.iconst 2, 1) := by decide +kernel
theorem dX5_makes_119 : decode cX5_makes 119 = .ok (.iload_n 2, 1) := by decide +kernel
theorem dX5_makes_120 : decode cX5_makes 120 = .ok (.imul, 1) := by decide +kernel
theorem dX5_makes_121 : decode cX5_makes 121 = .ok (.goto 4, 3) := by decide +kernel
theorem dX5_makes_124 : decode cX5_makes 124 = .ok (.iload_n 3, 1) := by decide +kernel
theorem dX5_makes_125 : decode cX5_makes 125 = .ok (.ireturn, 1) := by decide +kernel
theorem dX5_makes_126 : decode cX5_makes 126 = .ok (.iload_n 2, 1) := by decide +kernel
theorem dX5_makes_127 : decode cX5_makes 127 = .ok (.ireturn, 1) := by decide +kernel
theorem dX5_awayFrom_0 : decode cX5_awayFrom 0 = .ok (.iconst 0, 1) := by decide +kernel
theorem dX5_awayFrom_1 : decode cX5_awayFrom 1 = .ok (.istore_n 2, 1) := by decide +kernel
theorem dX5_awayFrom_2 : decode cX5_awayFrom 2 = .ok (.iconst 0, 1) := by decide +kernel
theorem dX5_awayFrom_3 : decode cX5_awayFrom 3 = .ok (.istore_n 3, 1) := by decide +kernel
theorem dX5_awayFrom_4 : decode cX5_awayFrom 4 = .ok (.iload_n 3, 1) := by decide +kernel
theorem dX5_awayFrom_5 : decode cX5_awayFrom 5 = .ok (.aload_n 0, 1) := by decide +kernel
theorem dX5_awayFrom_6 : decode cX5_awayFrom 6 = .ok (.getfield 19, 3) := by decide +kernel
theorem dX5_awayFrom_9 : decode cX5_awayFrom 9 = .ok (.iconst 3, 1) := by decide +kernel
theorem dX5_awayFrom_10 : decode cX5_awayFrom 10 = .ok (.iaload, 1) := by decide +kernel
theorem dX5_awayFrom_11 : decode cX5_awayFrom 11 = .ok (.if_icmp .ge 39, 3) := by decide +kernel
theorem dX5_awayFrom_14 : decode cX5_awayFrom 14 = .ok (.iload_n 2, 1) := by decide +kernel
theorem dX5_awayFrom_15 : decode cX5_awayFrom 15 = .ok (.aload_n 0, 1) := by decide +kernel
theorem dX5_awayFrom_16 : decode cX5_awayFrom 16 = .ok (.getfield 148, 3) := by decide +kernel
theorem dX5_awayFrom_19 : decode cX5_awayFrom 19 = .ok (.iload_n 3, 1) := by decide +kernel
theorem dX5_awayFrom_20 : decode cX5_awayFrom 20 = .ok (.invokestatic 151, 3) := by decide +kernel
theorem dX5_awayFrom_23 : decode cX5_awayFrom 23 = .ok (.ifCond .ne 18, 3) := by decide +kernel
theorem dX5_awayFrom_26 : decode cX5_awayFrom 26 = .ok (.aload_n 0, 1) := by decide +kernel
theorem dX5_awayFrom_27 : decode cX5_awayFrom 27 = .ok (.iload_n 3, 1) := by decide +kernel
theorem dX5_awayFrom_28 : decode cX5_awayFrom 28 = .ok (.invokevirtual 142, 3) := by decide +kernel
theorem dX5_awayFrom_31 : decode cX5_awayFrom 31 = .ok (.iload_n 1, 1) := by decide +kernel
theorem dX5_awayFrom_32 : decode cX5_awayFrom 32 = .ok (.if_icmp .ne 9, 3) := by decide +kernel
theorem dX5_awayFrom_35 : decode cX5_awayFrom 35 = .ok (.iconst 1, 1) := by decide +kernel
theorem dX5_awayFrom_36 : decode cX5_awayFrom 36 = .ok (.iload_n 3, 1) := by decide +kernel
theorem dX5_awayFrom_37 : decode cX5_awayFrom 37 = .ok (.ishl, 1) := by decide +kernel
theorem dX5_awayFrom_38 : decode cX5_awayFrom 38 = .ok (.goto 4, 3) := by decide +kernel
theorem dX5_awayFrom_41 : decode cX5_awayFrom 41 = .ok (.iconst 0, 1) := by decide +kernel
theorem dX5_awayFrom_42 : decode cX5_awayFrom 42 = .ok (.ior, 1) := by decide +kernel
theorem dX5_awayFrom_43 : decode cX5_awayFrom 43 = .ok (.istore_n 2, 1) := by decide +kernel
theorem dX5_awayFrom_44 : decode cX5_awayFrom 44 = .ok (.iinc 3 1, 3) := by decide +kernel
theorem dX5_awayFrom_47 : decode cX5_awayFrom 47 = .ok (.goto (-43), 3) := by decide +kernel
theorem dX5_awayFrom_50 : decode cX5_awayFrom 50 = .ok (.iload_n 2, 1) := by decide +kernel
theorem dX5_awayFrom_51 : decode cX5_awayFrom 51 = .ok (.ireturn, 1) := by decide +kernel
theorem dX5_madeAt_0 : decode cX5_madeAt 0 = .ok (.aload_n 0, 1) := by decide +kernel
theorem dX5_madeAt_1 : decode cX5_madeAt 1 = .ok (.iload_n 1, 1) := by decide +kernel
theorem dX5_madeAt_2 : decode cX5_madeAt 2 = .ok (.invokevirtual 155, 3) := by decide +kernel
theorem dX5_madeAt_5 : decode cX5_madeAt 5 = .ok (.istore_n 2, 1) := by decide +kernel
theorem dX5_madeAt_6 : decode cX5_madeAt 6 = .ok (.iconst 0, 1) := by decide +kernel
theorem dX5_madeAt_7 : decode cX5_madeAt 7 = .ok (.istore_n 3, 1) := by decide +kernel
theorem dX5_madeAt_8 : decode cX5_madeAt 8 = .ok (.iconst 0, 1) := by decide +kernel
theorem dX5_madeAt_9 : decode cX5_madeAt 9 = .ok (.istore 4, 2) := by decide +kernel
theorem dX5_madeAt_11 : decode cX5_madeAt 11 = .ok (.iload 4, 2) := by decide +kernel
theorem dX5_madeAt_13 : decode cX5_madeAt 13 = .ok (.aload_n 0, 1) := by decide +kernel
theorem dX5_madeAt_14 : decode cX5_madeAt 14 = .ok (.getfield 19, 3) := by decide +kernel
theorem dX5_madeAt_17 : decode cX5_madeAt 17 = .ok (.iconst 3, 1) := by decide +kernel
theorem dX5_madeAt_18 : decode cX5_madeAt 18 = .ok (.iaload, 1) := by decide +kernel
theorem dX5_madeAt_19 : decode cX5_madeAt 19 = .ok (.if_icmp .ge 31, 3) := by decide +kernel
theorem dX5_madeAt_22 : decode cX5_madeAt 22 = .ok (.iload_n 3, 1) := by decide +kernel
theorem dX5_madeAt_23 : decode cX5_madeAt 23 = .ok (.iload_n 2, 1) := by decide +kernel
theorem dX5_madeAt_24 : decode cX5_madeAt 24 = .ok (.iload 4, 2) := by decide +kernel
theorem dX5_madeAt_26 : decode cX5_madeAt 26 = .ok (.invokestatic 151, 3) := by decide +kernel
theorem dX5_madeAt_29 : decode cX5_madeAt 29 = .ok (.ifCond .eq 12, 3) := by decide +kernel
theorem dX5_madeAt_32 : decode cX5_madeAt 32 = .ok (.aload_n 0, 1) := by decide +kernel
theorem dX5_madeAt_33 : decode cX5_madeAt 33 = .ok (.iload 4, 2) := by decide +kernel
theorem dX5_madeAt_35 : decode cX5_madeAt 35 = .ok (.invokevirtual 158, 3) := by decide +kernel
theorem dX5_madeAt_38 : decode cX5_madeAt 38 = .ok (.goto 4, 3) := by decide +kernel
theorem dX5_madeAt_41 : decode cX5_madeAt 41 = .ok (.iconst 0, 1) := by decide +kernel
theorem dX5_madeAt_42 : decode cX5_madeAt 42 = .ok (.iadd, 1) := by decide +kernel
theorem dX5_madeAt_43 : decode cX5_madeAt 43 = .ok (.istore_n 3, 1) := by decide +kernel
theorem dX5_madeAt_44 : decode cX5_madeAt 44 = .ok (.iinc 4 1, 3) := by decide +kernel
theorem dX5_madeAt_47 : decode cX5_madeAt 47 = .ok (.goto (-36), 3) := by decide +kernel
theorem dX5_madeAt_50 : decode cX5_madeAt 50 = .ok (.iload_n 3, 1) := by decide +kernel
theorem dX5_madeAt_51 : decode cX5_madeAt 51 = .ok (.ireturn, 1) := by decide +kernel
theorem dX5_allFeel_0 : decode cX5_allFeel 0 = .ok (.iconst 0, 1) := by decide +kernel
theorem dX5_allFeel_1 : decode cX5_allFeel 1 = .ok (.istore_n 1, 1) := by decide +kernel
theorem dX5_allFeel_2 : decode cX5_allFeel 2 = .ok (.iconst 0, 1) := by decide +kernel
theorem dX5_allFeel_3 : decode cX5_allFeel 3 = .ok (.istore_n 2, 1) := by decide +kernel
theorem dX5_allFeel_4 : decode cX5_allFeel 4 = .ok (.iload_n 2, 1) := by decide +kernel
theorem dX5_allFeel_5 : decode cX5_allFeel 5 = .ok (.aload_n 0, 1) := by decide +kernel
theorem dX5_allFeel_6 : decode cX5_allFeel 6 = .ok (.getfield 19, 3) := by decide +kernel
theorem dX5_allFeel_9 : decode cX5_allFeel 9 = .ok (.iconst 2, 1) := by decide +kernel
theorem dX5_allFeel_10 : decode cX5_allFeel 10 = .ok (.iaload, 1) := by decide +kernel
theorem dX5_allFeel_11 : decode cX5_allFeel 11 = .ok (.if_icmp .ge 21, 3) := by decide +kernel
theorem dX5_allFeel_14 : decode cX5_allFeel 14 = .ok (.iload_n 1, 1) := by decide +kernel
theorem dX5_allFeel_15 : decode cX5_allFeel 15 = .ok (.aload_n 0, 1) := by decide +kernel
theorem dX5_allFeel_16 : decode cX5_allFeel 16 = .ok (.getfield 19, 3) := by decide +kernel
theorem dX5_allFeel_19 : decode cX5_allFeel 19 = .ok (.bipush 6, 2) := by decide +kernel
theorem dX5_allFeel_21 : decode cX5_allFeel 21 = .ok (.iload_n 2, 1) := by decide +kernel
theorem dX5_allFeel_22 : decode cX5_allFeel 22 = .ok (.iadd, 1) := by decide +kernel
theorem dX5_allFeel_23 : decode cX5_allFeel 23 = .ok (.iaload, 1) := by decide +kernel
theorem dX5_allFeel_24 : decode cX5_allFeel 24 = .ok (.iadd, 1) := by decide +kernel
theorem dX5_allFeel_25 : decode cX5_allFeel 25 = .ok (.istore_n 1, 1) := by decide +kernel
theorem dX5_allFeel_26 : decode cX5_allFeel 26 = .ok (.iinc 2 1, 3) := by decide +kernel
theorem dX5_allFeel_29 : decode cX5_allFeel 29 = .ok (.goto (-25), 3) := by decide +kernel
theorem dX5_allFeel_32 : decode cX5_allFeel 32 = .ok (.iload_n 1, 1) := by decide +kernel
theorem dX5_allFeel_33 : decode cX5_allFeel 33 = .ok (.ireturn, 1) := by decide +kernel
theorem dX5_oneDay_0 : decode cX5_oneDay 0 = .ok (.aload_n 0, 1) := by decide +kernel
theorem dX5_oneDay_1 : decode cX5_oneDay 1 = .ok (.iconst 0, 1) := by decide +kernel
theorem dX5_oneDay_2 : decode cX5_oneDay 2 = .ok (.putfield 161, 3) := by decide +kernel
theorem dX5_oneDay_5 : decode cX5_oneDay 5 = .ok (.iconst 0, 1) := by decide +kernel
theorem dX5_oneDay_6 : decode cX5_oneDay 6 = .ok (.istore_n 1, 1) := by decide +kernel
theorem dX5_oneDay_7 : decode cX5_oneDay 7 = .ok (.iload_n 1, 1) := by decide +kernel
theorem dX5_oneDay_8 : decode cX5_oneDay 8 = .ok (.aload_n 0, 1) := by decide +kernel
theorem dX5_oneDay_9 : decode cX5_oneDay 9 = .ok (.getfield 19, 3) := by decide +kernel
theorem dX5_oneDay_12 : decode cX5_oneDay 12 = .ok (.iconst 2, 1) := by decide +kernel
theorem dX5_oneDay_13 : decode cX5_oneDay 13 = .ok (.iaload, 1) := by decide +kernel
theorem dX5_oneDay_14 : decode cX5_oneDay 14 = .ok (.if_icmp .ge 142, 3) := by decide +kernel
theorem dX5_oneDay_17 : decode cX5_oneDay 17 = .ok (.aload_n 0, 1) := by decide +kernel
theorem dX5_oneDay_18 : decode cX5_oneDay 18 = .ok (.iload_n 1, 1) := by decide +kernel
theorem dX5_oneDay_19 : decode cX5_oneDay 19 = .ok (.invokevirtual 164, 3) := by decide +kernel
theorem dX5_oneDay_22 : decode cX5_oneDay 22 = .ok (.istore_n 2, 1) := by decide +kernel
theorem dX5_oneDay_23 : decode cX5_oneDay 23 = .ok (.aload_n 0, 1) := by decide +kernel
theorem dX5_oneDay_24 : decode cX5_oneDay 24 = .ok (.iload_n 1, 1) := by decide +kernel
theorem dX5_oneDay_25 : decode cX5_oneDay 25 = .ok (.invokevirtual 155, 3) := by decide +kernel
theorem dX5_oneDay_28 : decode cX5_oneDay 28 = .ok (.ifCond .ne 7, 3) := by decide +kernel
theorem dX5_oneDay_31 : decode cX5_oneDay 31 = .ok (.iconst 1, 1) := by decide +kernel
theorem dX5_oneDay_32 : decode cX5_oneDay 32 = .ok (.goto 4, 3) := by decide +kernel
theorem dX5_oneDay_35 : decode cX5_oneDay 35 = .ok (.iconst 0, 1) := by decide +kernel
theorem dX5_oneDay_36 : decode cX5_oneDay 36 = .ok (.istore_n 3, 1) := by decide +kernel
theorem dX5_oneDay_37 : decode cX5_oneDay 37 = .ok (.iload_n 3, 1) := by decide +kernel
theorem dX5_oneDay_38 : decode cX5_oneDay 38 = .ok (.ifCond .ne 20, 3) := by decide +kernel
theorem dX5_oneDay_41 : decode cX5_oneDay 41 = .ok (.iload_n 2, 1) := by decide +kernel
theorem dX5_oneDay_42 : decode cX5_oneDay 42 = .ok (.aload_n 0, 1) := by decide +kernel
theorem dX5_oneDay_43 : decode cX5_oneDay 43 = .ok (.getfield 19, 3) := by decide +kernel
theorem dX5_oneDay_46 : decode cX5_oneDay 46 = .ok (.bipush 11, 2) := by decide +kernel
theorem dX5_oneDay_48 : decode cX5_oneDay 48 = .ok (.iload_n 1, 1) := by decide +kernel
theorem dX5_oneDay_49 : decode cX5_oneDay 49 = .ok (.iadd, 1) := by decide +kernel
theorem dX5_oneDay_50 : decode cX5_oneDay 50 = .ok (.iaload, 1) := by decide +kernel
theorem dX5_oneDay_51 : decode cX5_oneDay 51 = .ok (.if_icmp .gt 7, 3) := by decide +kernel
theorem dX5_oneDay_54 : decode cX5_oneDay 54 = .ok (.iconst 1, 1) := by decide +kernel
theorem dX5_oneDay_55 : decode cX5_oneDay 55 = .ok (.goto 4, 3) := by decide +kernel
theorem dX5_oneDay_58 : decode cX5_oneDay 58 = .ok (.iconst 0, 1) := by decide +kernel
theorem dX5_oneDay_59 : decode cX5_oneDay 59 = .ok (.istore 4, 2) := by decide +kernel
theorem dX5_oneDay_61 : decode cX5_oneDay 61 = .ok (.aload_n 0, 1) := by decide +kernel
theorem dX5_oneDay_62 : decode cX5_oneDay 62 = .ok (.getfield 19, 3) := by decide +kernel
theorem dX5_oneDay_65 : decode cX5_oneDay 65 = .ok (.bipush 6, 2) := by decide +kernel
theorem dX5_oneDay_67 : decode cX5_oneDay 67 = .ok (.iload_n 1, 1) := by decide +kernel
theorem dX5_oneDay_68 : decode cX5_oneDay 68 = .ok (.iadd, 1) := by decide +kernel
theorem dX5_oneDay_69 : decode cX5_oneDay 69 = .ok (.iaload, 1) := by decide +kernel
theorem dX5_oneDay_70 : decode cX5_oneDay 70 = .ok (.iload_n 3, 1) := by decide +kernel
theorem dX5_oneDay_71 : decode cX5_oneDay 71 = .ok (.ifCond .eq 7, 3) := by decide +kernel
theorem dX5_oneDay_74 : decode cX5_oneDay 74 = .ok (.iconst (-1), 1) := by decide +kernel
theorem dX5_oneDay_75 : decode cX5_oneDay 75 = .ok (.goto 19, 3) := by decide +kernel
theorem dX5_oneDay_78 : decode cX5_oneDay 78 = .ok (.iload 4, 2) := by decide +kernel
theorem dX5_oneDay_80 : decode cX5_oneDay 80 = .ok (.ifCond .eq 13, 3) := by decide +kernel
theorem dX5_oneDay_83 : decode cX5_oneDay 83 = .ok (.aload_n 0, 1) := by decide +kernel
theorem dX5_oneDay_84 : decode cX5_oneDay 84 = .ok (.getfield 19, 3) := by decide +kernel
theorem dX5_oneDay_87 : decode cX5_oneDay 87 = .ok (.iconst 0, 1) := by decide +kernel
theorem dX5_oneDay_88 : decode cX5_oneDay 88 = .ok (.iaload, 1) := by decide +kernel
theorem dX5_oneDay_89 : decode cX5_oneDay 89 = .ok (.ineg, 1) := by decide +kernel
theorem dX5_oneDay_90 : decode cX5_oneDay 90 = .ok (.goto 4, 3) := by decide +kernel
theorem dX5_oneDay_93 : decode cX5_oneDay 93 = .ok (.iload_n 2, 1) := by decide +kernel
theorem dX5_oneDay_94 : decode cX5_oneDay 94 = .ok (.iadd, 1) := by decide +kernel
theorem dX5_oneDay_95 : decode cX5_oneDay 95 = .ok (.istore 5, 2) := by decide +kernel
theorem dX5_oneDay_97 : decode cX5_oneDay 97 = .ok (.aload_n 0, 1) := by decide +kernel
theorem dX5_oneDay_98 : decode cX5_oneDay 98 = .ok (.dup, 1) := by decide +kernel
theorem dX5_oneDay_99 : decode cX5_oneDay 99 = .ok (.getfield 161, 3) := by decide +kernel
theorem dX5_oneDay_102 : decode cX5_oneDay 102 = .ok (.iload 4, 2) := by decide +kernel
theorem dX5_oneDay_104 : decode cX5_oneDay 104 = .ok (.ifCond .eq 9, 3) := by decide +kernel
theorem dX5_oneDay_107 : decode cX5_oneDay 107 = .ok (.iconst 1, 1) := by decide +kernel
theorem dX5_oneDay_108 : decode cX5_oneDay 108 = .ok (.iload_n 1, 1) := by decide +kernel
theorem dX5_oneDay_109 : decode cX5_oneDay 109 = .ok (.ishl, 1) := by decide +kernel
theorem dX5_oneDay_110 : decode cX5_oneDay 110 = .ok (.goto 4, 3) := by decide +kernel
theorem dX5_oneDay_113 : decode cX5_oneDay 113 = .ok (.iconst 0, 1) := by decide +kernel
theorem dX5_oneDay_114 : decode cX5_oneDay 114 = .ok (.ior, 1) := by decide +kernel
theorem dX5_oneDay_115 : decode cX5_oneDay 115 = .ok (.putfield 161, 3) := by decide +kernel
theorem dX5_oneDay_118 : decode cX5_oneDay 118 = .ok (.aload_n 0, 1) := by decide +kernel
theorem dX5_oneDay_119 : decode cX5_oneDay 119 = .ok (.getfield 19, 3) := by decide +kernel
theorem dX5_oneDay_122 : decode cX5_oneDay 122 = .ok (.bipush 6, 2) := by decide +kernel
theorem dX5_oneDay_124 : decode cX5_oneDay 124 = .ok (.iload_n 1, 1) := by decide +kernel
theorem dX5_oneDay_125 : decode cX5_oneDay 125 = .ok (.iadd, 1) := by decide +kernel
theorem dX5_oneDay_126 : decode cX5_oneDay 126 = .ok (.iload 5, 2) := by decide +kernel
theorem dX5_oneDay_128 : decode cX5_oneDay 128 = .ok (.ifCond .ge 7, 3) := by decide +kernel
theorem dX5_oneDay_131 : decode cX5_oneDay 131 = .ok (.iconst 0, 1) := by decide +kernel
theorem dX5_oneDay_132 : decode cX5_oneDay 132 = .ok (.goto 17, 3) := by decide +kernel
theorem dX5_oneDay_135 : decode cX5_oneDay 135 = .ok (.iload 5, 2) := by decide +kernel
theorem dX5_oneDay_137 : decode cX5_oneDay 137 = .ok (.bipush 99, 2) := by decide +kernel
theorem dX5_oneDay_139 : decode cX5_oneDay 139 = .ok (.if_icmp .le 8, 3) := by decide +kernel
theorem dX5_oneDay_142 : decode cX5_oneDay 142 = .ok (.bipush 99, 2) := by decide +kernel
theorem dX5_oneDay_144 : decode cX5_oneDay 144 = .ok (.goto 5, 3) := by decide +kernel
theorem dX5_oneDay_147 : decode cX5_oneDay 147 = .ok (.iload 5, 2) := by decide +kernel
theorem dX5_oneDay_149 : decode cX5_oneDay 149 = .ok (.iastore, 1) := by decide +kernel
theorem dX5_oneDay_150 : decode cX5_oneDay 150 = .ok (.iinc 1 1, 3) := by decide +kernel
theorem dX5_oneDay_153 : decode cX5_oneDay 153 = .ok (.goto (-146), 3) := by decide +kernel
theorem dX5_oneDay_156 : decode cX5_oneDay 156 = .ok (.iconst 0, 1) := by decide +kernel
theorem dX5_oneDay_157 : decode cX5_oneDay 157 = .ok (.istore_n 1, 1) := by decide +kernel
theorem dX5_oneDay_158 : decode cX5_oneDay 158 = .ok (.iload_n 1, 1) := by decide +kernel
theorem dX5_oneDay_159 : decode cX5_oneDay 159 = .ok (.aload_n 0, 1) := by decide +kernel
theorem dX5_oneDay_160 : decode cX5_oneDay 160 = .ok (.getfield 19, 3) := by decide +kernel
theorem dX5_oneDay_163 : decode cX5_oneDay 163 = .ok (.iconst 3, 1) := by decide +kernel
theorem dX5_oneDay_164 : decode cX5_oneDay 164 = .ok (.iaload, 1) := by decide +kernel
theorem dX5_oneDay_165 : decode cX5_oneDay 165 = .ok (.if_icmp .ge 45, 3) := by decide +kernel
theorem dX5_oneDay_168 : decode cX5_oneDay 168 = .ok (.aload_n 0, 1) := by decide +kernel
theorem dX5_oneDay_169 : decode cX5_oneDay 169 = .ok (.getfield 19, 3) := by decide +kernel
theorem dX5_oneDay_172 : decode cX5_oneDay 172 = .ok (.bipush 40, 2) := by decide +kernel
theorem dX5_oneDay_174 : decode cX5_oneDay 174 = .ok (.iconst 5, 1) := by decide +kernel
theorem dX5_oneDay_175 : decode cX5_oneDay 175 = .ok (.iload_n 1, 1) := by decide +kernel
theorem dX5_oneDay_176 : decode cX5_oneDay 176 = .ok (.imul, 1) := by decide +kernel
theorem dX5_oneDay_177 : decode cX5_oneDay 177 = .ok (.iadd, 1) := by decide +kernel
theorem dX5_oneDay_178 : decode cX5_oneDay 178 = .ok (.aload_n 0, 1) := by decide +kernel
theorem dX5_oneDay_179 : decode cX5_oneDay 179 = .ok (.iload_n 1, 1) := by decide +kernel
theorem dX5_oneDay_180 : decode cX5_oneDay 180 = .ok (.invokevirtual 142, 3) := by decide +kernel
theorem dX5_oneDay_183 : decode cX5_oneDay 183 = .ok (.iadd, 1) := by decide +kernel
theorem dX5_oneDay_184 : decode cX5_oneDay 184 = .ok (.dup2, 1) := by decide +kernel
theorem dX5_oneDay_185 : decode cX5_oneDay 185 = .ok (.iaload, 1) := by decide +kernel
theorem dX5_oneDay_186 : decode cX5_oneDay 186 = .ok (.aload_n 0, 1) := by decide +kernel
theorem dX5_oneDay_187 : decode cX5_oneDay 187 = .ok (.getfield 148, 3) := by decide +kernel
theorem dX5_oneDay_190 : decode cX5_oneDay 190 = .ok (.iload_n 1, 1) := by decide +kernel
theorem dX5_oneDay_191 : decode cX5_oneDay 191 = .ok (.invokestatic 151, 3) := by decide +kernel
theorem dX5_oneDay_194 : decode cX5_oneDay 194 = .ok (.ifCond .eq 7, 3) := by decide +kernel
theorem dX5_oneDay_197 : decode cX5_oneDay 197 = .ok (.iconst 0, 1) := by decide +kernel
theorem dX5_oneDay_198 : decode cX5_oneDay 198 = .ok (.goto 4, 3) := by decide +kernel
theorem dX5_oneDay_201 : decode cX5_oneDay 201 = .ok (.iconst 1, 1) := by decide +kernel
theorem dX5_oneDay_202 : decode cX5_oneDay 202 = .ok (.iadd, 1) := by decide +kernel
theorem dX5_oneDay_203 : decode cX5_oneDay 203 = .ok (.iastore, 1) := by decide +kernel
theorem dX5_oneDay_204 : decode cX5_oneDay 204 = .ok (.iinc 1 1, 3) := by decide +kernel
theorem dX5_oneDay_207 : decode cX5_oneDay 207 = .ok (.goto (-49), 3) := by decide +kernel
theorem dX5_oneDay_210 : decode cX5_oneDay 210 = .ok (.aload_n 0, 1) := by decide +kernel
theorem dX5_oneDay_211 : decode cX5_oneDay 211 = .ok (.getfield 19, 3) := by decide +kernel
theorem dX5_oneDay_214 : decode cX5_oneDay 214 = .ok (.iconst 4, 1) := by decide +kernel
theorem dX5_oneDay_215 : decode cX5_oneDay 215 = .ok (.dup2, 1) := by decide +kernel
theorem dX5_oneDay_216 : decode cX5_oneDay 216 = .ok (.iaload, 1) := by decide +kernel
theorem dX5_oneDay_217 : decode cX5_oneDay 217 = .ok (.iconst 1, 1) := by decide +kernel
theorem dX5_oneDay_218 : decode cX5_oneDay 218 = .ok (.iadd, 1) := by decide +kernel
theorem dX5_oneDay_219 : decode cX5_oneDay 219 = .ok (.iastore, 1) := by decide +kernel
theorem dX5_oneDay_220 : decode cX5_oneDay 220 = .ok (.return_, 1) := by decide +kernel
theorem dX5_sendTo_0 : decode cX5_sendTo 0 = .ok (.aload_n 0, 1) := by decide +kernel
theorem dX5_sendTo_1 : decode cX5_sendTo 1 = .ok (.getfield 19, 3) := by decide +kernel
theorem dX5_sendTo_4 : decode cX5_sendTo 4 = .ok (.bipush 22, 2) := by decide +kernel
theorem dX5_sendTo_6 : decode cX5_sendTo 6 = .ok (.iload_n 1, 1) := by decide +kernel
theorem dX5_sendTo_7 : decode cX5_sendTo 7 = .ok (.iadd, 1) := by decide +kernel
theorem dX5_sendTo_8 : decode cX5_sendTo 8 = .ok (.iload_n 2, 1) := by decide +kernel
theorem dX5_sendTo_9 : decode cX5_sendTo 9 = .ok (.iastore, 1) := by decide +kernel
theorem dX5_sendTo_10 : decode cX5_sendTo 10 = .ok (.iconst 0, 1) := by decide +kernel
theorem dX5_sendTo_11 : decode cX5_sendTo 11 = .ok (.istore_n 3, 1) := by decide +kernel
theorem dX5_sendTo_12 : decode cX5_sendTo 12 = .ok (.iload_n 3, 1) := by decide +kernel
theorem dX5_sendTo_13 : decode cX5_sendTo 13 = .ok (.iconst 5, 1) := by decide +kernel
theorem dX5_sendTo_14 : decode cX5_sendTo 14 = .ok (.if_icmp .ge 23, 3) := by decide +kernel
theorem dX5_sendTo_17 : decode cX5_sendTo 17 = .ok (.aload_n 0, 1) := by decide +kernel
theorem dX5_sendTo_18 : decode cX5_sendTo 18 = .ok (.getfield 19, 3) := by decide +kernel
theorem dX5_sendTo_21 : decode cX5_sendTo 21 = .ok (.bipush 40, 2) := by decide +kernel
theorem dX5_sendTo_23 : decode cX5_sendTo 23 = .ok (.iconst 5, 1) := by decide +kernel
theorem dX5_sendTo_24 : decode cX5_sendTo 24 = .ok (.iload_n 1, 1) := by decide +kernel
theorem dX5_sendTo_25 : decode cX5_sendTo 25 = .ok (.imul, 1) := by decide +kernel
theorem dX5_sendTo_26 : decode cX5_sendTo 26 = .ok (.iadd, 1) := by decide +kernel
theorem dX5_sendTo_27 : decode cX5_sendTo 27 = .ok (.iload_n 3, 1) := by decide +kernel
theorem dX5_sendTo_28 : decode cX5_sendTo 28 = .ok (.iadd, 1) := by decide +kernel
theorem dX5_sendTo_29 : decode cX5_sendTo 29 = .ok (.iconst 0, 1) := by decide +kernel
theorem dX5_sendTo_30 : decode cX5_sendTo 30 = .ok (.iastore, 1) := by decide +kernel
theorem dX5_sendTo_31 : decode cX5_sendTo 31 = .ok (.iinc 3 1, 3) := by decide +kernel
theorem dX5_sendTo_34 : decode cX5_sendTo 34 = .ok (.goto (-22), 3) := by decide +kernel
theorem dX5_sendTo_37 : decode cX5_sendTo 37 = .ok (.return_, 1) := by decide +kernel
theorem dX5_note_0 : decode cX5_note 0 = .ok (.aload_n 0, 1) := by decide +kernel
theorem dX5_note_1 : decode cX5_note 1 = .ok (.getfield 139, 3) := by decide +kernel
theorem dX5_note_4 : decode cX5_note 4 = .ok (.bipush 24, 2) := by decide +kernel
theorem dX5_note_6 : decode cX5_note 6 = .ok (.if_icmp .ne 43, 3) := by decide +kernel
theorem dX5_note_9 : decode cX5_note 9 = .ok (.iconst 0, 1) := by decide +kernel
theorem dX5_note_10 : decode cX5_note 10 = .ok (.istore_n 1, 1) := by decide +kernel
theorem dX5_note_11 : decode cX5_note 11 = .ok (.iload_n 1, 1) := by decide +kernel
theorem dX5_note_12 : decode cX5_note 12 = .ok (.sipush 1610, 3) := by decide +kernel
theorem dX5_note_15 : decode cX5_note 15 = .ok (.if_icmp .ge 24, 3) := by decide +kernel
theorem dX5_note_18 : decode cX5_note 18 = .ok (.aload_n 0, 1) := by decide +kernel
theorem dX5_note_19 : decode cX5_note 19 = .ok (.getfield 31, 3) := by decide +kernel
theorem dX5_note_22 : decode cX5_note 22 = .ok (.iload_n 1, 1) := by decide +kernel
theorem dX5_note_23 : decode cX5_note 23 = .ok (.aload_n 0, 1) := by decide +kernel
theorem dX5_note_24 : decode cX5_note 24 = .ok (.getfield 31, 3) := by decide +kernel
theorem dX5_note_27 : decode cX5_note 27 = .ok (.iload_n 1, 1) := by decide +kernel
theorem dX5_note_28 : decode cX5_note 28 = .ok (.bipush 70, 2) := by decide +kernel
theorem dX5_note_30 : decode cX5_note 30 = .ok (.iadd, 1) := by decide +kernel
theorem dX5_note_31 : decode cX5_note 31 = .ok (.iaload, 1) := by decide +kernel
theorem dX5_note_32 : decode cX5_note 32 = .ok (.iastore, 1) := by decide +kernel
theorem dX5_note_33 : decode cX5_note 33 = .ok (.iinc 1 1, 3) := by decide +kernel
theorem dX5_note_36 : decode cX5_note 36 = .ok (.goto (-25), 3) := by decide +kernel
theorem dX5_note_39 : decode cX5_note 39 = .ok (.aload_n 0, 1) := by decide +kernel
theorem dX5_note_40 : decode cX5_note 40 = .ok (.dup, 1) := by decide +kernel
theorem dX5_note_41 : decode cX5_note 41 = .ok (.getfield 139, 3) := by decide +kernel
theorem dX5_note_44 : decode cX5_note 44 = .ok (.iconst 1, 1) := by decide +kernel
theorem dX5_note_45 : decode cX5_note 45 = .ok (.isub, 1) := by decide +kernel
theorem dX5_note_46 : decode cX5_note 46 = .ok (.putfield 139, 3) := by decide +kernel
theorem dX5_note_49 : decode cX5_note 49 = .ok (.iconst 0, 1) := by decide +kernel
theorem dX5_note_50 : decode cX5_note 50 = .ok (.istore_n 1, 1) := by decide +kernel
theorem dX5_note_51 : decode cX5_note 51 = .ok (.iload_n 1, 1) := by decide +kernel
theorem dX5_note_52 : decode cX5_note 52 = .ok (.bipush 70, 2) := by decide +kernel
theorem dX5_note_54 : decode cX5_note 54 = .ok (.if_icmp .ge 29, 3) := by decide +kernel
theorem dX5_note_57 : decode cX5_note 57 = .ok (.aload_n 0, 1) := by decide +kernel
theorem dX5_note_58 : decode cX5_note 58 = .ok (.getfield 31, 3) := by decide +kernel
theorem dX5_note_61 : decode cX5_note 61 = .ok (.bipush 70, 2) := by decide +kernel
theorem dX5_note_63 : decode cX5_note 63 = .ok (.aload_n 0, 1) := by decide +kernel
theorem dX5_note_64 : decode cX5_note 64 = .ok (.getfield 139, 3) := by decide +kernel
theorem dX5_note_67 : decode cX5_note 67 = .ok (.imul, 1) := by decide +kernel
theorem dX5_note_68 : decode cX5_note 68 = .ok (.iload_n 1, 1) := by decide +kernel
theorem dX5_note_69 : decode cX5_note 69 = .ok (.iadd, 1) := by decide +kernel
theorem dX5_note_70 : decode cX5_note 70 = .ok (.aload_n 0, 1) := by decide +kernel
theorem dX5_note_71 : decode cX5_note 71 = .ok (.getfield 19, 3) := by decide +kernel
theorem dX5_note_74 : decode cX5_note 74 = .ok (.iload_n 1, 1) := by decide +kernel
theorem dX5_note_75 : decode cX5_note 75 = .ok (.iaload, 1) := by decide +kernel
theorem dX5_note_76 : decode cX5_note 76 = .ok (.iastore, 1) := by decide +kernel
theorem dX5_note_77 : decode cX5_note 77 = .ok (.iinc 1 1, 3) := by decide +kernel
theorem dX5_note_80 : decode cX5_note 80 = .ok (.goto (-29), 3) := by decide +kernel
theorem dX5_note_83 : decode cX5_note 83 = .ok (.aload_n 0, 1) := by decide +kernel
theorem dX5_note_84 : decode cX5_note 84 = .ok (.dup, 1) := by decide +kernel
theorem dX5_note_85 : decode cX5_note 85 = .ok (.getfield 139, 3) := by decide +kernel
theorem dX5_note_88 : decode cX5_note 88 = .ok (.iconst 1, 1) := by decide +kernel
theorem dX5_note_89 : decode cX5_note 89 = .ok (.iadd, 1) := by decide +kernel
theorem dX5_note_90 : decode cX5_note 90 = .ok (.putfield 139, 3) := by decide +kernel
theorem dX5_note_93 : decode cX5_note 93 = .ok (.return_, 1) := by decide +kernel
theorem dX5_undo_0 : decode cX5_undo 0 = .ok (.aload_n 0, 1) := by decide +kernel
theorem dX5_undo_1 : decode cX5_undo 1 = .ok (.getfield 139, 3) := by decide +kernel
theorem dX5_undo_4 : decode cX5_undo 4 = .ok (.ifCond .ne 6, 3) := by decide +kernel
theorem dX5_undo_7 : decode cX5_undo 7 = .ok (.ldc 167, 2) := by decide +kernel
theorem dX5_undo_9 : decode cX5_undo 9 = .ok (.ireturn, 1) := by decide +kernel
theorem dX5_undo_10 : decode cX5_undo 10 = .ok (.aload_n 0, 1) := by decide +kernel
theorem dX5_undo_11 : decode cX5_undo 11 = .ok (.dup, 1) := by decide +kernel
theorem dX5_undo_12 : decode cX5_undo 12 = .ok (.getfield 139, 3) := by decide +kernel
theorem dX5_undo_15 : decode cX5_undo 15 = .ok (.iconst 1, 1) := by decide +kernel
theorem dX5_undo_16 : decode cX5_undo 16 = .ok (.isub, 1) := by decide +kernel
theorem dX5_undo_17 : decode cX5_undo 17 = .ok (.putfield 139, 3) := by decide +kernel
theorem dX5_undo_20 : decode cX5_undo 20 = .ok (.iconst 0, 1) := by decide +kernel
theorem dX5_undo_21 : decode cX5_undo 21 = .ok (.istore_n 1, 1) := by decide +kernel
theorem dX5_undo_22 : decode cX5_undo 22 = .ok (.iload_n 1, 1) := by decide +kernel
theorem dX5_undo_23 : decode cX5_undo 23 = .ok (.bipush 70, 2) := by decide +kernel
theorem dX5_undo_25 : decode cX5_undo 25 = .ok (.if_icmp .ge 29, 3) := by decide +kernel
theorem dX5_undo_28 : decode cX5_undo 28 = .ok (.aload_n 0, 1) := by decide +kernel
theorem dX5_undo_29 : decode cX5_undo 29 = .ok (.getfield 19, 3) := by decide +kernel
theorem dX5_undo_32 : decode cX5_undo 32 = .ok (.iload_n 1, 1) := by decide +kernel
theorem dX5_undo_33 : decode cX5_undo 33 = .ok (.aload_n 0, 1) := by decide +kernel
theorem dX5_undo_34 : decode cX5_undo 34 = .ok (.getfield 31, 3) := by decide +kernel
theorem dX5_undo_37 : decode cX5_undo 37 = .ok (.bipush 70, 2) := by decide +kernel
theorem dX5_undo_39 : decode cX5_undo 39 = .ok (.aload_n 0, 1) := by decide +kernel
theorem dX5_undo_40 : decode cX5_undo 40 = .ok (.getfield 139, 3) := by decide +kernel
theorem dX5_undo_43 : decode cX5_undo 43 = .ok (.imul, 1) := by decide +kernel
theorem dX5_undo_44 : decode cX5_undo 44 = .ok (.iload_n 1, 1) := by decide +kernel
theorem dX5_undo_45 : decode cX5_undo 45 = .ok (.iadd, 1) := by decide +kernel
theorem dX5_undo_46 : decode cX5_undo 46 = .ok (.iaload, 1) := by decide +kernel
theorem dX5_undo_47 : decode cX5_undo 47 = .ok (.iastore, 1) := by decide +kernel
theorem dX5_undo_48 : decode cX5_undo 48 = .ok (.iinc 1 1, 3) := by decide +kernel
theorem dX5_undo_51 : decode cX5_undo 51 = .ok (.goto (-29), 3) := by decide +kernel
theorem dX5_undo_54 : decode cX5_undo 54 = .ok (.aload_n 0, 1) := by decide +kernel
theorem dX5_undo_55 : decode cX5_undo 55 = .ok (.getfield 139, 3) := by decide +kernel
theorem dX5_undo_58 : decode cX5_undo 58 = .ok (.ireturn, 1) := by decide +kernel
theorem dX5_days_0 : decode cX5_days 0 = .ok (.aload_n 0, 1) := by decide +kernel
theorem dX5_days_1 : decode cX5_days 1 = .ok (.getfield 135, 3) := by decide +kernel
theorem dX5_days_4 : decode cX5_days 4 = .ok (.ifCond .ne 6, 3) := by decide +kernel
theorem dX5_days_7 : decode cX5_days 7 = .ok (.ldc 167, 2) := by decide +kernel
theorem dX5_days_9 : decode cX5_days 9 = .ok (.ireturn, 1) := by decide +kernel
theorem dX5_days_10 : decode cX5_days 10 = .ok (.iload_n 1, 1) := by decide +kernel
theorem dX5_days_11 : decode cX5_days 11 = .ok (.i2l, 1) := by decide +kernel
theorem dX5_days_12 : decode cX5_days 12 = .ok (.lconst 1, 1) := by decide +kernel
theorem dX5_days_13 : decode cX5_days 13 = .ok (.ldc2_w 168, 3) := by decide +kernel
theorem dX5_days_16 : decode cX5_days 16 = .ok (.invokestatic 54, 3) := by decide +kernel
theorem dX5_days_19 : decode cX5_days 19 = .ok (.ifCond .ne 6, 3) := by decide +kernel
theorem dX5_days_22 : decode cX5_days 22 = .ok (.ldc 64, 2) := by decide +kernel
theorem dX5_days_24 : decode cX5_days 24 = .ok (.ireturn, 1) := by decide +kernel
theorem dX5_days_25 : decode cX5_days 25 = .ok (.aload_n 0, 1) := by decide +kernel
theorem dX5_days_26 : decode cX5_days 26 = .ok (.getfield 19, 3) := by decide +kernel
theorem dX5_days_29 : decode cX5_days 29 = .ok (.iconst 4, 1) := by decide +kernel
theorem dX5_days_30 : decode cX5_days 30 = .ok (.iaload, 1) := by decide +kernel
theorem dX5_days_31 : decode cX5_days 31 = .ok (.iload_n 1, 1) := by decide +kernel
theorem dX5_days_32 : decode cX5_days 32 = .ok (.iadd, 1) := by decide +kernel
theorem dX5_days_33 : decode cX5_days 33 = .ok (.sipush 999, 3) := by decide +kernel
theorem dX5_days_36 : decode cX5_days 36 = .ok (.if_icmp .le 6, 3) := by decide +kernel
theorem dX5_days_39 : decode cX5_days 39 = .ok (.ldc 81, 2) := by decide +kernel
theorem dX5_days_41 : decode cX5_days 41 = .ok (.ireturn, 1) := by decide +kernel
theorem dX5_days_42 : decode cX5_days 42 = .ok (.iconst 0, 1) := by decide +kernel
theorem dX5_days_43 : decode cX5_days 43 = .ok (.istore_n 2, 1) := by decide +kernel
theorem dX5_days_44 : decode cX5_days 44 = .ok (.iload_n 2, 1) := by decide +kernel
theorem dX5_days_45 : decode cX5_days 45 = .ok (.iload_n 1, 1) := by decide +kernel
theorem dX5_days_46 : decode cX5_days 46 = .ok (.if_icmp .ge 17, 3) := by decide +kernel
theorem dX5_days_49 : decode cX5_days 49 = .ok (.aload_n 0, 1) := by decide +kernel
theorem dX5_days_50 : decode cX5_days 50 = .ok (.invokevirtual 170, 3) := by decide +kernel
theorem dX5_days_53 : decode cX5_days 53 = .ok (.aload_n 0, 1) := by decide +kernel
theorem dX5_days_54 : decode cX5_days 54 = .ok (.invokevirtual 173, 3) := by decide +kernel
theorem dX5_days_57 : decode cX5_days 57 = .ok (.iinc 2 1, 3) := by decide +kernel
theorem dX5_days_60 : decode cX5_days 60 = .ok (.goto (-16), 3) := by decide +kernel
theorem dX5_days_63 : decode cX5_days 63 = .ok (.aload_n 0, 1) := by decide +kernel
theorem dX5_days_64 : decode cX5_days 64 = .ok (.invokevirtual 176, 3) := by decide +kernel
theorem dX5_days_67 : decode cX5_days 67 = .ok (.ireturn, 1) := by decide +kernel
theorem dX5_send_0 : decode cX5_send 0 = .ok (.aload_n 0, 1) := by decide +kernel
theorem dX5_send_1 : decode cX5_send 1 = .ok (.iload_n 1, 1) := by decide +kernel
theorem dX5_send_2 : decode cX5_send 2 = .ok (.invokevirtual 180, 3) := by decide +kernel
theorem dX5_send_5 : decode cX5_send 5 = .ok (.ifCond .eq 11, 3) := by decide +kernel
theorem dX5_send_8 : decode cX5_send 8 = .ok (.aload_n 0, 1) := by decide +kernel
theorem dX5_send_9 : decode cX5_send 9 = .ok (.iload_n 2, 1) := by decide +kernel
theorem dX5_send_10 : decode cX5_send 10 = .ok (.invokevirtual 183, 3) := by decide +kernel
theorem dX5_send_13 : decode cX5_send 13 = .ok (.ifCond .ne 6, 3) := by decide +kernel
theorem dX5_send_16 : decode cX5_send 16 = .ok (.ldc 64, 2) := by decide +kernel
theorem dX5_send_18 : decode cX5_send 18 = .ok (.ireturn, 1) := by decide +kernel
theorem dX5_send_19 : decode cX5_send 19 = .ok (.aload_n 0, 1) := by decide +kernel
theorem dX5_send_20 : decode cX5_send 20 = .ok (.invokevirtual 170, 3) := by decide +kernel
theorem dX5_send_23 : decode cX5_send 23 = .ok (.aload_n 0, 1) := by decide +kernel
theorem dX5_send_24 : decode cX5_send 24 = .ok (.getfield 19, 3) := by decide +kernel
theorem dX5_send_27 : decode cX5_send 27 = .ok (.bipush 22, 2) := by decide +kernel
theorem dX5_send_29 : decode cX5_send 29 = .ok (.iload_n 1, 1) := by decide +kernel
theorem dX5_send_30 : decode cX5_send 30 = .ok (.iadd, 1) := by decide +kernel
theorem dX5_send_31 : decode cX5_send 31 = .ok (.iaload, 1) := by decide +kernel
theorem dX5_send_32 : decode cX5_send 32 = .ok (.istore_n 3, 1) := by decide +kernel
theorem dX5_send_33 : decode cX5_send 33 = .ok (.aload_n 0, 1) := by decide +kernel
theorem dX5_send_34 : decode cX5_send 34 = .ok (.iload_n 1, 1) := by decide +kernel
theorem dX5_send_35 : decode cX5_send 35 = .ok (.iload_n 2, 1) := by decide +kernel
theorem dX5_send_36 : decode cX5_send 36 = .ok (.invokevirtual 186, 3) := by decide +kernel
theorem dX5_send_39 : decode cX5_send 39 = .ok (.iload_n 3, 1) := by decide +kernel
theorem dX5_send_40 : decode cX5_send 40 = .ok (.ireturn, 1) := by decide +kernel
theorem dX5_weight_0 : decode cX5_weight 0 = .ok (.aload_n 0, 1) := by decide +kernel
theorem dX5_weight_1 : decode cX5_weight 1 = .ok (.iload_n 1, 1) := by decide +kernel
theorem dX5_weight_2 : decode cX5_weight 2 = .ok (.invokevirtual 180, 3) := by decide +kernel
theorem dX5_weight_5 : decode cX5_weight 5 = .ok (.ifCond .eq 15, 3) := by decide +kernel
theorem dX5_weight_8 : decode cX5_weight 8 = .ok (.iload_n 2, 1) := by decide +kernel
theorem dX5_weight_9 : decode cX5_weight 9 = .ok (.i2l, 1) := by decide +kernel
theorem dX5_weight_10 : decode cX5_weight 10 = .ok (.lconst 1, 1) := by decide +kernel
theorem dX5_weight_11 : decode cX5_weight 11 = .ok (.ldc2_w 190, 3) := by decide +kernel
theorem dX5_weight_14 : decode cX5_weight 14 = .ok (.invokestatic 54, 3) := by decide +kernel
theorem dX5_weight_17 : decode cX5_weight 17 = .ok (.ifCond .ne 6, 3) := by decide +kernel
theorem dX5_weight_20 : decode cX5_weight 20 = .ok (.ldc 64, 2) := by decide +kernel
theorem dX5_weight_22 : decode cX5_weight 22 = .ok (.ireturn, 1) := by decide +kernel
theorem dX5_weight_23 : decode cX5_weight 23 = .ok (.aload_n 0, 1) := by decide +kernel
theorem dX5_weight_24 : decode cX5_weight 24 = .ok (.invokevirtual 170, 3) := by decide +kernel
theorem dX5_weight_27 : decode cX5_weight 27 = .ok (.aload_n 0, 1) := by decide +kernel
theorem dX5_weight_28 : decode cX5_weight 28 = .ok (.getfield 19, 3) := by decide +kernel
theorem dX5_weight_31 : decode cX5_weight 31 = .ok (.bipush 28, 2) := by decide +kernel
theorem dX5_weight_33 : decode cX5_weight 33 = .ok (.iload_n 1, 1) := by decide +kernel
theorem dX5_weight_34 : decode cX5_weight 34 = .ok (.iadd, 1) := by decide +kernel
theorem dX5_weight_35 : decode cX5_weight 35 = .ok (.iaload, 1) := by decide +kernel
theorem dX5_weight_36 : decode cX5_weight 36 = .ok (.istore_n 3, 1) := by decide +kernel
theorem dX5_weight_37 : decode cX5_weight 37 = .ok (.aload_n 0, 1) := by decide +kernel
theorem dX5_weight_38 : decode cX5_weight 38 = .ok (.getfield 19, 3) := by decide +kernel
theorem dX5_weight_41 : decode cX5_weight 41 = .ok (.bipush 28, 2) := by decide +kernel
theorem dX5_weight_43 : decode cX5_weight 43 = .ok (.iload_n 1, 1) := by decide +kernel
theorem dX5_weight_44 : decode cX5_weight 44 = .ok (.iadd, 1) := by decide +kernel
theorem dX5_weight_45 : decode cX5_weight 45 = .ok (.iload_n 2, 1) := by decide +kernel
theorem dX5_weight_46 : decode cX5_weight 46 = .ok (.iastore, 1) := by decide +kernel
theorem dX5_weight_47 : decode cX5_weight 47 = .ok (.iload_n 3, 1) := by decide +kernel
theorem dX5_weight_48 : decode cX5_weight 48 = .ok (.ireturn, 1) := by decide +kernel
theorem dX5_bar_0 : decode cX5_bar 0 = .ok (.aload_n 0, 1) := by decide +kernel
theorem dX5_bar_1 : decode cX5_bar 1 = .ok (.iload_n 1, 1) := by decide +kernel
theorem dX5_bar_2 : decode cX5_bar 2 = .ok (.invokevirtual 183, 3) := by decide +kernel
theorem dX5_bar_5 : decode cX5_bar 5 = .ok (.ifCond .eq 13, 3) := by decide +kernel
theorem dX5_bar_8 : decode cX5_bar 8 = .ok (.iload_n 2, 1) := by decide +kernel
theorem dX5_bar_9 : decode cX5_bar 9 = .ok (.i2l, 1) := by decide +kernel
theorem dX5_bar_10 : decode cX5_bar 10 = .ok (.lconst 0, 1) := by decide +kernel
theorem dX5_bar_11 : decode cX5_bar 11 = .ok (.lconst 1, 1) := by decide +kernel
theorem dX5_bar_12 : decode cX5_bar 12 = .ok (.invokestatic 54, 3) := by decide +kernel
theorem dX5_bar_15 : decode cX5_bar 15 = .ok (.ifCond .ne 6, 3) := by decide +kernel
theorem dX5_bar_18 : decode cX5_bar 18 = .ok (.ldc 64, 2) := by decide +kernel
theorem dX5_bar_20 : decode cX5_bar 20 = .ok (.ireturn, 1) := by decide +kernel
theorem dX5_bar_21 : decode cX5_bar 21 = .ok (.aload_n 0, 1) := by decide +kernel
theorem dX5_bar_22 : decode cX5_bar 22 = .ok (.getfield 19, 3) := by decide +kernel
theorem dX5_bar_25 : decode cX5_bar 25 = .ok (.iconst 5, 1) := by decide +kernel
theorem dX5_bar_26 : decode cX5_bar 26 = .ok (.iaload, 1) := by decide +kernel
theorem dX5_bar_27 : decode cX5_bar 27 = .ok (.iload_n 1, 1) := by decide +kernel
theorem dX5_bar_28 : decode cX5_bar 28 = .ok (.invokestatic 151, 3) := by decide +kernel
theorem dX5_bar_31 : decode cX5_bar 31 = .ok (.iload_n 2, 1) := by decide +kernel
theorem dX5_bar_32 : decode cX5_bar 32 = .ok (.iconst 1, 1) := by decide +kernel
theorem dX5_bar_33 : decode cX5_bar 33 = .ok (.if_icmp .ne 7, 3) := by decide +kernel
theorem dX5_bar_36 : decode cX5_bar 36 = .ok (.iconst 1, 1) := by decide +kernel
theorem dX5_bar_37 : decode cX5_bar 37 = .ok (.goto 4, 3) := by decide +kernel
theorem dX5_bar_40 : decode cX5_bar 40 = .ok (.iconst 0, 1) := by decide +kernel
theorem dX5_bar_41 : decode cX5_bar 41 = .ok (.if_icmp .ne 6, 3) := by decide +kernel
theorem dX5_bar_44 : decode cX5_bar 44 = .ok (.ldc 167, 2) := by decide +kernel
theorem dX5_bar_46 : decode cX5_bar 46 = .ok (.ireturn, 1) := by decide +kernel
theorem dX5_bar_47 : decode cX5_bar 47 = .ok (.aload_n 0, 1) := by decide +kernel
theorem dX5_bar_48 : decode cX5_bar 48 = .ok (.invokevirtual 170, 3) := by decide +kernel
theorem dX5_bar_51 : decode cX5_bar 51 = .ok (.aload_n 0, 1) := by decide +kernel
theorem dX5_bar_52 : decode cX5_bar 52 = .ok (.getfield 19, 3) := by decide +kernel
theorem dX5_bar_55 : decode cX5_bar 55 = .ok (.iconst 5, 1) := by decide +kernel
theorem dX5_bar_56 : decode cX5_bar 56 = .ok (.dup2, 1) := by decide +kernel
theorem dX5_bar_57 : decode cX5_bar 57 = .ok (.iaload, 1) := by decide +kernel
theorem dX5_bar_58 : decode cX5_bar 58 = .ok (.iconst 1, 1) := by decide +kernel
theorem dX5_bar_59 : decode cX5_bar 59 = .ok (.iload_n 1, 1) := by decide +kernel
theorem dX5_bar_60 : decode cX5_bar 60 = .ok (.ishl, 1) := by decide +kernel
theorem dX5_bar_61 : decode cX5_bar 61 = .ok (.ixor, 1) := by decide +kernel
theorem dX5_bar_62 : decode cX5_bar 62 = .ok (.iastore, 1) := by decide +kernel
theorem dX5_bar_63 : decode cX5_bar 63 = .ok (.aload_n 0, 1) := by decide +kernel
theorem dX5_bar_64 : decode cX5_bar 64 = .ok (.getfield 19, 3) := by decide +kernel
theorem dX5_bar_67 : decode cX5_bar 67 = .ok (.iconst 5, 1) := by decide +kernel
theorem dX5_bar_68 : decode cX5_bar 68 = .ok (.iaload, 1) := by decide +kernel
theorem dX5_bar_69 : decode cX5_bar 69 = .ok (.ireturn, 1) := by decide +kernel
theorem dX5_patience_0 : decode cX5_patience 0 = .ok (.aload_n 0, 1) := by decide +kernel
theorem dX5_patience_1 : decode cX5_patience 1 = .ok (.iload_n 1, 1) := by decide +kernel
theorem dX5_patience_2 : decode cX5_patience 2 = .ok (.invokevirtual 183, 3) := by decide +kernel
theorem dX5_patience_5 : decode cX5_patience 5 = .ok (.ifCond .eq 15, 3) := by decide +kernel
theorem dX5_patience_8 : decode cX5_patience 8 = .ok (.iload_n 2, 1) := by decide +kernel
theorem dX5_patience_9 : decode cX5_patience 9 = .ok (.i2l, 1) := by decide +kernel
theorem dX5_patience_10 : decode cX5_patience 10 = .ok (.lconst 0, 1) := by decide +kernel
theorem dX5_patience_11 : decode cX5_patience 11 = .ok (.ldc2_w 190, 3) := by decide +kernel
theorem dX5_patience_14 : decode cX5_patience 14 = .ok (.invokestatic 54, 3) := by decide +kernel
theorem dX5_patience_17 : decode cX5_patience 17 = .ok (.ifCond .ne 6, 3) := by decide +kernel
theorem dX5_patience_20 : decode cX5_patience 20 = .ok (.ldc 64, 2) := by decide +kernel
theorem dX5_patience_22 : decode cX5_patience 22 = .ok (.ireturn, 1) := by decide +kernel
theorem dX5_patience_23 : decode cX5_patience 23 = .ok (.aload_n 0, 1) := by decide +kernel
theorem dX5_patience_24 : decode cX5_patience 24 = .ok (.invokevirtual 170, 3) := by decide +kernel
theorem dX5_patience_27 : decode cX5_patience 27 = .ok (.aload_n 0, 1) := by decide +kernel
theorem dX5_patience_28 : decode cX5_patience 28 = .ok (.getfield 19, 3) := by decide +kernel
theorem dX5_patience_31 : decode cX5_patience 31 = .ok (.bipush 11, 2) := by decide +kernel
theorem dX5_patience_33 : decode cX5_patience 33 = .ok (.iload_n 1, 1) := by decide +kernel
theorem dX5_patience_34 : decode cX5_patience 34 = .ok (.iadd, 1) := by decide +kernel
theorem dX5_patience_35 : decode cX5_patience 35 = .ok (.iaload, 1) := by decide +kernel
theorem dX5_patience_36 : decode cX5_patience 36 = .ok (.istore_n 3, 1) := by decide +kernel
theorem dX5_patience_37 : decode cX5_patience 37 = .ok (.aload_n 0, 1) := by decide +kernel
theorem dX5_patience_38 : decode cX5_patience 38 = .ok (.getfield 19, 3) := by decide +kernel
theorem dX5_patience_41 : decode cX5_patience 41 = .ok (.bipush 11, 2) := by decide +kernel
theorem dX5_patience_43 : decode cX5_patience 43 = .ok (.iload_n 1, 1) := by decide +kernel
theorem dX5_patience_44 : decode cX5_patience 44 = .ok (.iadd, 1) := by decide +kernel
theorem dX5_patience_45 : decode cX5_patience 45 = .ok (.iload_n 2, 1) := by decide +kernel
theorem dX5_patience_46 : decode cX5_patience 46 = .ok (.iastore, 1) := by decide +kernel
theorem dX5_patience_47 : decode cX5_patience 47 = .ok (.iload_n 3, 1) := by decide +kernel
theorem dX5_patience_48 : decode cX5_patience 48 = .ok (.ireturn, 1) := by decide +kernel
theorem dX5_leaver_0 : decode cX5_leaver 0 = .ok (.aload_n 0, 1) := by decide +kernel
theorem dX5_leaver_1 : decode cX5_leaver 1 = .ok (.iload_n 1, 1) := by decide +kernel
theorem dX5_leaver_2 : decode cX5_leaver 2 = .ok (.invokevirtual 180, 3) := by decide +kernel
theorem dX5_leaver_5 : decode cX5_leaver 5 = .ok (.ifCond .ne 6, 3) := by decide +kernel
theorem dX5_leaver_8 : decode cX5_leaver 8 = .ok (.ldc 64, 2) := by decide +kernel
theorem dX5_leaver_10 : decode cX5_leaver 10 = .ok (.ireturn, 1) := by decide +kernel
theorem dX5_leaver_11 : decode cX5_leaver 11 = .ok (.iload_n 2, 1) := by decide +kernel
theorem dX5_leaver_12 : decode cX5_leaver 12 = .ok (.tableswitch 88 0 5 #[40, 50, 60, 70, 76, 82], 40) := by decide +kernel
theorem dX5_leaver_52 : decode cX5_leaver 52 = .ok (.aload_n 0, 1) := by decide +kernel
theorem dX5_leaver_53 : decode cX5_leaver 53 = .ok (.getfield 19, 3) := by decide +kernel
theorem dX5_leaver_56 : decode cX5_leaver 56 = .ok (.bipush 22, 2) := by decide +kernel
theorem dX5_leaver_58 : decode cX5_leaver 58 = .ok (.iload_n 1, 1) := by decide +kernel
theorem dX5_leaver_59 : decode cX5_leaver 59 = .ok (.iadd, 1) := by decide +kernel
theorem dX5_leaver_60 : decode cX5_leaver 60 = .ok (.iaload, 1) := by decide +kernel
theorem dX5_leaver_61 : decode cX5_leaver 61 = .ok (.ireturn, 1) := by decide +kernel
theorem dX5_leaver_62 : decode cX5_leaver 62 = .ok (.aload_n 0, 1) := by decide +kernel
theorem dX5_leaver_63 : decode cX5_leaver 63 = .ok (.getfield 19, 3) := by decide +kernel
theorem dX5_leaver_66 : decode cX5_leaver 66 = .ok (.bipush 28, 2) := by decide +kernel
theorem dX5_leaver_68 : decode cX5_leaver 68 = .ok (.iload_n 1, 1) := by decide +kernel
theorem dX5_leaver_69 : decode cX5_leaver 69 = .ok (.iadd, 1) := by decide +kernel
theorem dX5_leaver_70 : decode cX5_leaver 70 = .ok (.iaload, 1) := by decide +kernel
theorem dX5_leaver_71 : decode cX5_leaver 71 = .ok (.ireturn, 1) := by decide +kernel
theorem dX5_leaver_72 : decode cX5_leaver 72 = .ok (.aload_n 0, 1) := by decide +kernel
theorem dX5_leaver_73 : decode cX5_leaver 73 = .ok (.getfield 19, 3) := by decide +kernel
theorem dX5_leaver_76 : decode cX5_leaver 76 = .ok (.bipush 34, 2) := by decide +kernel
theorem dX5_leaver_78 : decode cX5_leaver 78 = .ok (.iload_n 1, 1) := by decide +kernel
theorem dX5_leaver_79 : decode cX5_leaver 79 = .ok (.iadd, 1) := by decide +kernel
theorem dX5_leaver_80 : decode cX5_leaver 80 = .ok (.iaload, 1) := by decide +kernel
theorem dX5_leaver_81 : decode cX5_leaver 81 = .ok (.ireturn, 1) := by decide +kernel
theorem dX5_leaver_82 : decode cX5_leaver 82 = .ok (.aload_n 0, 1) := by decide +kernel
theorem dX5_leaver_83 : decode cX5_leaver 83 = .ok (.iload_n 1, 1) := by decide +kernel
theorem dX5_leaver_84 : decode cX5_leaver 84 = .ok (.invokevirtual 142, 3) := by decide +kernel
theorem dX5_leaver_87 : decode cX5_leaver 87 = .ok (.ireturn, 1) := by decide +kernel
theorem dX5_leaver_88 : decode cX5_leaver 88 = .ok (.aload_n 0, 1) := by decide +kernel
theorem dX5_leaver_89 : decode cX5_leaver 89 = .ok (.iload_n 1, 1) := by decide +kernel
theorem dX5_leaver_90 : decode cX5_leaver 90 = .ok (.invokevirtual 158, 3) := by decide +kernel
theorem dX5_leaver_93 : decode cX5_leaver 93 = .ok (.ireturn, 1) := by decide +kernel
theorem dX5_leaver_94 : decode cX5_leaver 94 = .ok (.aload_n 0, 1) := by decide +kernel
theorem dX5_leaver_95 : decode cX5_leaver 95 = .ok (.iload_n 1, 1) := by decide +kernel
theorem dX5_leaver_96 : decode cX5_leaver 96 = .ok (.invokevirtual 145, 3) := by decide +kernel
theorem dX5_leaver_99 : decode cX5_leaver 99 = .ok (.ireturn, 1) := by decide +kernel
theorem dX5_leaver_100 : decode cX5_leaver 100 = .ok (.ldc 64, 2) := by decide +kernel
theorem dX5_leaver_102 : decode cX5_leaver 102 = .ok (.ireturn, 1) := by decide +kernel
theorem dX5_man_0 : decode cX5_man 0 = .ok (.aload_n 0, 1) := by decide +kernel
theorem dX5_man_1 : decode cX5_man 1 = .ok (.iload_n 1, 1) := by decide +kernel
theorem dX5_man_2 : decode cX5_man 2 = .ok (.invokevirtual 183, 3) := by decide +kernel
theorem dX5_man_5 : decode cX5_man 5 = .ok (.ifCond .ne 6, 3) := by decide +kernel
theorem dX5_man_8 : decode cX5_man 8 = .ok (.ldc 64, 2) := by decide +kernel
theorem dX5_man_10 : decode cX5_man 10 = .ok (.ireturn, 1) := by decide +kernel
theorem dX5_man_11 : decode cX5_man 11 = .ok (.iload_n 2, 1) := by decide +kernel
theorem dX5_man_12 : decode cX5_man 12 = .ok (.tableswitch 87 0 4 #[36, 46, 56, 75, 81], 36) := by decide +kernel
theorem dX5_man_48 : decode cX5_man 48 = .ok (.aload_n 0, 1) := by decide +kernel
theorem dX5_man_49 : decode cX5_man 49 = .ok (.getfield 19, 3) := by decide +kernel
theorem dX5_man_52 : decode cX5_man 52 = .ok (.bipush 6, 2) := by decide +kernel
theorem dX5_man_54 : decode cX5_man 54 = .ok (.iload_n 1, 1) := by decide +kernel
theorem dX5_man_55 : decode cX5_man 55 = .ok (.iadd, 1) := by decide +kernel
theorem dX5_man_56 : decode cX5_man 56 = .ok (.iaload, 1) := by decide +kernel
theorem dX5_man_57 : decode cX5_man 57 = .ok (.ireturn, 1) := by decide +kernel
theorem dX5_man_58 : decode cX5_man 58 = .ok (.aload_n 0, 1) := by decide +kernel
theorem dX5_man_59 : decode cX5_man 59 = .ok (.getfield 19, 3) := by decide +kernel
theorem dX5_man_62 : decode cX5_man 62 = .ok (.bipush 11, 2) := by decide +kernel
theorem dX5_man_64 : decode cX5_man 64 = .ok (.iload_n 1, 1) := by decide +kernel
theorem dX5_man_65 : decode cX5_man 65 = .ok (.iadd, 1) := by decide +kernel
theorem dX5_man_66 : decode cX5_man 66 = .ok (.iaload, 1) := by decide +kernel
theorem dX5_man_67 : decode cX5_man 67 = .ok (.ireturn, 1) := by decide +kernel
theorem dX5_man_68 : decode cX5_man 68 = .ok (.aload_n 0, 1) := by decide +kernel
theorem dX5_man_69 : decode cX5_man 69 = .ok (.getfield 19, 3) := by decide +kernel
theorem dX5_man_72 : decode cX5_man 72 = .ok (.iconst 5, 1) := by decide +kernel
theorem dX5_man_73 : decode cX5_man 73 = .ok (.iaload, 1) := by decide +kernel
theorem dX5_man_74 : decode cX5_man 74 = .ok (.iload_n 1, 1) := by decide +kernel
theorem dX5_man_75 : decode cX5_man 75 = .ok (.invokestatic 151, 3) := by decide +kernel
theorem dX5_man_78 : decode cX5_man 78 = .ok (.ifCond .eq 7, 3) := by decide +kernel
theorem dX5_man_81 : decode cX5_man 81 = .ok (.iconst 1, 1) := by decide +kernel
theorem dX5_man_82 : decode cX5_man 82 = .ok (.goto 4, 3) := by decide +kernel
theorem dX5_man_85 : decode cX5_man 85 = .ok (.iconst 0, 1) := by decide +kernel
theorem dX5_man_86 : decode cX5_man 86 = .ok (.ireturn, 1) := by decide +kernel
theorem dX5_man_87 : decode cX5_man 87 = .ok (.aload_n 0, 1) := by decide +kernel
theorem dX5_man_88 : decode cX5_man 88 = .ok (.iload_n 1, 1) := by decide +kernel
theorem dX5_man_89 : decode cX5_man 89 = .ok (.invokevirtual 155, 3) := by decide +kernel
theorem dX5_man_92 : decode cX5_man 92 = .ok (.ireturn, 1) := by decide +kernel
theorem dX5_man_93 : decode cX5_man 93 = .ok (.aload_n 0, 1) := by decide +kernel
theorem dX5_man_94 : decode cX5_man 94 = .ok (.iload_n 1, 1) := by decide +kernel
theorem dX5_man_95 : decode cX5_man 95 = .ok (.invokevirtual 164, 3) := by decide +kernel
theorem dX5_man_98 : decode cX5_man 98 = .ok (.ireturn, 1) := by decide +kernel
theorem dX5_man_99 : decode cX5_man 99 = .ok (.ldc 64, 2) := by decide +kernel
theorem dX5_man_101 : decode cX5_man 101 = .ok (.ireturn, 1) := by decide +kernel
theorem dX5_putAside_0 : decode cX5_putAside 0 = .ok (.iconst 0, 1) := by decide +kernel
theorem dX5_putAside_1 : decode cX5_putAside 1 = .ok (.istore_n 1, 1) := by decide +kernel
theorem dX5_putAside_2 : decode cX5_putAside 2 = .ok (.iload_n 1, 1) := by decide +kernel
theorem dX5_putAside_3 : decode cX5_putAside 3 = .ok (.bipush 70, 2) := by decide +kernel
theorem dX5_putAside_5 : decode cX5_putAside 5 = .ok (.if_icmp .ge 21, 3) := by decide +kernel
theorem dX5_putAside_8 : decode cX5_putAside 8 = .ok (.aload_n 0, 1) := by decide +kernel
theorem dX5_putAside_9 : decode cX5_putAside 9 = .ok (.getfield 34, 3) := by decide +kernel
theorem dX5_putAside_12 : decode cX5_putAside 12 = .ok (.iload_n 1, 1) := by decide +kernel
theorem dX5_putAside_13 : decode cX5_putAside 13 = .ok (.aload_n 0, 1) := by decide +kernel
theorem dX5_putAside_14 : decode cX5_putAside 14 = .ok (.getfield 19, 3) := by decide +kernel
theorem dX5_putAside_17 : decode cX5_putAside 17 = .ok (.iload_n 1, 1) := by decide +kernel
theorem dX5_putAside_18 : decode cX5_putAside 18 = .ok (.iaload, 1) := by decide +kernel
theorem dX5_putAside_19 : decode cX5_putAside 19 = .ok (.iastore, 1) := by decide +kernel
theorem dX5_putAside_20 : decode cX5_putAside 20 = .ok (.iinc 1 1, 3) := by decide +kernel
theorem dX5_putAside_23 : decode cX5_putAside 23 = .ok (.goto (-21), 3) := by decide +kernel
theorem dX5_putAside_26 : decode cX5_putAside 26 = .ok (.return_, 1) := by decide +kernel
theorem dX5_takeBack_0 : decode cX5_takeBack 0 = .ok (.iconst 0, 1) := by decide +kernel
theorem dX5_takeBack_1 : decode cX5_takeBack 1 = .ok (.istore_n 1, 1) := by decide +kernel
theorem dX5_takeBack_2 : decode cX5_takeBack 2 = .ok (.iload_n 1, 1) := by decide +kernel
theorem dX5_takeBack_3 : decode cX5_takeBack 3 = .ok (.bipush 70, 2) := by decide +kernel
theorem dX5_takeBack_5 : decode cX5_takeBack 5 = .ok (.if_icmp .ge 21, 3) := by decide +kernel
theorem dX5_takeBack_8 : decode cX5_takeBack 8 = .ok (.aload_n 0, 1) := by decide +kernel
theorem dX5_takeBack_9 : decode cX5_takeBack 9 = .ok (.getfield 19, 3) := by decide +kernel
theorem dX5_takeBack_12 : decode cX5_takeBack 12 = .ok (.iload_n 1, 1) := by decide +kernel
theorem dX5_takeBack_13 : decode cX5_takeBack 13 = .ok (.aload_n 0, 1) := by decide +kernel
theorem dX5_takeBack_14 : decode cX5_takeBack 14 = .ok (.getfield 34, 3) := by decide +kernel
theorem dX5_takeBack_17 : decode cX5_takeBack 17 = .ok (.iload_n 1, 1) := by decide +kernel
theorem dX5_takeBack_18 : decode cX5_takeBack 18 = .ok (.iaload, 1) := by decide +kernel
theorem dX5_takeBack_19 : decode cX5_takeBack 19 = .ok (.iastore, 1) := by decide +kernel
theorem dX5_takeBack_20 : decode cX5_takeBack 20 = .ok (.iinc 1 1, 3) := by decide +kernel
theorem dX5_takeBack_23 : decode cX5_takeBack 23 = .ok (.goto (-21), 3) := by decide +kernel
theorem dX5_takeBack_26 : decode cX5_takeBack 26 = .ok (.return_, 1) := by decide +kernel
theorem dX5_goOn_0 : decode cX5_goOn 0 = .ok (.iconst 0, 1) := by decide +kernel
theorem dX5_goOn_1 : decode cX5_goOn 1 = .ok (.istore_n 2, 1) := by decide +kernel
theorem dX5_goOn_2 : decode cX5_goOn 2 = .ok (.iload_n 2, 1) := by decide +kernel
theorem dX5_goOn_3 : decode cX5_goOn 3 = .ok (.iload_n 1, 1) := by decide +kernel
theorem dX5_goOn_4 : decode cX5_goOn 4 = .ok (.if_icmp .ge 13, 3) := by decide +kernel
theorem dX5_goOn_7 : decode cX5_goOn 7 = .ok (.aload_n 0, 1) := by decide +kernel
theorem dX5_goOn_8 : decode cX5_goOn 8 = .ok (.invokevirtual 173, 3) := by decide +kernel
theorem dX5_goOn_11 : decode cX5_goOn 11 = .ok (.iinc 2 1, 3) := by decide +kernel
theorem dX5_goOn_14 : decode cX5_goOn 14 = .ok (.goto (-12), 3) := by decide +kernel
theorem dX5_goOn_17 : decode cX5_goOn 17 = .ok (.return_, 1) := by decide +kernel
theorem dX5_isWhat_0 : decode cX5_isWhat 0 = .ok (.iload_n 0, 1) := by decide +kernel
theorem dX5_isWhat_1 : decode cX5_isWhat 1 = .ok (.i2l, 1) := by decide +kernel
theorem dX5_isWhat_2 : decode cX5_isWhat 2 = .ok (.lconst 0, 1) := by decide +kernel
theorem dX5_isWhat_3 : decode cX5_isWhat 3 = .ok (.lconst 1, 1) := by decide +kernel
theorem dX5_isWhat_4 : decode cX5_isWhat 4 = .ok (.invokestatic 54, 3) := by decide +kernel
theorem dX5_isWhat_7 : decode cX5_isWhat 7 = .ok (.ireturn, 1) := by decide +kernel
theorem dX5_ahead_0 : decode cX5_ahead 0 = .ok (.aload_n 0, 1) := by decide +kernel
theorem dX5_ahead_1 : decode cX5_ahead 1 = .ok (.iload_n 1, 1) := by decide +kernel
theorem dX5_ahead_2 : decode cX5_ahead 2 = .ok (.invokevirtual 183, 3) := by decide +kernel
theorem dX5_ahead_5 : decode cX5_ahead 5 = .ok (.ifCond .eq 15, 3) := by decide +kernel
theorem dX5_ahead_8 : decode cX5_ahead 8 = .ok (.iload_n 2, 1) := by decide +kernel
theorem dX5_ahead_9 : decode cX5_ahead 9 = .ok (.i2l, 1) := by decide +kernel
theorem dX5_ahead_10 : decode cX5_ahead 10 = .ok (.lconst 0, 1) := by decide +kernel
theorem dX5_ahead_11 : decode cX5_ahead 11 = .ok (.ldc2_w 192, 3) := by decide +kernel
theorem dX5_ahead_14 : decode cX5_ahead 14 = .ok (.invokestatic 54, 3) := by decide +kernel
theorem dX5_ahead_17 : decode cX5_ahead 17 = .ok (.ifCond .ne 6, 3) := by decide +kernel
theorem dX5_ahead_20 : decode cX5_ahead 20 = .ok (.ldc 64, 2) := by decide +kernel
theorem dX5_ahead_22 : decode cX5_ahead 22 = .ok (.ireturn, 1) := by decide +kernel
theorem dX5_ahead_23 : decode cX5_ahead 23 = .ok (.aload_n 0, 1) := by decide +kernel
theorem dX5_ahead_24 : decode cX5_ahead 24 = .ok (.invokevirtual 194, 3) := by decide +kernel
theorem dX5_ahead_27 : decode cX5_ahead 27 = .ok (.aload_n 0, 1) := by decide +kernel
theorem dX5_ahead_28 : decode cX5_ahead 28 = .ok (.iload_n 2, 1) := by decide +kernel
theorem dX5_ahead_29 : decode cX5_ahead 29 = .ok (.invokevirtual 197, 3) := by decide +kernel
theorem dX5_ahead_32 : decode cX5_ahead 32 = .ok (.aload_n 0, 1) := by decide +kernel
theorem dX5_ahead_33 : decode cX5_ahead 33 = .ok (.getfield 19, 3) := by decide +kernel
theorem dX5_ahead_36 : decode cX5_ahead 36 = .ok (.bipush 6, 2) := by decide +kernel
theorem dX5_ahead_38 : decode cX5_ahead 38 = .ok (.iload_n 1, 1) := by decide +kernel
theorem dX5_ahead_39 : decode cX5_ahead 39 = .ok (.iadd, 1) := by decide +kernel
theorem dX5_ahead_40 : decode cX5_ahead 40 = .ok (.iaload, 1) := by decide +kernel
theorem dX5_ahead_41 : decode cX5_ahead 41 = .ok (.istore_n 3, 1) := by decide +kernel
theorem dX5_ahead_42 : decode cX5_ahead 42 = .ok (.aload_n 0, 1) := by decide +kernel
theorem dX5_ahead_43 : decode cX5_ahead 43 = .ok (.invokevirtual 201, 3) := by decide +kernel
theorem dX5_ahead_46 : decode cX5_ahead 46 = .ok (.iload_n 3, 1) := by decide +kernel
theorem dX5_ahead_47 : decode cX5_ahead 47 = .ok (.ireturn, 1) := by decide +kernel
theorem dX5_awayAhead_0 : decode cX5_awayAhead 0 = .ok (.aload_n 0, 1) := by decide +kernel
theorem dX5_awayAhead_1 : decode cX5_awayAhead 1 = .ok (.iload_n 1, 1) := by decide +kernel
theorem dX5_awayAhead_2 : decode cX5_awayAhead 2 = .ok (.invokevirtual 183, 3) := by decide +kernel
theorem dX5_awayAhead_5 : decode cX5_awayAhead 5 = .ok (.ifCond .eq 15, 3) := by decide +kernel
theorem dX5_awayAhead_8 : decode cX5_awayAhead 8 = .ok (.iload_n 2, 1) := by decide +kernel
theorem dX5_awayAhead_9 : decode cX5_awayAhead 9 = .ok (.i2l, 1) := by decide +kernel
theorem dX5_awayAhead_10 : decode cX5_awayAhead 10 = .ok (.lconst 0, 1) := by decide +kernel
theorem dX5_awayAhead_11 : decode cX5_awayAhead 11 = .ok (.ldc2_w 192, 3) := by decide +kernel
theorem dX5_awayAhead_14 : decode cX5_awayAhead 14 = .ok (.invokestatic 54, 3) := by decide +kernel
theorem dX5_awayAhead_17 : decode cX5_awayAhead 17 = .ok (.ifCond .ne 6, 3) := by decide +kernel
theorem dX5_awayAhead_20 : decode cX5_awayAhead 20 = .ok (.ldc 64, 2) := by decide +kernel
theorem dX5_awayAhead_22 : decode cX5_awayAhead 22 = .ok (.ireturn, 1) := by decide +kernel
theorem dX5_awayAhead_23 : decode cX5_awayAhead 23 = .ok (.aload_n 0, 1) := by decide +kernel
theorem dX5_awayAhead_24 : decode cX5_awayAhead 24 = .ok (.getfield 19, 3) := by decide +kernel
theorem dX5_awayAhead_27 : decode cX5_awayAhead 27 = .ok (.iconst 4, 1) := by decide +kernel
theorem dX5_awayAhead_28 : decode cX5_awayAhead 28 = .ok (.iaload, 1) := by decide +kernel
theorem dX5_awayAhead_29 : decode cX5_awayAhead 29 = .ok (.istore_n 3, 1) := by decide +kernel
theorem dX5_awayAhead_30 : decode cX5_awayAhead 30 = .ok (.aload_n 0, 1) := by decide +kernel
theorem dX5_awayAhead_31 : decode cX5_awayAhead 31 = .ok (.getfield 19, 3) := by decide +kernel
theorem dX5_awayAhead_34 : decode cX5_awayAhead 34 = .ok (.iconst 4, 1) := by decide +kernel
theorem dX5_awayAhead_35 : decode cX5_awayAhead 35 = .ok (.iload_n 3, 1) := by decide +kernel
theorem dX5_awayAhead_36 : decode cX5_awayAhead 36 = .ok (.iload_n 2, 1) := by decide +kernel
theorem dX5_awayAhead_37 : decode cX5_awayAhead 37 = .ok (.iadd, 1) := by decide +kernel
theorem dX5_awayAhead_38 : decode cX5_awayAhead 38 = .ok (.iastore, 1) := by decide +kernel
theorem dX5_awayAhead_39 : decode cX5_awayAhead 39 = .ok (.aload_n 0, 1) := by decide +kernel
theorem dX5_awayAhead_40 : decode cX5_awayAhead 40 = .ok (.iload_n 1, 1) := by decide +kernel
theorem dX5_awayAhead_41 : decode cX5_awayAhead 41 = .ok (.invokevirtual 155, 3) := by decide +kernel
theorem dX5_awayAhead_44 : decode cX5_awayAhead 44 = .ok (.istore 4, 2) := by decide +kernel
theorem dX5_awayAhead_46 : decode cX5_awayAhead 46 = .ok (.aload_n 0, 1) := by decide +kernel
theorem dX5_awayAhead_47 : decode cX5_awayAhead 47 = .ok (.getfield 19, 3) := by decide +kernel
theorem dX5_awayAhead_50 : decode cX5_awayAhead 50 = .ok (.iconst 4, 1) := by decide +kernel
theorem dX5_awayAhead_51 : decode cX5_awayAhead 51 = .ok (.iload_n 3, 1) := by decide +kernel
theorem dX5_awayAhead_52 : decode cX5_awayAhead 52 = .ok (.iastore, 1) := by decide +kernel
theorem dX5_awayAhead_53 : decode cX5_awayAhead 53 = .ok (.iload 4, 2) := by decide +kernel
theorem dX5_awayAhead_55 : decode cX5_awayAhead 55 = .ok (.ireturn, 1) := by decide +kernel
theorem dX5_first_0 : decode cX5_first 0 = .ok (.aload_n 0, 1) := by decide +kernel
theorem dX5_first_1 : decode cX5_first 1 = .ok (.iload_n 1, 1) := by decide +kernel
theorem dX5_first_2 : decode cX5_first 2 = .ok (.invokevirtual 183, 3) := by decide +kernel
theorem dX5_first_5 : decode cX5_first 5 = .ok (.ifCond .ne 6, 3) := by decide +kernel
theorem dX5_first_8 : decode cX5_first 8 = .ok (.ldc 64, 2) := by decide +kernel
theorem dX5_first_10 : decode cX5_first 10 = .ok (.ireturn, 1) := by decide +kernel
theorem dX5_first_11 : decode cX5_first 11 = .ok (.aload_n 0, 1) := by decide +kernel
theorem dX5_first_12 : decode cX5_first 12 = .ok (.getfield 19, 3) := by decide +kernel
theorem dX5_first_15 : decode cX5_first 15 = .ok (.iconst 4, 1) := by decide +kernel
theorem dX5_first_16 : decode cX5_first 16 = .ok (.iaload, 1) := by decide +kernel
theorem dX5_first_17 : decode cX5_first 17 = .ok (.istore_n 2, 1) := by decide +kernel
theorem dX5_first_18 : decode cX5_first 18 = .ok (.ldc 204, 2) := by decide +kernel
theorem dX5_first_20 : decode cX5_first 20 = .ok (.istore_n 3, 1) := by decide +kernel
theorem dX5_first_21 : decode cX5_first 21 = .ok (.iconst 1, 1) := by decide +kernel
theorem dX5_first_22 : decode cX5_first 22 = .ok (.istore 4, 2) := by decide +kernel
theorem dX5_first_24 : decode cX5_first 24 = .ok (.iload 4, 2) := by decide +kernel
theorem dX5_first_26 : decode cX5_first 26 = .ok (.bipush 60, 2) := by decide +kernel
theorem dX5_first_28 : decode cX5_first 28 = .ok (.if_icmp .gt 38, 3) := by decide +kernel
theorem dX5_first_31 : decode cX5_first 31 = .ok (.iload_n 3, 1) := by decide +kernel
theorem dX5_first_32 : decode cX5_first 32 = .ok (.ifCond .ge 34, 3) := by decide +kernel
theorem dX5_first_35 : decode cX5_first 35 = .ok (.aload_n 0, 1) := by decide +kernel
theorem dX5_first_36 : decode cX5_first 36 = .ok (.iload_n 1, 1) := by decide +kernel
theorem dX5_first_37 : decode cX5_first 37 = .ok (.invokevirtual 155, 3) := by decide +kernel
theorem dX5_first_40 : decode cX5_first 40 = .ok (.ifCond .ne 8, 3) := by decide +kernel
theorem dX5_first_43 : decode cX5_first 43 = .ok (.iload 4, 2) := by decide +kernel
theorem dX5_first_45 : decode cX5_first 45 = .ok (.goto 4, 3) := by decide +kernel
theorem dX5_first_48 : decode cX5_first 48 = .ok (.iload_n 3, 1) := by decide +kernel
theorem dX5_first_49 : decode cX5_first 49 = .ok (.istore_n 3, 1) := by decide +kernel
theorem dX5_first_50 : decode cX5_first 50 = .ok (.aload_n 0, 1) := by decide +kernel
theorem dX5_first_51 : decode cX5_first 51 = .ok (.getfield 19, 3) := by decide +kernel
theorem dX5_first_54 : decode cX5_first 54 = .ok (.iconst 4, 1) := by decide +kernel
theorem dX5_first_55 : decode cX5_first 55 = .ok (.dup2, 1) := by decide +kernel
theorem dX5_first_56 : decode cX5_first 56 = .ok (.iaload, 1) := by decide +kernel
theorem dX5_first_57 : decode cX5_first 57 = .ok (.iconst 1, 1) := by decide +kernel
theorem dX5_first_58 : decode cX5_first 58 = .ok (.iadd, 1) := by decide +kernel
theorem dX5_first_59 : decode cX5_first 59 = .ok (.iastore, 1) := by decide +kernel
theorem dX5_first_60 : decode cX5_first 60 = .ok (.iinc 4 1, 3) := by decide +kernel
theorem dX5_first_63 : decode cX5_first 63 = .ok (.goto (-39), 3) := by decide +kernel
theorem dX5_first_66 : decode cX5_first 66 = .ok (.aload_n 0, 1) := by decide +kernel
theorem dX5_first_67 : decode cX5_first 67 = .ok (.getfield 19, 3) := by decide +kernel
theorem dX5_first_70 : decode cX5_first 70 = .ok (.iconst 4, 1) := by decide +kernel
theorem dX5_first_71 : decode cX5_first 71 = .ok (.iload_n 2, 1) := by decide +kernel
theorem dX5_first_72 : decode cX5_first 72 = .ok (.iastore, 1) := by decide +kernel
theorem dX5_first_73 : decode cX5_first 73 = .ok (.iload_n 3, 1) := by decide +kernel
theorem dX5_first_74 : decode cX5_first 74 = .ok (.ireturn, 1) := by decide +kernel
theorem dX5_reach_0 : decode cX5_reach 0 = .ok (.aload_n 0, 1) := by decide +kernel
theorem dX5_reach_1 : decode cX5_reach 1 = .ok (.iload_n 1, 1) := by decide +kernel
theorem dX5_reach_2 : decode cX5_reach 2 = .ok (.invokevirtual 183, 3) := by decide +kernel
theorem dX5_reach_5 : decode cX5_reach 5 = .ok (.ifCond .eq 15, 3) := by decide +kernel
theorem dX5_reach_8 : decode cX5_reach 8 = .ok (.iload_n 2, 1) := by decide +kernel
theorem dX5_reach_9 : decode cX5_reach 9 = .ok (.i2l, 1) := by decide +kernel
theorem dX5_reach_10 : decode cX5_reach 10 = .ok (.lconst 1, 1) := by decide +kernel
theorem dX5_reach_11 : decode cX5_reach 11 = .ok (.ldc2_w 205, 3) := by decide +kernel
theorem dX5_reach_14 : decode cX5_reach 14 = .ok (.invokestatic 54, 3) := by decide +kernel
theorem dX5_reach_17 : decode cX5_reach 17 = .ok (.ifCond .ne 6, 3) := by decide +kernel
theorem dX5_reach_20 : decode cX5_reach 20 = .ok (.ldc 64, 2) := by decide +kernel
theorem dX5_reach_22 : decode cX5_reach 22 = .ok (.ireturn, 1) := by decide +kernel
theorem dX5_reach_23 : decode cX5_reach 23 = .ok (.aload_n 0, 1) := by decide +kernel
theorem dX5_reach_24 : decode cX5_reach 24 = .ok (.invokevirtual 194, 3) := by decide +kernel
theorem dX5_reach_27 : decode cX5_reach 27 = .ok (.iconst 0, 1) := by decide +kernel
theorem dX5_reach_28 : decode cX5_reach 28 = .ok (.istore_n 3, 1) := by decide +kernel
theorem dX5_reach_29 : decode cX5_reach 29 = .ok (.aload_n 0, 1) := by decide +kernel
theorem dX5_reach_30 : decode cX5_reach 30 = .ok (.getfield 19, 3) := by decide +kernel
theorem dX5_reach_33 : decode cX5_reach 33 = .ok (.bipush 6, 2) := by decide +kernel
theorem dX5_reach_35 : decode cX5_reach 35 = .ok (.iload_n 1, 1) := by decide +kernel
theorem dX5_reach_36 : decode cX5_reach 36 = .ok (.iadd, 1) := by decide +kernel
theorem dX5_reach_37 : decode cX5_reach 37 = .ok (.iaload, 1) := by decide +kernel
theorem dX5_reach_38 : decode cX5_reach 38 = .ok (.iload_n 2, 1) := by decide +kernel
theorem dX5_reach_39 : decode cX5_reach 39 = .ok (.if_icmp .ge 19, 3) := by decide +kernel
theorem dX5_reach_42 : decode cX5_reach 42 = .ok (.iload_n 3, 1) := by decide +kernel
theorem dX5_reach_43 : decode cX5_reach 43 = .ok (.bipush 60, 2) := by decide +kernel
theorem dX5_reach_45 : decode cX5_reach 45 = .ok (.if_icmp .ge 13, 3) := by decide +kernel
theorem dX5_reach_48 : decode cX5_reach 48 = .ok (.aload_n 0, 1) := by decide +kernel
theorem dX5_reach_49 : decode cX5_reach 49 = .ok (.invokevirtual 173, 3) := by decide +kernel
theorem dX5_reach_52 : decode cX5_reach 52 = .ok (.iinc 3 1, 3) := by decide +kernel
theorem dX5_reach_55 : decode cX5_reach 55 = .ok (.goto (-26), 3) := by decide +kernel
theorem dX5_reach_58 : decode cX5_reach 58 = .ok (.aload_n 0, 1) := by decide +kernel
theorem dX5_reach_59 : decode cX5_reach 59 = .ok (.getfield 19, 3) := by decide +kernel
theorem dX5_reach_62 : decode cX5_reach 62 = .ok (.bipush 6, 2) := by decide +kernel
theorem dX5_reach_64 : decode cX5_reach 64 = .ok (.iload_n 1, 1) := by decide +kernel
theorem dX5_reach_65 : decode cX5_reach 65 = .ok (.iadd, 1) := by decide +kernel
theorem dX5_reach_66 : decode cX5_reach 66 = .ok (.iaload, 1) := by decide +kernel
theorem dX5_reach_67 : decode cX5_reach 67 = .ok (.iload_n 2, 1) := by decide +kernel
theorem dX5_reach_68 : decode cX5_reach 68 = .ok (.if_icmp .lt 7, 3) := by decide +kernel
theorem dX5_reach_71 : decode cX5_reach 71 = .ok (.iconst 1, 1) := by decide +kernel
theorem dX5_reach_72 : decode cX5_reach 72 = .ok (.goto 4, 3) := by decide +kernel
theorem dX5_reach_75 : decode cX5_reach 75 = .ok (.iconst 0, 1) := by decide +kernel
theorem dX5_reach_76 : decode cX5_reach 76 = .ok (.istore 4, 2) := by decide +kernel
theorem dX5_reach_78 : decode cX5_reach 78 = .ok (.aload_n 0, 1) := by decide +kernel
theorem dX5_reach_79 : decode cX5_reach 79 = .ok (.invokevirtual 201, 3) := by decide +kernel
theorem dX5_reach_82 : decode cX5_reach 82 = .ok (.iload 4, 2) := by decide +kernel
theorem dX5_reach_84 : decode cX5_reach 84 = .ok (.ifCond .eq 7, 3) := by decide +kernel
theorem dX5_reach_87 : decode cX5_reach 87 = .ok (.iload_n 3, 1) := by decide +kernel
theorem dX5_reach_88 : decode cX5_reach 88 = .ok (.goto 5, 3) := by decide +kernel
theorem dX5_reach_91 : decode cX5_reach 91 = .ok (.ldc 204, 2) := by decide +kernel
theorem dX5_reach_93 : decode cX5_reach 93 = .ok (.ireturn, 1) := by decide +kernel
theorem dX5_usual_0 : decode cX5_usual 0 = .ok (.aload_n 0, 1) := by decide +kernel
theorem dX5_usual_1 : decode cX5_usual 1 = .ok (.iload_n 1, 1) := by decide +kernel
theorem dX5_usual_2 : decode cX5_usual 2 = .ok (.invokevirtual 183, 3) := by decide +kernel
theorem dX5_usual_5 : decode cX5_usual 5 = .ok (.ifCond .eq 15, 3) := by decide +kernel
theorem dX5_usual_8 : decode cX5_usual 8 = .ok (.iload_n 2, 1) := by decide +kernel
theorem dX5_usual_9 : decode cX5_usual 9 = .ok (.i2l, 1) := by decide +kernel
theorem dX5_usual_10 : decode cX5_usual 10 = .ok (.lconst 1, 1) := by decide +kernel
theorem dX5_usual_11 : decode cX5_usual 11 = .ok (.ldc2_w 192, 3) := by decide +kernel
theorem dX5_usual_14 : decode cX5_usual 14 = .ok (.invokestatic 54, 3) := by decide +kernel
theorem dX5_usual_17 : decode cX5_usual 17 = .ok (.ifCond .ne 6, 3) := by decide +kernel
theorem dX5_usual_20 : decode cX5_usual 20 = .ok (.ldc 64, 2) := by decide +kernel
theorem dX5_usual_22 : decode cX5_usual 22 = .ok (.ireturn, 1) := by decide +kernel
theorem dX5_usual_23 : decode cX5_usual 23 = .ok (.aload_n 0, 1) := by decide +kernel
theorem dX5_usual_24 : decode cX5_usual 24 = .ok (.invokevirtual 194, 3) := by decide +kernel
theorem dX5_usual_27 : decode cX5_usual 27 = .ok (.iconst 0, 1) := by decide +kernel
theorem dX5_usual_28 : decode cX5_usual 28 = .ok (.istore_n 3, 1) := by decide +kernel
theorem dX5_usual_29 : decode cX5_usual 29 = .ok (.iconst 0, 1) := by decide +kernel
theorem dX5_usual_30 : decode cX5_usual 30 = .ok (.istore 4, 2) := by decide +kernel
theorem dX5_usual_32 : decode cX5_usual 32 = .ok (.iload 4, 2) := by decide +kernel
theorem dX5_usual_34 : decode cX5_usual 34 = .ok (.iload_n 2, 1) := by decide +kernel
theorem dX5_usual_35 : decode cX5_usual 35 = .ok (.if_icmp .ge 32, 3) := by decide +kernel
theorem dX5_usual_38 : decode cX5_usual 38 = .ok (.aload_n 0, 1) := by decide +kernel
theorem dX5_usual_39 : decode cX5_usual 39 = .ok (.invokevirtual 173, 3) := by decide +kernel
theorem dX5_usual_42 : decode cX5_usual 42 = .ok (.iload_n 3, 1) := by decide +kernel
theorem dX5_usual_43 : decode cX5_usual 43 = .ok (.aload_n 0, 1) := by decide +kernel
theorem dX5_usual_44 : decode cX5_usual 44 = .ok (.getfield 161, 3) := by decide +kernel
theorem dX5_usual_47 : decode cX5_usual 47 = .ok (.iload_n 1, 1) := by decide +kernel
theorem dX5_usual_48 : decode cX5_usual 48 = .ok (.invokestatic 151, 3) := by decide +kernel
theorem dX5_usual_51 : decode cX5_usual 51 = .ok (.ifCond .eq 7, 3) := by decide +kernel
theorem dX5_usual_54 : decode cX5_usual 54 = .ok (.iconst 1, 1) := by decide +kernel
theorem dX5_usual_55 : decode cX5_usual 55 = .ok (.goto 4, 3) := by decide +kernel
theorem dX5_usual_58 : decode cX5_usual 58 = .ok (.iconst 0, 1) := by decide +kernel
theorem dX5_usual_59 : decode cX5_usual 59 = .ok (.iadd, 1) := by decide +kernel
theorem dX5_usual_60 : decode cX5_usual 60 = .ok (.istore_n 3, 1) := by decide +kernel
theorem dX5_usual_61 : decode cX5_usual 61 = .ok (.iinc 4 1, 3) := by decide +kernel
theorem dX5_usual_64 : decode cX5_usual 64 = .ok (.goto (-32), 3) := by decide +kernel
theorem dX5_usual_67 : decode cX5_usual 67 = .ok (.aload_n 0, 1) := by decide +kernel
theorem dX5_usual_68 : decode cX5_usual 68 = .ok (.invokevirtual 201, 3) := by decide +kernel
theorem dX5_usual_71 : decode cX5_usual 71 = .ok (.iload_n 3, 1) := by decide +kernel
theorem dX5_usual_72 : decode cX5_usual 72 = .ok (.ireturn, 1) := by decide +kernel
theorem dX5_doFeel_0 : decode cX5_doFeel 0 = .ok (.iconst 1, 1) := by decide +kernel
theorem dX5_doFeel_1 : decode cX5_doFeel 1 = .ok (.istore_n 3, 1) := by decide +kernel
theorem dX5_doFeel_2 : decode cX5_doFeel 2 = .ok (.iconst 0, 1) := by decide +kernel
theorem dX5_doFeel_3 : decode cX5_doFeel 3 = .ok (.istore 4, 2) := by decide +kernel
theorem dX5_doFeel_5 : decode cX5_doFeel 5 = .ok (.iload 4, 2) := by decide +kernel
theorem dX5_doFeel_7 : decode cX5_doFeel 7 = .ok (.aload_n 0, 1) := by decide +kernel
theorem dX5_doFeel_8 : decode cX5_doFeel 8 = .ok (.getfield 19, 3) := by decide +kernel
theorem dX5_doFeel_11 : decode cX5_doFeel 11 = .ok (.iconst 2, 1) := by decide +kernel
theorem dX5_doFeel_12 : decode cX5_doFeel 12 = .ok (.iaload, 1) := by decide +kernel
theorem dX5_doFeel_13 : decode cX5_doFeel 13 = .ok (.if_icmp .ge 42, 3) := by decide +kernel
theorem dX5_doFeel_16 : decode cX5_doFeel 16 = .ok (.iload_n 3, 1) := by decide +kernel
theorem dX5_doFeel_17 : decode cX5_doFeel 17 = .ok (.ifCond .eq 30, 3) := by decide +kernel
theorem dX5_doFeel_20 : decode cX5_doFeel 20 = .ok (.iload_n 1, 1) := by decide +kernel
theorem dX5_doFeel_21 : decode cX5_doFeel 21 = .ok (.iload 4, 2) := by decide +kernel
theorem dX5_doFeel_23 : decode cX5_doFeel 23 = .ok (.invokestatic 151, 3) := by decide +kernel
theorem dX5_doFeel_26 : decode cX5_doFeel 26 = .ok (.ifCond .eq 17, 3) := by decide +kernel
theorem dX5_doFeel_29 : decode cX5_doFeel 29 = .ok (.aload_n 0, 1) := by decide +kernel
theorem dX5_doFeel_30 : decode cX5_doFeel 30 = .ok (.getfield 19, 3) := by decide +kernel
theorem dX5_doFeel_33 : decode cX5_doFeel 33 = .ok (.bipush 6, 2) := by decide +kernel
theorem dX5_doFeel_35 : decode cX5_doFeel 35 = .ok (.iload 4, 2) := by decide +kernel
theorem dX5_doFeel_37 : decode cX5_doFeel 37 = .ok (.iadd, 1) := by decide +kernel
theorem dX5_doFeel_38 : decode cX5_doFeel 38 = .ok (.iaload, 1) := by decide +kernel
theorem dX5_doFeel_39 : decode cX5_doFeel 39 = .ok (.iload_n 2, 1) := by decide +kernel
theorem dX5_doFeel_40 : decode cX5_doFeel 40 = .ok (.if_icmp .lt 7, 3) := by decide +kernel
theorem dX5_doFeel_43 : decode cX5_doFeel 43 = .ok (.iconst 1, 1) := by decide +kernel
theorem dX5_doFeel_44 : decode cX5_doFeel 44 = .ok (.goto 4, 3) := by decide +kernel
theorem dX5_doFeel_47 : decode cX5_doFeel 47 = .ok (.iconst 0, 1) := by decide +kernel
theorem dX5_doFeel_48 : decode cX5_doFeel 48 = .ok (.istore_n 3, 1) := by decide +kernel
theorem dX5_doFeel_49 : decode cX5_doFeel 49 = .ok (.iinc 4 1, 3) := by decide +kernel
theorem dX5_doFeel_52 : decode cX5_doFeel 52 = .ok (.goto (-47), 3) := by decide +kernel
theorem dX5_doFeel_55 : decode cX5_doFeel 55 = .ok (.iload_n 3, 1) := by decide +kernel
theorem dX5_doFeel_56 : decode cX5_doFeel 56 = .ok (.ireturn, 1) := by decide +kernel
theorem dX5_fewest_0 : decode cX5_fewest 0 = .ok (.aload_n 0, 1) := by decide +kernel
theorem dX5_fewest_1 : decode cX5_fewest 1 = .ok (.getfield 135, 3) := by decide +kernel
theorem dX5_fewest_4 : decode cX5_fewest 4 = .ok (.ifCond .ne 6, 3) := by decide +kernel
theorem dX5_fewest_7 : decode cX5_fewest 7 = .ok (.ldc 167, 2) := by decide +kernel
theorem dX5_fewest_9 : decode cX5_fewest 9 = .ok (.ireturn, 1) := by decide +kernel
theorem dX5_fewest_10 : decode cX5_fewest 10 = .ok (.iload_n 1, 1) := by decide +kernel
theorem dX5_fewest_11 : decode cX5_fewest 11 = .ok (.i2l, 1) := by decide +kernel
theorem dX5_fewest_12 : decode cX5_fewest 12 = .ok (.lconst 0, 1) := by decide +kernel
theorem dX5_fewest_13 : decode cX5_fewest 13 = .ok (.iconst 1, 1) := by decide +kernel
theorem dX5_fewest_14 : decode cX5_fewest 14 = .ok (.aload_n 0, 1) := by decide +kernel
theorem dX5_fewest_15 : decode cX5_fewest 15 = .ok (.getfield 19, 3) := by decide +kernel
theorem dX5_fewest_18 : decode cX5_fewest 18 = .ok (.iconst 2, 1) := by decide +kernel
theorem dX5_fewest_19 : decode cX5_fewest 19 = .ok (.iaload, 1) := by decide +kernel
theorem dX5_fewest_20 : decode cX5_fewest 20 = .ok (.ishl, 1) := by decide +kernel
theorem dX5_fewest_21 : decode cX5_fewest 21 = .ok (.iconst 1, 1) := by decide +kernel
theorem dX5_fewest_22 : decode cX5_fewest 22 = .ok (.isub, 1) := by decide +kernel
theorem dX5_fewest_23 : decode cX5_fewest 23 = .ok (.i2l, 1) := by decide +kernel
theorem dX5_fewest_24 : decode cX5_fewest 24 = .ok (.invokestatic 54, 3) := by decide +kernel
theorem dX5_fewest_27 : decode cX5_fewest 27 = .ok (.ifCond .eq 35, 3) := by decide +kernel
theorem dX5_fewest_30 : decode cX5_fewest 30 = .ok (.iload_n 2, 1) := by decide +kernel
theorem dX5_fewest_31 : decode cX5_fewest 31 = .ok (.i2l, 1) := by decide +kernel
theorem dX5_fewest_32 : decode cX5_fewest 32 = .ok (.lconst 1, 1) := by decide +kernel
theorem dX5_fewest_33 : decode cX5_fewest 33 = .ok (.ldc2_w 207, 3) := by decide +kernel
theorem dX5_fewest_36 : decode cX5_fewest 36 = .ok (.invokestatic 54, 3) := by decide +kernel
theorem dX5_fewest_39 : decode cX5_fewest 39 = .ok (.ifCond .eq 23, 3) := by decide +kernel
theorem dX5_fewest_42 : decode cX5_fewest 42 = .ok (.iload_n 3, 1) := by decide +kernel
theorem dX5_fewest_43 : decode cX5_fewest 43 = .ok (.i2l, 1) := by decide +kernel
theorem dX5_fewest_44 : decode cX5_fewest 44 = .ok (.lconst 1, 1) := by decide +kernel
theorem dX5_fewest_45 : decode cX5_fewest 45 = .ok (.ldc2_w 205, 3) := by decide +kernel
theorem dX5_fewest_48 : decode cX5_fewest 48 = .ok (.invokestatic 54, 3) := by decide +kernel
theorem dX5_fewest_51 : decode cX5_fewest 51 = .ok (.ifCond .eq 11, 3) := by decide +kernel
theorem dX5_fewest_54 : decode cX5_fewest 54 = .ok (.iload 4, 2) := by decide +kernel
theorem dX5_fewest_56 : decode cX5_fewest 56 = .ok (.invokestatic 209, 3) := by decide +kernel
theorem dX5_fewest_59 : decode cX5_fewest 59 = .ok (.ifCond .ne 6, 3) := by decide +kernel
theorem dX5_fewest_62 : decode cX5_fewest 62 = .ok (.ldc 64, 2) := by decide +kernel
theorem dX5_fewest_64 : decode cX5_fewest 64 = .ok (.ireturn, 1) := by decide +kernel
theorem dX5_fewest_65 : decode cX5_fewest 65 = .ok (.aload_n 0, 1) := by decide +kernel
theorem dX5_fewest_66 : decode cX5_fewest 66 = .ok (.invokevirtual 194, 3) := by decide +kernel
theorem dX5_fewest_69 : decode cX5_fewest 69 = .ok (.iconst 1, 1) := by decide +kernel
theorem dX5_fewest_70 : decode cX5_fewest 70 = .ok (.aload_n 0, 1) := by decide +kernel
theorem dX5_fewest_71 : decode cX5_fewest 71 = .ok (.getfield 19, 3) := by decide +kernel
theorem dX5_fewest_74 : decode cX5_fewest 74 = .ok (.iconst 3, 1) := by decide +kernel
theorem dX5_fewest_75 : decode cX5_fewest 75 = .ok (.iaload, 1) := by decide +kernel
theorem dX5_fewest_76 : decode cX5_fewest 76 = .ok (.ishl, 1) := by decide +kernel
theorem dX5_fewest_77 : decode cX5_fewest 77 = .ok (.iconst 1, 1) := by decide +kernel
theorem dX5_fewest_78 : decode cX5_fewest 78 = .ok (.isub, 1) := by decide +kernel
theorem dX5_fewest_79 : decode cX5_fewest 79 = .ok (.istore 5, 2) := by decide +kernel
theorem dX5_fewest_81 : decode cX5_fewest 81 = .ok (.ldc 204, 2) := by decide +kernel
theorem dX5_fewest_83 : decode cX5_fewest 83 = .ok (.istore 6, 2) := by decide +kernel
theorem dX5_fewest_85 : decode cX5_fewest 85 = .ok (.iconst 0, 1) := by decide +kernel
theorem dX5_fewest_86 : decode cX5_fewest 86 = .ok (.istore 7, 2) := by decide +kernel
theorem dX5_fewest_88 : decode cX5_fewest 88 = .ok (.iload 7, 2) := by decide +kernel
theorem dX5_fewest_90 : decode cX5_fewest 90 = .ok (.iload 5, 2) := by decide +kernel
theorem dX5_fewest_92 : decode cX5_fewest 92 = .ok (.if_icmp .gt 65, 3) := by decide +kernel
theorem dX5_fewest_95 : decode cX5_fewest 95 = .ok (.iload 6, 2) := by decide +kernel
theorem dX5_fewest_97 : decode cX5_fewest 97 = .ok (.ifCond .lt 16, 3) := by decide +kernel
theorem dX5_fewest_100 : decode cX5_fewest 100 = .ok (.iload 7, 2) := by decide +kernel
theorem dX5_fewest_102 : decode cX5_fewest 102 = .ok (.invokestatic 212, 3) := by decide +kernel
theorem dX5_fewest_105 : decode cX5_fewest 105 = .ok (.iload 6, 2) := by decide +kernel
theorem dX5_fewest_107 : decode cX5_fewest 107 = .ok (.invokestatic 212, 3) := by decide +kernel
theorem dX5_fewest_110 : decode cX5_fewest 110 = .ok (.if_icmp .ge 41, 3) := by decide +kernel
theorem dX5_fewest_113 : decode cX5_fewest 113 = .ok (.aload_n 0, 1) := by decide +kernel
theorem dX5_fewest_114 : decode cX5_fewest 114 = .ok (.iload 5, 2) := by decide +kernel
theorem dX5_fewest_116 : decode cX5_fewest 116 = .ok (.iload 7, 2) := by decide +kernel
theorem dX5_fewest_118 : decode cX5_fewest 118 = .ok (.iconst (-1), 1) := by decide +kernel
theorem dX5_fewest_119 : decode cX5_fewest 119 = .ok (.ixor, 1) := by decide +kernel
theorem dX5_fewest_120 : decode cX5_fewest 120 = .ok (.iand, 1) := by decide +kernel
theorem dX5_fewest_121 : decode cX5_fewest 121 = .ok (.putfield 148, 3) := by decide +kernel
theorem dX5_fewest_124 : decode cX5_fewest 124 = .ok (.aload_n 0, 1) := by decide +kernel
theorem dX5_fewest_125 : decode cX5_fewest 125 = .ok (.iload_n 2, 1) := by decide +kernel
theorem dX5_fewest_126 : decode cX5_fewest 126 = .ok (.invokevirtual 197, 3) := by decide +kernel
theorem dX5_fewest_129 : decode cX5_fewest 129 = .ok (.aload_n 0, 1) := by decide +kernel
theorem dX5_fewest_130 : decode cX5_fewest 130 = .ok (.iload_n 1, 1) := by decide +kernel
theorem dX5_fewest_131 : decode cX5_fewest 131 = .ok (.iload_n 3, 1) := by decide +kernel
theorem dX5_fewest_132 : decode cX5_fewest 132 = .ok (.invokevirtual 215, 3) := by decide +kernel
theorem dX5_fewest_135 : decode cX5_fewest 135 = .ok (.ifCond .eq 8, 3) := by decide +kernel
theorem dX5_fewest_138 : decode cX5_fewest 138 = .ok (.iload 7, 2) := by decide +kernel
theorem dX5_fewest_140 : decode cX5_fewest 140 = .ok (.goto 5, 3) := by decide +kernel
theorem dX5_fewest_143 : decode cX5_fewest 143 = .ok (.iload 6, 2) := by decide +kernel
theorem dX5_fewest_145 : decode cX5_fewest 145 = .ok (.istore 6, 2) := by decide +kernel
theorem dX5_fewest_147 : decode cX5_fewest 147 = .ok (.aload_n 0, 1) := by decide +kernel
theorem dX5_fewest_148 : decode cX5_fewest 148 = .ok (.invokevirtual 201, 3) := by decide +kernel
theorem dX5_fewest_151 : decode cX5_fewest 151 = .ok (.iinc 7 1, 3) := by decide +kernel
theorem dX5_fewest_154 : decode cX5_fewest 154 = .ok (.goto (-66), 3) := by decide +kernel
theorem dX5_fewest_157 : decode cX5_fewest 157 = .ok (.aload_n 0, 1) := by decide +kernel
theorem dX5_fewest_158 : decode cX5_fewest 158 = .ok (.iconst 0, 1) := by decide +kernel
theorem dX5_fewest_159 : decode cX5_fewest 159 = .ok (.putfield 148, 3) := by decide +kernel
theorem dX5_fewest_162 : decode cX5_fewest 162 = .ok (.iload 6, 2) := by decide +kernel
theorem dX5_fewest_164 : decode cX5_fewest 164 = .ok (.ifCond .lt 9, 3) := by decide +kernel
theorem dX5_fewest_167 : decode cX5_fewest 167 = .ok (.iload 4, 2) := by decide +kernel
theorem dX5_fewest_169 : decode cX5_fewest 169 = .ok (.iconst 1, 1) := by decide +kernel
theorem dX5_fewest_170 : decode cX5_fewest 170 = .ok (.if_icmp .ne 8, 3) := by decide +kernel
theorem dX5_fewest_173 : decode cX5_fewest 173 = .ok (.iload 6, 2) := by decide +kernel
theorem dX5_fewest_175 : decode cX5_fewest 175 = .ok (.goto 8, 3) := by decide +kernel
theorem dX5_fewest_178 : decode cX5_fewest 178 = .ok (.iload 6, 2) := by decide +kernel
theorem dX5_fewest_180 : decode cX5_fewest 180 = .ok (.invokestatic 212, 3) := by decide +kernel
theorem dX5_fewest_183 : decode cX5_fewest 183 = .ok (.ireturn, 1) := by decide +kernel
theorem dX5_bestHouse_0 : decode cX5_bestHouse 0 = .ok (.aload_n 0, 1) := by decide +kernel
theorem dX5_bestHouse_1 : decode cX5_bestHouse 1 = .ok (.iload_n 1, 1) := by decide +kernel
theorem dX5_bestHouse_2 : decode cX5_bestHouse 2 = .ok (.invokevirtual 180, 3) := by decide +kernel
theorem dX5_bestHouse_5 : decode cX5_bestHouse 5 = .ok (.ifCond .eq 22, 3) := by decide +kernel
theorem dX5_bestHouse_8 : decode cX5_bestHouse 8 = .ok (.iload_n 2, 1) := by decide +kernel
theorem dX5_bestHouse_9 : decode cX5_bestHouse 9 = .ok (.i2l, 1) := by decide +kernel
theorem dX5_bestHouse_10 : decode cX5_bestHouse 10 = .ok (.lconst 1, 1) := by decide +kernel
theorem dX5_bestHouse_11 : decode cX5_bestHouse 11 = .ok (.ldc2_w 192, 3) := by decide +kernel
theorem dX5_bestHouse_14 : decode cX5_bestHouse 14 = .ok (.invokestatic 54, 3) := by decide +kernel
theorem dX5_bestHouse_17 : decode cX5_bestHouse 17 = .ok (.ifCond .eq 10, 3) := by decide +kernel
theorem dX5_bestHouse_20 : decode cX5_bestHouse 20 = .ok (.iload_n 3, 1) := by decide +kernel
theorem dX5_bestHouse_21 : decode cX5_bestHouse 21 = .ok (.invokestatic 209, 3) := by decide +kernel
theorem dX5_bestHouse_24 : decode cX5_bestHouse 24 = .ok (.ifCond .ne 6, 3) := by decide +kernel
theorem dX5_bestHouse_27 : decode cX5_bestHouse 27 = .ok (.ldc 64, 2) := by decide +kernel
theorem dX5_bestHouse_29 : decode cX5_bestHouse 29 = .ok (.ireturn, 1) := by decide +kernel
theorem dX5_bestHouse_30 : decode cX5_bestHouse 30 = .ok (.aload_n 0, 1) := by decide +kernel
theorem dX5_bestHouse_31 : decode cX5_bestHouse 31 = .ok (.invokevirtual 194, 3) := by decide +kernel
theorem dX5_bestHouse_34 : decode cX5_bestHouse 34 = .ok (.iconst 0, 1) := by decide +kernel
theorem dX5_bestHouse_35 : decode cX5_bestHouse 35 = .ok (.istore 4, 2) := by decide +kernel
theorem dX5_bestHouse_37 : decode cX5_bestHouse 37 = .ok (.iconst (-1), 1) := by decide +kernel
theorem dX5_bestHouse_38 : decode cX5_bestHouse 38 = .ok (.istore 5, 2) := by decide +kernel
theorem dX5_bestHouse_40 : decode cX5_bestHouse 40 = .ok (.iconst 0, 1) := by decide +kernel
theorem dX5_bestHouse_41 : decode cX5_bestHouse 41 = .ok (.istore 6, 2) := by decide +kernel
theorem dX5_bestHouse_43 : decode cX5_bestHouse 43 = .ok (.iload 6, 2) := by decide +kernel
theorem dX5_bestHouse_45 : decode cX5_bestHouse 45 = .ok (.aload_n 0, 1) := by decide +kernel
theorem dX5_bestHouse_46 : decode cX5_bestHouse 46 = .ok (.getfield 19, 3) := by decide +kernel
theorem dX5_bestHouse_49 : decode cX5_bestHouse 49 = .ok (.iconst 2, 1) := by decide +kernel
theorem dX5_bestHouse_50 : decode cX5_bestHouse 50 = .ok (.iaload, 1) := by decide +kernel
theorem dX5_bestHouse_51 : decode cX5_bestHouse 51 = .ok (.if_icmp .ge 63, 3) := by decide +kernel
theorem dX5_bestHouse_54 : decode cX5_bestHouse 54 = .ok (.aload_n 0, 1) := by decide +kernel
theorem dX5_bestHouse_55 : decode cX5_bestHouse 55 = .ok (.iload_n 1, 1) := by decide +kernel
theorem dX5_bestHouse_56 : decode cX5_bestHouse 56 = .ok (.iload 6, 2) := by decide +kernel
theorem dX5_bestHouse_58 : decode cX5_bestHouse 58 = .ok (.invokevirtual 186, 3) := by decide +kernel
theorem dX5_bestHouse_61 : decode cX5_bestHouse 61 = .ok (.aload_n 0, 1) := by decide +kernel
theorem dX5_bestHouse_62 : decode cX5_bestHouse 62 = .ok (.iload_n 2, 1) := by decide +kernel
theorem dX5_bestHouse_63 : decode cX5_bestHouse 63 = .ok (.invokevirtual 197, 3) := by decide +kernel
theorem dX5_bestHouse_66 : decode cX5_bestHouse 66 = .ok (.aload_n 0, 1) := by decide +kernel
theorem dX5_bestHouse_67 : decode cX5_bestHouse 67 = .ok (.invokevirtual 176, 3) := by decide +kernel
theorem dX5_bestHouse_70 : decode cX5_bestHouse 70 = .ok (.iload 5, 2) := by decide +kernel
theorem dX5_bestHouse_72 : decode cX5_bestHouse 72 = .ok (.if_icmp .le 8, 3) := by decide +kernel
theorem dX5_bestHouse_75 : decode cX5_bestHouse 75 = .ok (.iload 6, 2) := by decide +kernel
theorem dX5_bestHouse_77 : decode cX5_bestHouse 77 = .ok (.goto 5, 3) := by decide +kernel
theorem dX5_bestHouse_80 : decode cX5_bestHouse 80 = .ok (.iload 4, 2) := by decide +kernel
theorem dX5_bestHouse_82 : decode cX5_bestHouse 82 = .ok (.istore 4, 2) := by decide +kernel
theorem dX5_bestHouse_84 : decode cX5_bestHouse 84 = .ok (.aload_n 0, 1) := by decide +kernel
theorem dX5_bestHouse_85 : decode cX5_bestHouse 85 = .ok (.invokevirtual 176, 3) := by decide +kernel
theorem dX5_bestHouse_88 : decode cX5_bestHouse 88 = .ok (.iload 5, 2) := by decide +kernel
theorem dX5_bestHouse_90 : decode cX5_bestHouse 90 = .ok (.if_icmp .le 10, 3) := by decide +kernel
theorem dX5_bestHouse_93 : decode cX5_bestHouse 93 = .ok (.aload_n 0, 1) := by decide +kernel
theorem dX5_bestHouse_94 : decode cX5_bestHouse 94 = .ok (.invokevirtual 176, 3) := by decide +kernel
theorem dX5_bestHouse_97 : decode cX5_bestHouse 97 = .ok (.goto 5, 3) := by decide +kernel
theorem dX5_bestHouse_100 : decode cX5_bestHouse 100 = .ok (.iload 5, 2) := by decide +kernel
theorem dX5_bestHouse_102 : decode cX5_bestHouse 102 = .ok (.istore 5, 2) := by decide +kernel
theorem dX5_bestHouse_104 : decode cX5_bestHouse 104 = .ok (.aload_n 0, 1) := by decide +kernel
theorem dX5_bestHouse_105 : decode cX5_bestHouse 105 = .ok (.invokevirtual 201, 3) := by decide +kernel
theorem dX5_bestHouse_108 : decode cX5_bestHouse 108 = .ok (.iinc 6 1, 3) := by decide +kernel
theorem dX5_bestHouse_111 : decode cX5_bestHouse 111 = .ok (.goto (-68), 3) := by decide +kernel
theorem dX5_bestHouse_114 : decode cX5_bestHouse 114 = .ok (.iload_n 3, 1) := by decide +kernel
theorem dX5_bestHouse_115 : decode cX5_bestHouse 115 = .ok (.ifCond .ne 8, 3) := by decide +kernel
theorem dX5_bestHouse_118 : decode cX5_bestHouse 118 = .ok (.iload 4, 2) := by decide +kernel
theorem dX5_bestHouse_120 : decode cX5_bestHouse 120 = .ok (.goto 5, 3) := by decide +kernel
theorem dX5_bestHouse_123 : decode cX5_bestHouse 123 = .ok (.iload 5, 2) := by decide +kernel
theorem dX5_bestHouse_125 : decode cX5_bestHouse 125 = .ok (.ireturn, 1) := by decide +kernel
theorem dX5_tells_0 : decode cX5_tells 0 = .ok (.aload_n 0, 1) := by decide +kernel
theorem dX5_tells_1 : decode cX5_tells 1 = .ok (.getfield 135, 3) := by decide +kernel
theorem dX5_tells_4 : decode cX5_tells 4 = .ok (.ifCond .ne 6, 3) := by decide +kernel
theorem dX5_tells_7 : decode cX5_tells 7 = .ok (.ldc 167, 2) := by decide +kernel
theorem dX5_tells_9 : decode cX5_tells 9 = .ok (.ireturn, 1) := by decide +kernel
theorem dX5_tells_10 : decode cX5_tells 10 = .ok (.iload_n 1, 1) := by decide +kernel
theorem dX5_tells_11 : decode cX5_tells 11 = .ok (.i2l, 1) := by decide +kernel
theorem dX5_tells_12 : decode cX5_tells 12 = .ok (.lconst 1, 1) := by decide +kernel
theorem dX5_tells_13 : decode cX5_tells 13 = .ok (.ldc2_w 192, 3) := by decide +kernel
theorem dX5_tells_16 : decode cX5_tells 16 = .ok (.invokestatic 54, 3) := by decide +kernel
theorem dX5_tells_19 : decode cX5_tells 19 = .ok (.ifCond .eq 10, 3) := by decide +kernel
theorem dX5_tells_22 : decode cX5_tells 22 = .ok (.iload_n 2, 1) := by decide +kernel
theorem dX5_tells_23 : decode cX5_tells 23 = .ok (.invokestatic 209, 3) := by decide +kernel
theorem dX5_tells_26 : decode cX5_tells 26 = .ok (.ifCond .ne 6, 3) := by decide +kernel
theorem dX5_tells_29 : decode cX5_tells 29 = .ok (.ldc 64, 2) := by decide +kernel
theorem dX5_tells_31 : decode cX5_tells 31 = .ok (.ireturn, 1) := by decide +kernel
theorem dX5_tells_32 : decode cX5_tells 32 = .ok (.aload_n 0, 1) := by decide +kernel
theorem dX5_tells_33 : decode cX5_tells 33 = .ok (.invokevirtual 194, 3) := by decide +kernel
theorem dX5_tells_36 : decode cX5_tells 36 = .ok (.aload_n 0, 1) := by decide +kernel
theorem dX5_tells_37 : decode cX5_tells 37 = .ok (.iload_n 1, 1) := by decide +kernel
theorem dX5_tells_38 : decode cX5_tells 38 = .ok (.invokevirtual 197, 3) := by decide +kernel
theorem dX5_tells_41 : decode cX5_tells 41 = .ok (.aload_n 0, 1) := by decide +kernel
theorem dX5_tells_42 : decode cX5_tells 42 = .ok (.invokevirtual 176, 3) := by decide +kernel
theorem dX5_tells_45 : decode cX5_tells 45 = .ok (.istore_n 3, 1) := by decide +kernel
theorem dX5_tells_46 : decode cX5_tells 46 = .ok (.aload_n 0, 1) := by decide +kernel
theorem dX5_tells_47 : decode cX5_tells 47 = .ok (.invokevirtual 201, 3) := by decide +kernel
theorem dX5_tells_50 : decode cX5_tells 50 = .ok (.iconst 0, 1) := by decide +kernel
theorem dX5_tells_51 : decode cX5_tells 51 = .ok (.istore 4, 2) := by decide +kernel
theorem dX5_tells_53 : decode cX5_tells 53 = .ok (.sipush 496, 3) := by decide +kernel
theorem dX5_tells_56 : decode cX5_tells 56 = .ok (.istore 5, 2) := by decide +kernel
theorem dX5_tells_58 : decode cX5_tells 58 = .ok (.iconst 0, 1) := by decide +kernel
theorem dX5_tells_59 : decode cX5_tells 59 = .ok (.istore 6, 2) := by decide +kernel
theorem dX5_tells_61 : decode cX5_tells 61 = .ok (.iload 6, 2) := by decide +kernel
theorem dX5_tells_63 : decode cX5_tells 63 = .ok (.aload_n 0, 1) := by decide +kernel
theorem dX5_tells_64 : decode cX5_tells 64 = .ok (.getfield 19, 3) := by decide +kernel
theorem dX5_tells_67 : decode cX5_tells 67 = .ok (.iconst 3, 1) := by decide +kernel
theorem dX5_tells_68 : decode cX5_tells 68 = .ok (.iaload, 1) := by decide +kernel
theorem dX5_tells_69 : decode cX5_tells 69 = .ok (.if_icmp .ge 64, 3) := by decide +kernel
theorem dX5_tells_72 : decode cX5_tells 72 = .ok (.aload_n 0, 1) := by decide +kernel
theorem dX5_tells_73 : decode cX5_tells 73 = .ok (.iconst 1, 1) := by decide +kernel
theorem dX5_tells_74 : decode cX5_tells 74 = .ok (.iload 6, 2) := by decide +kernel
theorem dX5_tells_76 : decode cX5_tells 76 = .ok (.ishl, 1) := by decide +kernel
theorem dX5_tells_77 : decode cX5_tells 77 = .ok (.putfield 148, 3) := by decide +kernel
theorem dX5_tells_80 : decode cX5_tells 80 = .ok (.aload_n 0, 1) := by decide +kernel
theorem dX5_tells_81 : decode cX5_tells 81 = .ok (.iload_n 1, 1) := by decide +kernel
theorem dX5_tells_82 : decode cX5_tells 82 = .ok (.invokevirtual 197, 3) := by decide +kernel
theorem dX5_tells_85 : decode cX5_tells 85 = .ok (.aload_n 0, 1) := by decide +kernel
theorem dX5_tells_86 : decode cX5_tells 86 = .ok (.invokevirtual 176, 3) := by decide +kernel
theorem dX5_tells_89 : decode cX5_tells 89 = .ok (.iload 5, 2) := by decide +kernel
theorem dX5_tells_91 : decode cX5_tells 91 = .ok (.if_icmp .ge 8, 3) := by decide +kernel
theorem dX5_tells_94 : decode cX5_tells 94 = .ok (.iload 6, 2) := by decide +kernel
theorem dX5_tells_96 : decode cX5_tells 96 = .ok (.goto 5, 3) := by decide +kernel
theorem dX5_tells_99 : decode cX5_tells 99 = .ok (.iload 4, 2) := by decide +kernel
theorem dX5_tells_101 : decode cX5_tells 101 = .ok (.istore 4, 2) := by decide +kernel
theorem dX5_tells_103 : decode cX5_tells 103 = .ok (.aload_n 0, 1) := by decide +kernel
theorem dX5_tells_104 : decode cX5_tells 104 = .ok (.invokevirtual 176, 3) := by decide +kernel
theorem dX5_tells_107 : decode cX5_tells 107 = .ok (.iload 5, 2) := by decide +kernel
theorem dX5_tells_109 : decode cX5_tells 109 = .ok (.if_icmp .ge 10, 3) := by decide +kernel
theorem dX5_tells_112 : decode cX5_tells 112 = .ok (.aload_n 0, 1) := by decide +kernel
theorem dX5_tells_113 : decode cX5_tells 113 = .ok (.invokevirtual 176, 3) := by decide +kernel
theorem dX5_tells_116 : decode cX5_tells 116 = .ok (.goto 5, 3) := by decide +kernel
theorem dX5_tells_119 : decode cX5_tells 119 = .ok (.iload 5, 2) := by decide +kernel
theorem dX5_tells_121 : decode cX5_tells 121 = .ok (.istore 5, 2) := by decide +kernel
theorem dX5_tells_123 : decode cX5_tells 123 = .ok (.aload_n 0, 1) := by decide +kernel
theorem dX5_tells_124 : decode cX5_tells 124 = .ok (.invokevirtual 201, 3) := by decide +kernel
theorem dX5_tells_127 : decode cX5_tells 127 = .ok (.iinc 6 1, 3) := by decide +kernel
theorem dX5_tells_130 : decode cX5_tells 130 = .ok (.goto (-69), 3) := by decide +kernel
theorem dX5_tells_133 : decode cX5_tells 133 = .ok (.aload_n 0, 1) := by decide +kernel
theorem dX5_tells_134 : decode cX5_tells 134 = .ok (.iconst 0, 1) := by decide +kernel
theorem dX5_tells_135 : decode cX5_tells 135 = .ok (.putfield 148, 3) := by decide +kernel
theorem dX5_tells_138 : decode cX5_tells 138 = .ok (.iload_n 2, 1) := by decide +kernel
theorem dX5_tells_139 : decode cX5_tells 139 = .ok (.ifCond .ne 8, 3) := by decide +kernel
theorem dX5_tells_142 : decode cX5_tells 142 = .ok (.iload 4, 2) := by decide +kernel
theorem dX5_tells_144 : decode cX5_tells 144 = .ok (.goto 11, 3) := by decide +kernel
theorem dX5_tells_147 : decode cX5_tells 147 = .ok (.iload_n 3, 1) := by decide +kernel
theorem dX5_tells_148 : decode cX5_tells 148 = .ok (.iload 5, 2) := by decide +kernel
theorem dX5_tells_150 : decode cX5_tells 150 = .ok (.isub, 1) := by decide +kernel
theorem dX5_tells_151 : decode cX5_tells 151 = .ok (.sipush 1000, 3) := by decide +kernel
theorem dX5_tells_154 : decode cX5_tells 154 = .ok (.iadd, 1) := by decide +kernel
theorem dX5_tells_155 : decode cX5_tells 155 = .ok (.ireturn, 1) := by decide +kernel
theorem dX5_lacks_0 : decode cX5_lacks 0 = .ok (.aload_n 0, 1) := by decide +kernel
theorem dX5_lacks_1 : decode cX5_lacks 1 = .ok (.getfield 13, 3) := by decide +kernel
theorem dX5_lacks_4 : decode cX5_lacks 4 = .ok (.iload_n 1, 1) := by decide +kernel
theorem dX5_lacks_5 : decode cX5_lacks 5 = .ok (.iaload, 1) := by decide +kernel
theorem dX5_lacks_6 : decode cX5_lacks 6 = .ok (.ifCond .ge 9, 3) := by decide +kernel
theorem dX5_lacks_9 : decode cX5_lacks 9 = .ok (.aload_n 0, 1) := by decide +kernel
theorem dX5_lacks_10 : decode cX5_lacks 10 = .ok (.iconst 1, 1) := by decide +kernel
theorem dX5_lacks_11 : decode cX5_lacks 11 = .ok (.invokevirtual 65, 3) := by decide +kernel
theorem dX5_lacks_14 : decode cX5_lacks 14 = .ok (.ireturn, 1) := by decide +kernel
theorem dX5_lacks_15 : decode cX5_lacks 15 = .ok (.iload_n 2, 1) := by decide +kernel
theorem dX5_lacks_16 : decode cX5_lacks 16 = .ok (.i2l, 1) := by decide +kernel
theorem dX5_lacks_17 : decode cX5_lacks 17 = .ok (.lconst 0, 1) := by decide +kernel
theorem dX5_lacks_18 : decode cX5_lacks 18 = .ok (.aload_n 0, 1) := by decide +kernel
theorem dX5_lacks_19 : decode cX5_lacks 19 = .ok (.getfield 13, 3) := by decide +kernel
theorem dX5_lacks_22 : decode cX5_lacks 22 = .ok (.iload_n 1, 1) := by decide +kernel
theorem dX5_lacks_23 : decode cX5_lacks 23 = .ok (.iaload, 1) := by decide +kernel
theorem dX5_lacks_24 : decode cX5_lacks 24 = .ok (.iload_n 3, 1) := by decide +kernel
theorem dX5_lacks_25 : decode cX5_lacks 25 = .ok (.isub, 1) := by decide +kernel
theorem dX5_lacks_26 : decode cX5_lacks 26 = .ok (.i2l, 1) := by decide +kernel
theorem dX5_lacks_27 : decode cX5_lacks 27 = .ok (.invokestatic 54, 3) := by decide +kernel
theorem dX5_lacks_30 : decode cX5_lacks 30 = .ok (.ifCond .eq 7, 3) := by decide +kernel
theorem dX5_lacks_33 : decode cX5_lacks 33 = .ok (.iconst 0, 1) := by decide +kernel
theorem dX5_lacks_34 : decode cX5_lacks 34 = .ok (.goto 8, 3) := by decide +kernel
theorem dX5_lacks_37 : decode cX5_lacks 37 = .ok (.aload_n 0, 1) := by decide +kernel
theorem dX5_lacks_38 : decode cX5_lacks 38 = .ok (.iconst 2, 1) := by decide +kernel
theorem dX5_lacks_39 : decode cX5_lacks 39 = .ok (.invokevirtual 65, 3) := by decide +kernel
theorem dX5_lacks_42 : decode cX5_lacks 42 = .ok (.ireturn, 1) := by decide +kernel
theorem dX5_isSo_0 : decode cX5_isSo 0 = .ok (.iconst 1, 1) := by decide +kernel
theorem dX5_isSo_1 : decode cX5_isSo 1 = .ok (.istore 4, 2) := by decide +kernel
theorem dX5_isSo_3 : decode cX5_isSo 3 = .ok (.iconst 0, 1) := by decide +kernel
theorem dX5_isSo_4 : decode cX5_isSo 4 = .ok (.istore 5, 2) := by decide +kernel
theorem dX5_isSo_6 : decode cX5_isSo 6 = .ok (.iload 5, 2) := by decide +kernel
theorem dX5_isSo_8 : decode cX5_isSo 8 = .ok (.iload_n 3, 1) := by decide +kernel
theorem dX5_isSo_9 : decode cX5_isSo 9 = .ok (.if_icmp .ge 46, 3) := by decide +kernel
theorem dX5_isSo_12 : decode cX5_isSo 12 = .ok (.aload_n 0, 1) := by decide +kernel
theorem dX5_isSo_13 : decode cX5_isSo 13 = .ok (.invokevirtual 173, 3) := by decide +kernel
theorem dX5_isSo_16 : decode cX5_isSo 16 = .ok (.iload 4, 2) := by decide +kernel
theorem dX5_isSo_18 : decode cX5_isSo 18 = .ok (.ifCond .eq 28, 3) := by decide +kernel
theorem dX5_isSo_21 : decode cX5_isSo 21 = .ok (.aload_n 0, 1) := by decide +kernel
theorem dX5_isSo_22 : decode cX5_isSo 22 = .ok (.getfield 16, 3) := by decide +kernel
theorem dX5_isSo_25 : decode cX5_isSo 25 = .ok (.iload_n 2, 1) := by decide +kernel
theorem dX5_isSo_26 : decode cX5_isSo 26 = .ok (.iload 5, 2) := by decide +kernel
theorem dX5_isSo_28 : decode cX5_isSo 28 = .ok (.iadd, 1) := by decide +kernel
theorem dX5_isSo_29 : decode cX5_isSo 29 = .ok (.iaload, 1) := by decide +kernel
theorem dX5_isSo_30 : decode cX5_isSo 30 = .ok (.aload_n 0, 1) := by decide +kernel
theorem dX5_isSo_31 : decode cX5_isSo 31 = .ok (.getfield 19, 3) := by decide +kernel
theorem dX5_isSo_34 : decode cX5_isSo 34 = .ok (.bipush 6, 2) := by decide +kernel
theorem dX5_isSo_36 : decode cX5_isSo 36 = .ok (.iload_n 1, 1) := by decide +kernel
theorem dX5_isSo_37 : decode cX5_isSo 37 = .ok (.iadd, 1) := by decide +kernel
theorem dX5_isSo_38 : decode cX5_isSo 38 = .ok (.iaload, 1) := by decide +kernel
theorem dX5_isSo_39 : decode cX5_isSo 39 = .ok (.if_icmp .ne 7, 3) := by decide +kernel
theorem dX5_isSo_42 : decode cX5_isSo 42 = .ok (.iconst 1, 1) := by decide +kernel
theorem dX5_isSo_43 : decode cX5_isSo 43 = .ok (.goto 4, 3) := by decide +kernel
theorem dX5_isSo_46 : decode cX5_isSo 46 = .ok (.iconst 0, 1) := by decide +kernel
theorem dX5_isSo_47 : decode cX5_isSo 47 = .ok (.istore 4, 2) := by decide +kernel
theorem dX5_isSo_49 : decode cX5_isSo 49 = .ok (.iinc 5 1, 3) := by decide +kernel
theorem dX5_isSo_52 : decode cX5_isSo 52 = .ok (.goto (-46), 3) := by decide +kernel
theorem dX5_isSo_55 : decode cX5_isSo 55 = .ok (.aload_n 0, 1) := by decide +kernel
theorem dX5_isSo_56 : decode cX5_isSo 56 = .ok (.invokevirtual 201, 3) := by decide +kernel
theorem dX5_isSo_59 : decode cX5_isSo 59 = .ok (.iload 4, 2) := by decide +kernel
theorem dX5_isSo_61 : decode cX5_isSo 61 = .ok (.ireturn, 1) := by decide +kernel
theorem dX5_lacksAsk_0 : decode cX5_lacksAsk 0 = .ok (.aload_n 0, 1) := by decide +kernel
theorem dX5_lacksAsk_1 : decode cX5_lacksAsk 1 = .ok (.iload_n 1, 1) := by decide +kernel
theorem dX5_lacksAsk_2 : decode cX5_lacksAsk 2 = .ok (.invokevirtual 183, 3) := by decide +kernel
theorem dX5_lacksAsk_5 : decode cX5_lacksAsk 5 = .ok (.ifCond .eq 23, 3) := by decide +kernel
theorem dX5_lacksAsk_8 : decode cX5_lacksAsk 8 = .ok (.iload_n 2, 1) := by decide +kernel
theorem dX5_lacksAsk_9 : decode cX5_lacksAsk 9 = .ok (.invokestatic 58, 3) := by decide +kernel
theorem dX5_lacksAsk_12 : decode cX5_lacksAsk 12 = .ok (.ifCond .eq 16, 3) := by decide +kernel
theorem dX5_lacksAsk_15 : decode cX5_lacksAsk 15 = .ok (.iload 4, 2) := by decide +kernel
theorem dX5_lacksAsk_17 : decode cX5_lacksAsk 17 = .ok (.i2l, 1) := by decide +kernel
theorem dX5_lacksAsk_18 : decode cX5_lacksAsk 18 = .ok (.lconst 1, 1) := by decide +kernel
theorem dX5_lacksAsk_19 : decode cX5_lacksAsk 19 = .ok (.ldc2_w 218, 3) := by decide +kernel
theorem dX5_lacksAsk_22 : decode cX5_lacksAsk 22 = .ok (.invokestatic 54, 3) := by decide +kernel
theorem dX5_lacksAsk_25 : decode cX5_lacksAsk 25 = .ok (.ifCond .ne 8, 3) := by decide +kernel
theorem dX5_lacksAsk_28 : decode cX5_lacksAsk 28 = .ok (.ldc 64, 2) := by decide +kernel
theorem dX5_lacksAsk_30 : decode cX5_lacksAsk 30 = .ok (.goto 11, 3) := by decide +kernel
theorem dX5_lacksAsk_33 : decode cX5_lacksAsk 33 = .ok (.aload_n 0, 1) := by decide +kernel
theorem dX5_lacksAsk_34 : decode cX5_lacksAsk 34 = .ok (.iload_n 2, 1) := by decide +kernel
theorem dX5_lacksAsk_35 : decode cX5_lacksAsk 35 = .ok (.iload_n 3, 1) := by decide +kernel
theorem dX5_lacksAsk_36 : decode cX5_lacksAsk 36 = .ok (.iload 4, 2) := by decide +kernel
theorem dX5_lacksAsk_38 : decode cX5_lacksAsk 38 = .ok (.invokevirtual 220, 3) := by decide +kernel
theorem dX5_lacksAsk_41 : decode cX5_lacksAsk 41 = .ok (.ireturn, 1) := by decide +kernel
theorem dX5_who_0 : decode cX5_who 0 = .ok (.aload_n 0, 1) := by decide +kernel
theorem dX5_who_1 : decode cX5_who 1 = .ok (.iload_n 1, 1) := by decide +kernel
theorem dX5_who_2 : decode cX5_who 2 = .ok (.invokevirtual 180, 3) := by decide +kernel
theorem dX5_who_5 : decode cX5_who 5 = .ok (.ifCond .eq 16, 3) := by decide +kernel
theorem dX5_who_8 : decode cX5_who 8 = .ok (.aload_n 0, 1) := by decide +kernel
theorem dX5_who_9 : decode cX5_who 9 = .ok (.iload_n 2, 1) := by decide +kernel
theorem dX5_who_10 : decode cX5_who 10 = .ok (.iload_n 3, 1) := by decide +kernel
theorem dX5_who_11 : decode cX5_who 11 = .ok (.iload 4, 2) := by decide +kernel
theorem dX5_who_13 : decode cX5_who 13 = .ok (.iload 5, 2) := by decide +kernel
theorem dX5_who_15 : decode cX5_who 15 = .ok (.invokevirtual 224, 3) := by decide +kernel
theorem dX5_who_18 : decode cX5_who 18 = .ok (.goto 5, 3) := by decide +kernel
theorem dX5_who_21 : decode cX5_who 21 = .ok (.ldc 64, 2) := by decide +kernel
theorem dX5_who_23 : decode cX5_who 23 = .ok (.istore 6, 2) := by decide +kernel
theorem dX5_who_25 : decode cX5_who 25 = .ok (.iload 6, 2) := by decide +kernel
theorem dX5_who_27 : decode cX5_who 27 = .ok (.ifCond .ge 6, 3) := by decide +kernel
theorem dX5_who_30 : decode cX5_who 30 = .ok (.iload 6, 2) := by decide +kernel
theorem dX5_who_32 : decode cX5_who 32 = .ok (.ireturn, 1) := by decide +kernel
theorem dX5_who_33 : decode cX5_who 33 = .ok (.aload_n 0, 1) := by decide +kernel
theorem dX5_who_34 : decode cX5_who 34 = .ok (.invokevirtual 194, 3) := by decide +kernel
theorem dX5_who_37 : decode cX5_who 37 = .ok (.iconst 0, 1) := by decide +kernel
theorem dX5_who_38 : decode cX5_who 38 = .ok (.istore 7, 2) := by decide +kernel
theorem dX5_who_40 : decode cX5_who 40 = .ok (.iconst 1, 1) := by decide +kernel
theorem dX5_who_41 : decode cX5_who 41 = .ok (.istore 8, 2) := by decide +kernel
theorem dX5_who_43 : decode cX5_who 43 = .ok (.iload 8, 2) := by decide +kernel
theorem dX5_who_45 : decode cX5_who 45 = .ok (.iconst 5, 1) := by decide +kernel
theorem dX5_who_46 : decode cX5_who 46 = .ok (.if_icmp .gt 50, 3) := by decide +kernel
theorem dX5_who_49 : decode cX5_who 49 = .ok (.aload_n 0, 1) := by decide +kernel
theorem dX5_who_50 : decode cX5_who 50 = .ok (.getfield 19, 3) := by decide +kernel
theorem dX5_who_53 : decode cX5_who 53 = .ok (.bipush 16, 2) := by decide +kernel
theorem dX5_who_55 : decode cX5_who 55 = .ok (.iload_n 1, 1) := by decide +kernel
theorem dX5_who_56 : decode cX5_who 56 = .ok (.iadd, 1) := by decide +kernel
theorem dX5_who_57 : decode cX5_who 57 = .ok (.iload 8, 2) := by decide +kernel
theorem dX5_who_59 : decode cX5_who 59 = .ok (.iastore, 1) := by decide +kernel
theorem dX5_who_60 : decode cX5_who 60 = .ok (.iload 7, 2) := by decide +kernel
theorem dX5_who_62 : decode cX5_who 62 = .ok (.aload_n 0, 1) := by decide +kernel
theorem dX5_who_63 : decode cX5_who 63 = .ok (.iload_n 2, 1) := by decide +kernel
theorem dX5_who_64 : decode cX5_who 64 = .ok (.bipush 40, 2) := by decide +kernel
theorem dX5_who_66 : decode cX5_who 66 = .ok (.iload_n 3, 1) := by decide +kernel
theorem dX5_who_67 : decode cX5_who 67 = .ok (.imul, 1) := by decide +kernel
theorem dX5_who_68 : decode cX5_who 68 = .ok (.iload 4, 2) := by decide +kernel
theorem dX5_who_70 : decode cX5_who 70 = .ok (.iadd, 1) := by decide +kernel
theorem dX5_who_71 : decode cX5_who 71 = .ok (.iload 5, 2) := by decide +kernel
theorem dX5_who_73 : decode cX5_who 73 = .ok (.invokevirtual 228, 3) := by decide +kernel
theorem dX5_who_76 : decode cX5_who 76 = .ok (.ifCond .eq 10, 3) := by decide +kernel
theorem dX5_who_79 : decode cX5_who 79 = .ok (.iconst 1, 1) := by decide +kernel
theorem dX5_who_80 : decode cX5_who 80 = .ok (.iload 8, 2) := by decide +kernel
theorem dX5_who_82 : decode cX5_who 82 = .ok (.ishl, 1) := by decide +kernel
theorem dX5_who_83 : decode cX5_who 83 = .ok (.goto 4, 3) := by decide +kernel
theorem dX5_who_86 : decode cX5_who 86 = .ok (.iconst 0, 1) := by decide +kernel
theorem dX5_who_87 : decode cX5_who 87 = .ok (.ior, 1) := by decide +kernel
theorem dX5_who_88 : decode cX5_who 88 = .ok (.istore 7, 2) := by decide +kernel
theorem dX5_who_90 : decode cX5_who 90 = .ok (.iinc 8 1, 3) := by decide +kernel
theorem dX5_who_93 : decode cX5_who 93 = .ok (.goto (-50), 3) := by decide +kernel
theorem dX5_who_96 : decode cX5_who 96 = .ok (.aload_n 0, 1) := by decide +kernel
theorem dX5_who_97 : decode cX5_who 97 = .ok (.iload 7, 2) := by decide +kernel
theorem dX5_who_99 : decode cX5_who 99 = .ok (.invokevirtual 69, 3) := by decide +kernel
theorem dX5_who_102 : decode cX5_who 102 = .ok (.ireturn, 1) := by decide +kernel
theorem dX5_houses_0 : decode cX5_houses 0 = .ok (.aload_n 0, 1) := by decide +kernel
theorem dX5_houses_1 : decode cX5_houses 1 = .ok (.iload_n 1, 1) := by decide +kernel
theorem dX5_houses_2 : decode cX5_houses 2 = .ok (.invokevirtual 180, 3) := by decide +kernel
theorem dX5_houses_5 : decode cX5_houses 5 = .ok (.ifCond .eq 16, 3) := by decide +kernel
theorem dX5_houses_8 : decode cX5_houses 8 = .ok (.aload_n 0, 1) := by decide +kernel
theorem dX5_houses_9 : decode cX5_houses 9 = .ok (.iload_n 2, 1) := by decide +kernel
theorem dX5_houses_10 : decode cX5_houses 10 = .ok (.iload_n 3, 1) := by decide +kernel
theorem dX5_houses_11 : decode cX5_houses 11 = .ok (.iload 4, 2) := by decide +kernel
theorem dX5_houses_13 : decode cX5_houses 13 = .ok (.iload 5, 2) := by decide +kernel
theorem dX5_houses_15 : decode cX5_houses 15 = .ok (.invokevirtual 224, 3) := by decide +kernel
theorem dX5_houses_18 : decode cX5_houses 18 = .ok (.goto 5, 3) := by decide +kernel
theorem dX5_houses_21 : decode cX5_houses 21 = .ok (.ldc 64, 2) := by decide +kernel
theorem dX5_houses_23 : decode cX5_houses 23 = .ok (.istore 6, 2) := by decide +kernel
theorem dX5_houses_25 : decode cX5_houses 25 = .ok (.iload 6, 2) := by decide +kernel
theorem dX5_houses_27 : decode cX5_houses 27 = .ok (.ifCond .ge 6, 3) := by decide +kernel
theorem dX5_houses_30 : decode cX5_houses 30 = .ok (.iload 6, 2) := by decide +kernel
theorem dX5_houses_32 : decode cX5_houses 32 = .ok (.ireturn, 1) := by decide +kernel
theorem dX5_houses_33 : decode cX5_houses 33 = .ok (.aload_n 0, 1) := by decide +kernel
theorem dX5_houses_34 : decode cX5_houses 34 = .ok (.invokevirtual 194, 3) := by decide +kernel
theorem dX5_houses_37 : decode cX5_houses 37 = .ok (.iconst 0, 1) := by decide +kernel
theorem dX5_houses_38 : decode cX5_houses 38 = .ok (.istore 7, 2) := by decide +kernel
theorem dX5_houses_40 : decode cX5_houses 40 = .ok (.iconst 0, 1) := by decide +kernel
theorem dX5_houses_41 : decode cX5_houses 41 = .ok (.istore 8, 2) := by decide +kernel
theorem dX5_houses_43 : decode cX5_houses 43 = .ok (.iload 8, 2) := by decide +kernel
theorem dX5_houses_45 : decode cX5_houses 45 = .ok (.aload_n 0, 1) := by decide +kernel
theorem dX5_houses_46 : decode cX5_houses 46 = .ok (.getfield 19, 3) := by decide +kernel
theorem dX5_houses_49 : decode cX5_houses 49 = .ok (.iconst 2, 1) := by decide +kernel
theorem dX5_houses_50 : decode cX5_houses 50 = .ok (.iaload, 1) := by decide +kernel
theorem dX5_houses_51 : decode cX5_houses 51 = .ok (.if_icmp .ge 46, 3) := by decide +kernel
theorem dX5_houses_54 : decode cX5_houses 54 = .ok (.aload_n 0, 1) := by decide +kernel
theorem dX5_houses_55 : decode cX5_houses 55 = .ok (.iload_n 1, 1) := by decide +kernel
theorem dX5_houses_56 : decode cX5_houses 56 = .ok (.iload 8, 2) := by decide +kernel
theorem dX5_houses_58 : decode cX5_houses 58 = .ok (.invokevirtual 186, 3) := by decide +kernel
theorem dX5_houses_61 : decode cX5_houses 61 = .ok (.iload 7, 2) := by decide +kernel
theorem dX5_houses_63 : decode cX5_houses 63 = .ok (.aload_n 0, 1) := by decide +kernel
theorem dX5_houses_64 : decode cX5_houses 64 = .ok (.iload_n 2, 1) := by decide +kernel
theorem dX5_houses_65 : decode cX5_houses 65 = .ok (.bipush 40, 2) := by decide +kernel
theorem dX5_houses_67 : decode cX5_houses 67 = .ok (.iload_n 3, 1) := by decide +kernel
theorem dX5_houses_68 : decode cX5_houses 68 = .ok (.imul, 1) := by decide +kernel
theorem dX5_houses_69 : decode cX5_houses 69 = .ok (.iload 4, 2) := by decide +kernel
theorem dX5_houses_71 : decode cX5_houses 71 = .ok (.iadd, 1) := by decide +kernel
theorem dX5_houses_72 : decode cX5_houses 72 = .ok (.iload 5, 2) := by decide +kernel
theorem dX5_houses_74 : decode cX5_houses 74 = .ok (.invokevirtual 228, 3) := by decide +kernel
theorem dX5_houses_77 : decode cX5_houses 77 = .ok (.ifCond .eq 10, 3) := by decide +kernel
theorem dX5_houses_80 : decode cX5_houses 80 = .ok (.iconst 1, 1) := by decide +kernel
theorem dX5_houses_81 : decode cX5_houses 81 = .ok (.iload 8, 2) := by decide +kernel
theorem dX5_houses_83 : decode cX5_houses 83 = .ok (.ishl, 1) := by decide +kernel
theorem dX5_houses_84 : decode cX5_houses 84 = .ok (.goto 4, 3) := by decide +kernel
theorem dX5_houses_87 : decode cX5_houses 87 = .ok (.iconst 0, 1) := by decide +kernel
theorem dX5_houses_88 : decode cX5_houses 88 = .ok (.ior, 1) := by decide +kernel
theorem dX5_houses_89 : decode cX5_houses 89 = .ok (.istore 7, 2) := by decide +kernel
theorem dX5_houses_91 : decode cX5_houses 91 = .ok (.iinc 8 1, 3) := by decide +kernel
theorem dX5_houses_94 : decode cX5_houses 94 = .ok (.goto (-51), 3) := by decide +kernel
theorem dX5_houses_97 : decode cX5_houses 97 = .ok (.aload_n 0, 1) := by decide +kernel
theorem dX5_houses_98 : decode cX5_houses 98 = .ok (.iload 7, 2) := by decide +kernel
theorem dX5_houses_100 : decode cX5_houses 100 = .ok (.invokevirtual 69, 3) := by decide +kernel
theorem dX5_houses_103 : decode cX5_houses 103 = .ok (.ireturn, 1) := by decide +kernel
theorem dX5_weights_0 : decode cX5_weights 0 = .ok (.aload_n 0, 1) := by decide +kernel
theorem dX5_weights_1 : decode cX5_weights 1 = .ok (.iload_n 1, 1) := by decide +kernel
theorem dX5_weights_2 : decode cX5_weights 2 = .ok (.invokevirtual 180, 3) := by decide +kernel
theorem dX5_weights_5 : decode cX5_weights 5 = .ok (.ifCond .eq 16, 3) := by decide +kernel
theorem dX5_weights_8 : decode cX5_weights 8 = .ok (.aload_n 0, 1) := by decide +kernel
theorem dX5_weights_9 : decode cX5_weights 9 = .ok (.iload_n 2, 1) := by decide +kernel
theorem dX5_weights_10 : decode cX5_weights 10 = .ok (.iload_n 3, 1) := by decide +kernel
theorem dX5_weights_11 : decode cX5_weights 11 = .ok (.iload 4, 2) := by decide +kernel
theorem dX5_weights_13 : decode cX5_weights 13 = .ok (.iload 5, 2) := by decide +kernel
theorem dX5_weights_15 : decode cX5_weights 15 = .ok (.invokevirtual 224, 3) := by decide +kernel
theorem dX5_weights_18 : decode cX5_weights 18 = .ok (.goto 5, 3) := by decide +kernel
theorem dX5_weights_21 : decode cX5_weights 21 = .ok (.ldc 64, 2) := by decide +kernel
theorem dX5_weights_23 : decode cX5_weights 23 = .ok (.istore 6, 2) := by decide +kernel
theorem dX5_weights_25 : decode cX5_weights 25 = .ok (.iload 6, 2) := by decide +kernel
theorem dX5_weights_27 : decode cX5_weights 27 = .ok (.ifCond .ge 6, 3) := by decide +kernel
theorem dX5_weights_30 : decode cX5_weights 30 = .ok (.iload 6, 2) := by decide +kernel
theorem dX5_weights_32 : decode cX5_weights 32 = .ok (.ireturn, 1) := by decide +kernel
theorem dX5_weights_33 : decode cX5_weights 33 = .ok (.aload_n 0, 1) := by decide +kernel
theorem dX5_weights_34 : decode cX5_weights 34 = .ok (.invokevirtual 194, 3) := by decide +kernel
theorem dX5_weights_37 : decode cX5_weights 37 = .ok (.iconst 0, 1) := by decide +kernel
theorem dX5_weights_38 : decode cX5_weights 38 = .ok (.istore 7, 2) := by decide +kernel
theorem dX5_weights_40 : decode cX5_weights 40 = .ok (.iconst 1, 1) := by decide +kernel
theorem dX5_weights_41 : decode cX5_weights 41 = .ok (.istore 8, 2) := by decide +kernel
theorem dX5_weights_43 : decode cX5_weights 43 = .ok (.iload 8, 2) := by decide +kernel
theorem dX5_weights_45 : decode cX5_weights 45 = .ok (.bipush 10, 2) := by decide +kernel
theorem dX5_weights_47 : decode cX5_weights 47 = .ok (.if_icmp .ge 50, 3) := by decide +kernel
theorem dX5_weights_50 : decode cX5_weights 50 = .ok (.aload_n 0, 1) := by decide +kernel
theorem dX5_weights_51 : decode cX5_weights 51 = .ok (.getfield 19, 3) := by decide +kernel
theorem dX5_weights_54 : decode cX5_weights 54 = .ok (.bipush 28, 2) := by decide +kernel
theorem dX5_weights_56 : decode cX5_weights 56 = .ok (.iload_n 1, 1) := by decide +kernel
theorem dX5_weights_57 : decode cX5_weights 57 = .ok (.iadd, 1) := by decide +kernel
theorem dX5_weights_58 : decode cX5_weights 58 = .ok (.iload 8, 2) := by decide +kernel
theorem dX5_weights_60 : decode cX5_weights 60 = .ok (.iastore, 1) := by decide +kernel
theorem dX5_weights_61 : decode cX5_weights 61 = .ok (.iload 7, 2) := by decide +kernel
theorem dX5_weights_63 : decode cX5_weights 63 = .ok (.aload_n 0, 1) := by decide +kernel
theorem dX5_weights_64 : decode cX5_weights 64 = .ok (.iload_n 2, 1) := by decide +kernel
theorem dX5_weights_65 : decode cX5_weights 65 = .ok (.bipush 40, 2) := by decide +kernel
theorem dX5_weights_67 : decode cX5_weights 67 = .ok (.iload_n 3, 1) := by decide +kernel
theorem dX5_weights_68 : decode cX5_weights 68 = .ok (.imul, 1) := by decide +kernel
theorem dX5_weights_69 : decode cX5_weights 69 = .ok (.iload 4, 2) := by decide +kernel
theorem dX5_weights_71 : decode cX5_weights 71 = .ok (.iadd, 1) := by decide +kernel
theorem dX5_weights_72 : decode cX5_weights 72 = .ok (.iload 5, 2) := by decide +kernel
theorem dX5_weights_74 : decode cX5_weights 74 = .ok (.invokevirtual 228, 3) := by decide +kernel
theorem dX5_weights_77 : decode cX5_weights 77 = .ok (.ifCond .eq 10, 3) := by decide +kernel
theorem dX5_weights_80 : decode cX5_weights 80 = .ok (.iconst 1, 1) := by decide +kernel
theorem dX5_weights_81 : decode cX5_weights 81 = .ok (.iload 8, 2) := by decide +kernel
theorem dX5_weights_83 : decode cX5_weights 83 = .ok (.ishl, 1) := by decide +kernel
theorem dX5_weights_84 : decode cX5_weights 84 = .ok (.goto 4, 3) := by decide +kernel
theorem dX5_weights_87 : decode cX5_weights 87 = .ok (.iconst 0, 1) := by decide +kernel
theorem dX5_weights_88 : decode cX5_weights 88 = .ok (.ior, 1) := by decide +kernel
theorem dX5_weights_89 : decode cX5_weights 89 = .ok (.istore 7, 2) := by decide +kernel
theorem dX5_weights_91 : decode cX5_weights 91 = .ok (.iinc 8 1, 3) := by decide +kernel
theorem dX5_weights_94 : decode cX5_weights 94 = .ok (.goto (-51), 3) := by decide +kernel
theorem dX5_weights_97 : decode cX5_weights 97 = .ok (.aload_n 0, 1) := by decide +kernel
theorem dX5_weights_98 : decode cX5_weights 98 = .ok (.iload 7, 2) := by decide +kernel
theorem dX5_weights_100 : decode cX5_weights 100 = .ok (.invokevirtual 69, 3) := by decide +kernel
theorem dX5_weights_103 : decode cX5_weights 103 = .ok (.ireturn, 1) := by decide +kernel
theorem dX5_absent_0 : decode cX5_absent 0 = .ok (.aload_n 0, 1) := by decide +kernel
theorem dX5_absent_1 : decode cX5_absent 1 = .ok (.iload_n 1, 1) := by decide +kernel
theorem dX5_absent_2 : decode cX5_absent 2 = .ok (.iload_n 2, 1) := by decide +kernel
theorem dX5_absent_3 : decode cX5_absent 3 = .ok (.iload_n 3, 1) := by decide +kernel
theorem dX5_absent_4 : decode cX5_absent 4 = .ok (.iload 4, 2) := by decide +kernel
theorem dX5_absent_6 : decode cX5_absent 6 = .ok (.invokevirtual 224, 3) := by decide +kernel
theorem dX5_absent_9 : decode cX5_absent 9 = .ok (.istore 5, 2) := by decide +kernel
theorem dX5_absent_11 : decode cX5_absent 11 = .ok (.iload 5, 2) := by decide +kernel
theorem dX5_absent_13 : decode cX5_absent 13 = .ok (.ifCond .ge 6, 3) := by decide +kernel
theorem dX5_absent_16 : decode cX5_absent 16 = .ok (.iload 5, 2) := by decide +kernel
theorem dX5_absent_18 : decode cX5_absent 18 = .ok (.ireturn, 1) := by decide +kernel
theorem dX5_absent_19 : decode cX5_absent 19 = .ok (.aload_n 0, 1) := by decide +kernel
theorem dX5_absent_20 : decode cX5_absent 20 = .ok (.invokevirtual 194, 3) := by decide +kernel
theorem dX5_absent_23 : decode cX5_absent 23 = .ok (.aload_n 0, 1) := by decide +kernel
theorem dX5_absent_24 : decode cX5_absent 24 = .ok (.iload_n 1, 1) := by decide +kernel
theorem dX5_absent_25 : decode cX5_absent 25 = .ok (.bipush 40, 2) := by decide +kernel
theorem dX5_absent_27 : decode cX5_absent 27 = .ok (.iload_n 2, 1) := by decide +kernel
theorem dX5_absent_28 : decode cX5_absent 28 = .ok (.imul, 1) := by decide +kernel
theorem dX5_absent_29 : decode cX5_absent 29 = .ok (.iload_n 3, 1) := by decide +kernel
theorem dX5_absent_30 : decode cX5_absent 30 = .ok (.iadd, 1) := by decide +kernel
theorem dX5_absent_31 : decode cX5_absent 31 = .ok (.iload 4, 2) := by decide +kernel
theorem dX5_absent_33 : decode cX5_absent 33 = .ok (.invokevirtual 228, 3) := by decide +kernel
theorem dX5_absent_36 : decode cX5_absent 36 = .ok (.ifCond .eq 8, 3) := by decide +kernel
theorem dX5_absent_39 : decode cX5_absent 39 = .ok (.bipush 64, 2) := by decide +kernel
theorem dX5_absent_41 : decode cX5_absent 41 = .ok (.goto 4, 3) := by decide +kernel
theorem dX5_absent_44 : decode cX5_absent 44 = .ok (.iconst 0, 1) := by decide +kernel
theorem dX5_absent_45 : decode cX5_absent 45 = .ok (.istore 6, 2) := by decide +kernel
theorem dX5_absent_47 : decode cX5_absent 47 = .ok (.iconst 0, 1) := by decide +kernel
theorem dX5_absent_48 : decode cX5_absent 48 = .ok (.istore 7, 2) := by decide +kernel
theorem dX5_absent_50 : decode cX5_absent 50 = .ok (.iload 7, 2) := by decide +kernel
theorem dX5_absent_52 : decode cX5_absent 52 = .ok (.aload_n 0, 1) := by decide +kernel
theorem dX5_absent_53 : decode cX5_absent 53 = .ok (.getfield 19, 3) := by decide +kernel
theorem dX5_absent_56 : decode cX5_absent 56 = .ok (.iconst 3, 1) := by decide +kernel
theorem dX5_absent_57 : decode cX5_absent 57 = .ok (.iaload, 1) := by decide +kernel
theorem dX5_absent_58 : decode cX5_absent 58 = .ok (.if_icmp .ge 46, 3) := by decide +kernel
theorem dX5_absent_61 : decode cX5_absent 61 = .ok (.aload_n 0, 1) := by decide +kernel
theorem dX5_absent_62 : decode cX5_absent 62 = .ok (.iconst 1, 1) := by decide +kernel
theorem dX5_absent_63 : decode cX5_absent 63 = .ok (.iload 7, 2) := by decide +kernel
theorem dX5_absent_65 : decode cX5_absent 65 = .ok (.ishl, 1) := by decide +kernel
theorem dX5_absent_66 : decode cX5_absent 66 = .ok (.putfield 148, 3) := by decide +kernel
theorem dX5_absent_69 : decode cX5_absent 69 = .ok (.iload 6, 2) := by decide +kernel
theorem dX5_absent_71 : decode cX5_absent 71 = .ok (.aload_n 0, 1) := by decide +kernel
theorem dX5_absent_72 : decode cX5_absent 72 = .ok (.iload_n 1, 1) := by decide +kernel
theorem dX5_absent_73 : decode cX5_absent 73 = .ok (.bipush 40, 2) := by decide +kernel
theorem dX5_absent_75 : decode cX5_absent 75 = .ok (.iload_n 2, 1) := by decide +kernel
theorem dX5_absent_76 : decode cX5_absent 76 = .ok (.imul, 1) := by decide +kernel
theorem dX5_absent_77 : decode cX5_absent 77 = .ok (.iload_n 3, 1) := by decide +kernel
theorem dX5_absent_78 : decode cX5_absent 78 = .ok (.iadd, 1) := by decide +kernel
theorem dX5_absent_79 : decode cX5_absent 79 = .ok (.iload 4, 2) := by decide +kernel
theorem dX5_absent_81 : decode cX5_absent 81 = .ok (.invokevirtual 228, 3) := by decide +kernel
theorem dX5_absent_84 : decode cX5_absent 84 = .ok (.ifCond .eq 10, 3) := by decide +kernel
theorem dX5_absent_87 : decode cX5_absent 87 = .ok (.iconst 1, 1) := by decide +kernel
theorem dX5_absent_88 : decode cX5_absent 88 = .ok (.iload 7, 2) := by decide +kernel
theorem dX5_absent_90 : decode cX5_absent 90 = .ok (.ishl, 1) := by decide +kernel
theorem dX5_absent_91 : decode cX5_absent 91 = .ok (.goto 4, 3) := by decide +kernel
theorem dX5_absent_94 : decode cX5_absent 94 = .ok (.iconst 0, 1) := by decide +kernel
theorem dX5_absent_95 : decode cX5_absent 95 = .ok (.ior, 1) := by decide +kernel
theorem dX5_absent_96 : decode cX5_absent 96 = .ok (.istore 6, 2) := by decide +kernel
theorem dX5_absent_98 : decode cX5_absent 98 = .ok (.iinc 7 1, 3) := by decide +kernel
theorem dX5_absent_101 : decode cX5_absent 101 = .ok (.goto (-51), 3) := by decide +kernel
theorem dX5_absent_104 : decode cX5_absent 104 = .ok (.aload_n 0, 1) := by decide +kernel
theorem dX5_absent_105 : decode cX5_absent 105 = .ok (.iconst 0, 1) := by decide +kernel
theorem dX5_absent_106 : decode cX5_absent 106 = .ok (.putfield 148, 3) := by decide +kernel
theorem dX5_absent_109 : decode cX5_absent 109 = .ok (.aload_n 0, 1) := by decide +kernel
theorem dX5_absent_110 : decode cX5_absent 110 = .ok (.iload 6, 2) := by decide +kernel
theorem dX5_absent_112 : decode cX5_absent 112 = .ok (.invokevirtual 69, 3) := by decide +kernel
theorem dX5_absent_115 : decode cX5_absent 115 = .ok (.ireturn, 1) := by decide +kernel
theorem dX5_isFree_0 : decode cX5_isFree 0 = .ok (.aload_n 0, 1) := by decide +kernel
theorem dX5_isFree_1 : decode cX5_isFree 1 = .ok (.getfield 19, 3) := by decide +kernel
theorem dX5_isFree_4 : decode cX5_isFree 4 = .ok (.iconst 5, 1) := by decide +kernel
theorem dX5_isFree_5 : decode cX5_isFree 5 = .ok (.iaload, 1) := by decide +kernel
theorem dX5_isFree_6 : decode cX5_isFree 6 = .ok (.iload_n 1, 1) := by decide +kernel
theorem dX5_isFree_7 : decode cX5_isFree 7 = .ok (.invokestatic 151, 3) := by decide +kernel
theorem dX5_isFree_10 : decode cX5_isFree 10 = .ok (.ifCond .ne 15, 3) := by decide +kernel
theorem dX5_isFree_13 : decode cX5_isFree 13 = .ok (.aload_n 0, 1) := by decide +kernel
theorem dX5_isFree_14 : decode cX5_isFree 14 = .ok (.iload_n 1, 1) := by decide +kernel
theorem dX5_isFree_15 : decode cX5_isFree 15 = .ok (.invokevirtual 155, 3) := by decide +kernel
theorem dX5_isFree_18 : decode cX5_isFree 18 = .ok (.ifCond .ne 7, 3) := by decide +kernel
theorem dX5_isFree_21 : decode cX5_isFree 21 = .ok (.iconst 1, 1) := by decide +kernel
theorem dX5_isFree_22 : decode cX5_isFree 22 = .ok (.goto 4, 3) := by decide +kernel
theorem dX5_isFree_25 : decode cX5_isFree 25 = .ok (.iconst 0, 1) := by decide +kernel
theorem dX5_isFree_26 : decode cX5_isFree 26 = .ok (.ireturn, 1) := by decide +kernel
theorem dX5_greets_0 : decode cX5_greets 0 = .ok (.aload_n 0, 1) := by decide +kernel
theorem dX5_greets_1 : decode cX5_greets 1 = .ok (.getfield 135, 3) := by decide +kernel
theorem dX5_greets_4 : decode cX5_greets 4 = .ok (.ifCond .ne 6, 3) := by decide +kernel
theorem dX5_greets_7 : decode cX5_greets 7 = .ok (.ldc 167, 2) := by decide +kernel
theorem dX5_greets_9 : decode cX5_greets 9 = .ok (.ireturn, 1) := by decide +kernel
theorem dX5_greets_10 : decode cX5_greets 10 = .ok (.iload_n 1, 1) := by decide +kernel
theorem dX5_greets_11 : decode cX5_greets 11 = .ok (.invokestatic 209, 3) := by decide +kernel
theorem dX5_greets_14 : decode cX5_greets 14 = .ok (.ifCond .ne 6, 3) := by decide +kernel
theorem dX5_greets_17 : decode cX5_greets 17 = .ok (.ldc 64, 2) := by decide +kernel
theorem dX5_greets_19 : decode cX5_greets 19 = .ok (.ireturn, 1) := by decide +kernel
theorem dX5_greets_20 : decode cX5_greets 20 = .ok (.iconst 0, 1) := by decide +kernel
theorem dX5_greets_21 : decode cX5_greets 21 = .ok (.istore_n 2, 1) := by decide +kernel
theorem dX5_greets_22 : decode cX5_greets 22 = .ok (.ldc 204, 2) := by decide +kernel
theorem dX5_greets_24 : decode cX5_greets 24 = .ok (.istore_n 3, 1) := by decide +kernel
theorem dX5_greets_25 : decode cX5_greets 25 = .ok (.aload_n 0, 1) := by decide +kernel
theorem dX5_greets_26 : decode cX5_greets 26 = .ok (.getfield 19, 3) := by decide +kernel
theorem dX5_greets_29 : decode cX5_greets 29 = .ok (.iconst 2, 1) := by decide +kernel
theorem dX5_greets_30 : decode cX5_greets 30 = .ok (.iaload, 1) := by decide +kernel
theorem dX5_greets_31 : decode cX5_greets 31 = .ok (.iconst 2, 1) := by decide +kernel
theorem dX5_greets_32 : decode cX5_greets 32 = .ok (.isub, 1) := by decide +kernel
theorem dX5_greets_33 : decode cX5_greets 33 = .ok (.istore 4, 2) := by decide +kernel
theorem dX5_greets_35 : decode cX5_greets 35 = .ok (.iload 4, 2) := by decide +kernel
theorem dX5_greets_37 : decode cX5_greets 37 = .ok (.ifCond .lt 40, 3) := by decide +kernel
theorem dX5_greets_40 : decode cX5_greets 40 = .ok (.aload_n 0, 1) := by decide +kernel
theorem dX5_greets_41 : decode cX5_greets 41 = .ok (.iload 4, 2) := by decide +kernel
theorem dX5_greets_43 : decode cX5_greets 43 = .ok (.invokevirtual 232, 3) := by decide +kernel
theorem dX5_greets_46 : decode cX5_greets 46 = .ok (.ifCond .eq 25, 3) := by decide +kernel
theorem dX5_greets_49 : decode cX5_greets 49 = .ok (.aload_n 0, 1) := by decide +kernel
theorem dX5_greets_50 : decode cX5_greets 50 = .ok (.iload 4, 2) := by decide +kernel
theorem dX5_greets_52 : decode cX5_greets 52 = .ok (.iconst 1, 1) := by decide +kernel
theorem dX5_greets_53 : decode cX5_greets 53 = .ok (.iadd, 1) := by decide +kernel
theorem dX5_greets_54 : decode cX5_greets 54 = .ok (.invokevirtual 232, 3) := by decide +kernel
theorem dX5_greets_57 : decode cX5_greets 57 = .ok (.ifCond .eq 14, 3) := by decide +kernel
theorem dX5_greets_60 : decode cX5_greets 60 = .ok (.bipush 11, 2) := by decide +kernel
theorem dX5_greets_62 : decode cX5_greets 62 = .ok (.iload 4, 2) := by decide +kernel
theorem dX5_greets_64 : decode cX5_greets 64 = .ok (.imul, 1) := by decide +kernel
theorem dX5_greets_65 : decode cX5_greets 65 = .ok (.iconst 1, 1) := by decide +kernel
theorem dX5_greets_66 : decode cX5_greets 66 = .ok (.iadd, 1) := by decide +kernel
theorem dX5_greets_67 : decode cX5_greets 67 = .ok (.istore_n 3, 1) := by decide +kernel
theorem dX5_greets_68 : decode cX5_greets 68 = .ok (.iinc 2 1, 3) := by decide +kernel
theorem dX5_greets_71 : decode cX5_greets 71 = .ok (.iinc 4 (-1), 3) := by decide +kernel
theorem dX5_greets_74 : decode cX5_greets 74 = .ok (.goto (-39), 3) := by decide +kernel
theorem dX5_greets_77 : decode cX5_greets 77 = .ok (.iload_n 1, 1) := by decide +kernel
theorem dX5_greets_78 : decode cX5_greets 78 = .ok (.ifCond .ne 7, 3) := by decide +kernel
theorem dX5_greets_81 : decode cX5_greets 81 = .ok (.iload_n 2, 1) := by decide +kernel
theorem dX5_greets_82 : decode cX5_greets 82 = .ok (.goto 4, 3) := by decide +kernel
theorem dX5_greets_85 : decode cX5_greets 85 = .ok (.iload_n 3, 1) := by decide +kernel
theorem dX5_greets_86 : decode cX5_greets 86 = .ok (.ireturn, 1) := by decide +kernel
theorem dX5_talk_0 : decode cX5_talk 0 = .ok (.aload_n 0, 1) := by decide +kernel
theorem dX5_talk_1 : decode cX5_talk 1 = .ok (.iload_n 1, 1) := by decide +kernel
theorem dX5_talk_2 : decode cX5_talk 2 = .ok (.invokevirtual 183, 3) := by decide +kernel
theorem dX5_talk_5 : decode cX5_talk 5 = .ok (.ifCond .eq 16, 3) := by decide +kernel
theorem dX5_talk_8 : decode cX5_talk 8 = .ok (.aload_n 0, 1) := by decide +kernel
theorem dX5_talk_9 : decode cX5_talk 9 = .ok (.iload_n 2, 1) := by decide +kernel
theorem dX5_talk_10 : decode cX5_talk 10 = .ok (.invokevirtual 183, 3) := by decide +kernel
theorem dX5_talk_13 : decode cX5_talk 13 = .ok (.ifCond .eq 8, 3) := by decide +kernel
theorem dX5_talk_16 : decode cX5_talk 16 = .ok (.iload_n 1, 1) := by decide +kernel
theorem dX5_talk_17 : decode cX5_talk 17 = .ok (.iload_n 2, 1) := by decide +kernel
theorem dX5_talk_18 : decode cX5_talk 18 = .ok (.if_icmp .ne 6, 3) := by decide +kernel
theorem dX5_talk_21 : decode cX5_talk 21 = .ok (.ldc 64, 2) := by decide +kernel
theorem dX5_talk_23 : decode cX5_talk 23 = .ok (.ireturn, 1) := by decide +kernel
theorem dX5_talk_24 : decode cX5_talk 24 = .ok (.iconst 1, 1) := by decide +kernel
theorem dX5_talk_25 : decode cX5_talk 25 = .ok (.istore_n 3, 1) := by decide +kernel
theorem dX5_talk_26 : decode cX5_talk 26 = .ok (.iconst 0, 1) := by decide +kernel
theorem dX5_talk_27 : decode cX5_talk 27 = .ok (.istore 4, 2) := by decide +kernel
theorem dX5_talk_29 : decode cX5_talk 29 = .ok (.iload 4, 2) := by decide +kernel
theorem dX5_talk_31 : decode cX5_talk 31 = .ok (.aload_n 0, 1) := by decide +kernel
theorem dX5_talk_32 : decode cX5_talk 32 = .ok (.getfield 19, 3) := by decide +kernel
theorem dX5_talk_35 : decode cX5_talk 35 = .ok (.iconst 2, 1) := by decide +kernel
theorem dX5_talk_36 : decode cX5_talk 36 = .ok (.iaload, 1) := by decide +kernel
theorem dX5_talk_37 : decode cX5_talk 37 = .ok (.if_icmp .ge 67, 3) := by decide +kernel
theorem dX5_talk_40 : decode cX5_talk 40 = .ok (.iload 4, 2) := by decide +kernel
theorem dX5_talk_42 : decode cX5_talk 42 = .ok (.i2l, 1) := by decide +kernel
theorem dX5_talk_43 : decode cX5_talk 43 = .ok (.iload_n 1, 1) := by decide +kernel
theorem dX5_talk_44 : decode cX5_talk 44 = .ok (.i2l, 1) := by decide +kernel
theorem dX5_talk_45 : decode cX5_talk 45 = .ok (.iload_n 2, 1) := by decide +kernel
theorem dX5_talk_46 : decode cX5_talk 46 = .ok (.i2l, 1) := by decide +kernel
theorem dX5_talk_47 : decode cX5_talk 47 = .ok (.invokestatic 54, 3) := by decide +kernel
theorem dX5_talk_50 : decode cX5_talk 50 = .ok (.ifCond .ne 16, 3) := by decide +kernel
theorem dX5_talk_53 : decode cX5_talk 53 = .ok (.iload 4, 2) := by decide +kernel
theorem dX5_talk_55 : decode cX5_talk 55 = .ok (.i2l, 1) := by decide +kernel
theorem dX5_talk_56 : decode cX5_talk 56 = .ok (.iload_n 2, 1) := by decide +kernel
theorem dX5_talk_57 : decode cX5_talk 57 = .ok (.i2l, 1) := by decide +kernel
theorem dX5_talk_58 : decode cX5_talk 58 = .ok (.iload_n 1, 1) := by decide +kernel
theorem dX5_talk_59 : decode cX5_talk 59 = .ok (.i2l, 1) := by decide +kernel
theorem dX5_talk_60 : decode cX5_talk 60 = .ok (.invokestatic 54, 3) := by decide +kernel
theorem dX5_talk_63 : decode cX5_talk 63 = .ok (.ifCond .eq 7, 3) := by decide +kernel
theorem dX5_talk_66 : decode cX5_talk 66 = .ok (.iconst 1, 1) := by decide +kernel
theorem dX5_talk_67 : decode cX5_talk 67 = .ok (.goto 4, 3) := by decide +kernel
theorem dX5_talk_70 : decode cX5_talk 70 = .ok (.iconst 0, 1) := by decide +kernel
theorem dX5_talk_71 : decode cX5_talk 71 = .ok (.istore 5, 2) := by decide +kernel
theorem dX5_talk_73 : decode cX5_talk 73 = .ok (.iload 5, 2) := by decide +kernel
theorem dX5_talk_75 : decode cX5_talk 75 = .ok (.ifCond .eq 21, 3) := by decide +kernel
theorem dX5_talk_78 : decode cX5_talk 78 = .ok (.aload_n 0, 1) := by decide +kernel
theorem dX5_talk_79 : decode cX5_talk 79 = .ok (.getfield 19, 3) := by decide +kernel
theorem dX5_talk_82 : decode cX5_talk 82 = .ok (.iconst 5, 1) := by decide +kernel
theorem dX5_talk_83 : decode cX5_talk 83 = .ok (.iaload, 1) := by decide +kernel
theorem dX5_talk_84 : decode cX5_talk 84 = .ok (.iload 4, 2) := by decide +kernel
theorem dX5_talk_86 : decode cX5_talk 86 = .ok (.invokestatic 151, 3) := by decide +kernel
theorem dX5_talk_89 : decode cX5_talk 89 = .ok (.ifCond .eq 7, 3) := by decide +kernel
theorem dX5_talk_92 : decode cX5_talk 92 = .ok (.iconst 0, 1) := by decide +kernel
theorem dX5_talk_93 : decode cX5_talk 93 = .ok (.goto 4, 3) := by decide +kernel
theorem dX5_talk_96 : decode cX5_talk 96 = .ok (.iload_n 3, 1) := by decide +kernel
theorem dX5_talk_97 : decode cX5_talk 97 = .ok (.istore_n 3, 1) := by decide +kernel
theorem dX5_talk_98 : decode cX5_talk 98 = .ok (.iinc 4 1, 3) := by decide +kernel
theorem dX5_talk_101 : decode cX5_talk 101 = .ok (.goto (-72), 3) := by decide +kernel
theorem dX5_talk_104 : decode cX5_talk 104 = .ok (.iload_n 3, 1) := by decide +kernel
theorem dX5_talk_105 : decode cX5_talk 105 = .ok (.ireturn, 1) := by decide +kernel
theorem dX5_alone_0 : decode cX5_alone 0 = .ok (.aload_n 0, 1) := by decide +kernel
theorem dX5_alone_1 : decode cX5_alone 1 = .ok (.getfield 135, 3) := by decide +kernel
theorem dX5_alone_4 : decode cX5_alone 4 = .ok (.ifCond .ne 6, 3) := by decide +kernel
theorem dX5_alone_7 : decode cX5_alone 7 = .ok (.ldc 167, 2) := by decide +kernel
theorem dX5_alone_9 : decode cX5_alone 9 = .ok (.ireturn, 1) := by decide +kernel
theorem dX5_alone_10 : decode cX5_alone 10 = .ok (.iconst 0, 1) := by decide +kernel
theorem dX5_alone_11 : decode cX5_alone 11 = .ok (.istore_n 1, 1) := by decide +kernel
theorem dX5_alone_12 : decode cX5_alone 12 = .ok (.iconst (-1), 1) := by decide +kernel
theorem dX5_alone_13 : decode cX5_alone 13 = .ok (.istore_n 2, 1) := by decide +kernel
theorem dX5_alone_14 : decode cX5_alone 14 = .ok (.iconst 0, 1) := by decide +kernel
theorem dX5_alone_15 : decode cX5_alone 15 = .ok (.istore_n 3, 1) := by decide +kernel
theorem dX5_alone_16 : decode cX5_alone 16 = .ok (.iload_n 3, 1) := by decide +kernel
theorem dX5_alone_17 : decode cX5_alone 17 = .ok (.aload_n 0, 1) := by decide +kernel
theorem dX5_alone_18 : decode cX5_alone 18 = .ok (.getfield 19, 3) := by decide +kernel
theorem dX5_alone_21 : decode cX5_alone 21 = .ok (.iconst 2, 1) := by decide +kernel
theorem dX5_alone_22 : decode cX5_alone 22 = .ok (.iaload, 1) := by decide +kernel
theorem dX5_alone_23 : decode cX5_alone 23 = .ok (.if_icmp .ge 61, 3) := by decide +kernel
theorem dX5_alone_26 : decode cX5_alone 26 = .ok (.aload_n 0, 1) := by decide +kernel
theorem dX5_alone_27 : decode cX5_alone 27 = .ok (.getfield 19, 3) := by decide +kernel
theorem dX5_alone_30 : decode cX5_alone 30 = .ok (.bipush 6, 2) := by decide +kernel
theorem dX5_alone_32 : decode cX5_alone 32 = .ok (.iload_n 3, 1) := by decide +kernel
theorem dX5_alone_33 : decode cX5_alone 33 = .ok (.iadd, 1) := by decide +kernel
theorem dX5_alone_34 : decode cX5_alone 34 = .ok (.iaload, 1) := by decide +kernel
theorem dX5_alone_35 : decode cX5_alone 35 = .ok (.istore 4, 2) := by decide +kernel
theorem dX5_alone_37 : decode cX5_alone 37 = .ok (.iload 4, 2) := by decide +kernel
theorem dX5_alone_39 : decode cX5_alone 39 = .ok (.iload_n 2, 1) := by decide +kernel
theorem dX5_alone_40 : decode cX5_alone 40 = .ok (.if_icmp .le 9, 3) := by decide +kernel
theorem dX5_alone_43 : decode cX5_alone 43 = .ok (.iconst 1, 1) := by decide +kernel
theorem dX5_alone_44 : decode cX5_alone 44 = .ok (.iload_n 3, 1) := by decide +kernel
theorem dX5_alone_45 : decode cX5_alone 45 = .ok (.ishl, 1) := by decide +kernel
theorem dX5_alone_46 : decode cX5_alone 46 = .ok (.goto 18, 3) := by decide +kernel
theorem dX5_alone_49 : decode cX5_alone 49 = .ok (.iload 4, 2) := by decide +kernel
theorem dX5_alone_51 : decode cX5_alone 51 = .ok (.iload_n 2, 1) := by decide +kernel
theorem dX5_alone_52 : decode cX5_alone 52 = .ok (.if_icmp .ne 11, 3) := by decide +kernel
theorem dX5_alone_55 : decode cX5_alone 55 = .ok (.iload_n 1, 1) := by decide +kernel
theorem dX5_alone_56 : decode cX5_alone 56 = .ok (.iconst 1, 1) := by decide +kernel
theorem dX5_alone_57 : decode cX5_alone 57 = .ok (.iload_n 3, 1) := by decide +kernel
theorem dX5_alone_58 : decode cX5_alone 58 = .ok (.ishl, 1) := by decide +kernel
theorem dX5_alone_59 : decode cX5_alone 59 = .ok (.ior, 1) := by decide +kernel
theorem dX5_alone_60 : decode cX5_alone 60 = .ok (.goto 4, 3) := by decide +kernel
theorem dX5_alone_63 : decode cX5_alone 63 = .ok (.iload_n 1, 1) := by decide +kernel
theorem dX5_alone_64 : decode cX5_alone 64 = .ok (.istore_n 1, 1) := by decide +kernel
theorem dX5_alone_65 : decode cX5_alone 65 = .ok (.iload 4, 2) := by decide +kernel
theorem dX5_alone_67 : decode cX5_alone 67 = .ok (.iload_n 2, 1) := by decide +kernel
theorem dX5_alone_68 : decode cX5_alone 68 = .ok (.if_icmp .le 8, 3) := by decide +kernel
theorem dX5_alone_71 : decode cX5_alone 71 = .ok (.iload 4, 2) := by decide +kernel
theorem dX5_alone_73 : decode cX5_alone 73 = .ok (.goto 4, 3) := by decide +kernel
theorem dX5_alone_76 : decode cX5_alone 76 = .ok (.iload_n 2, 1) := by decide +kernel
theorem dX5_alone_77 : decode cX5_alone 77 = .ok (.istore_n 2, 1) := by decide +kernel
theorem dX5_alone_78 : decode cX5_alone 78 = .ok (.iinc 3 1, 3) := by decide +kernel
theorem dX5_alone_81 : decode cX5_alone 81 = .ok (.goto (-65), 3) := by decide +kernel
theorem dX5_alone_84 : decode cX5_alone 84 = .ok (.iload_n 1, 1) := by decide +kernel
theorem dX5_alone_85 : decode cX5_alone 85 = .ok (.ireturn, 1) := by decide +kernel
theorem dX5_rain_0 : decode cX5_rain 0 = .ok (.aload_n 0, 1) := by decide +kernel
theorem dX5_rain_1 : decode cX5_rain 1 = .ok (.iload_n 1, 1) := by decide +kernel
theorem dX5_rain_2 : decode cX5_rain 2 = .ok (.invokevirtual 183, 3) := by decide +kernel
theorem dX5_rain_5 : decode cX5_rain 5 = .ok (.ifCond .eq 35, 3) := by decide +kernel
theorem dX5_rain_8 : decode cX5_rain 8 = .ok (.iload_n 2, 1) := by decide +kernel
theorem dX5_rain_9 : decode cX5_rain 9 = .ok (.i2l, 1) := by decide +kernel
theorem dX5_rain_10 : decode cX5_rain 10 = .ok (.lconst 0, 1) := by decide +kernel
theorem dX5_rain_11 : decode cX5_rain 11 = .ok (.ldc2_w 205, 3) := by decide +kernel
theorem dX5_rain_14 : decode cX5_rain 14 = .ok (.invokestatic 54, 3) := by decide +kernel
theorem dX5_rain_17 : decode cX5_rain 17 = .ok (.ifCond .eq 23, 3) := by decide +kernel
theorem dX5_rain_20 : decode cX5_rain 20 = .ok (.iload_n 3, 1) := by decide +kernel
theorem dX5_rain_21 : decode cX5_rain 21 = .ok (.i2l, 1) := by decide +kernel
theorem dX5_rain_22 : decode cX5_rain 22 = .ok (.lconst 0, 1) := by decide +kernel
theorem dX5_rain_23 : decode cX5_rain 23 = .ok (.ldc2_w 235, 3) := by decide +kernel
theorem dX5_rain_26 : decode cX5_rain 26 = .ok (.invokestatic 54, 3) := by decide +kernel
theorem dX5_rain_29 : decode cX5_rain 29 = .ok (.ifCond .eq 11, 3) := by decide +kernel
theorem dX5_rain_32 : decode cX5_rain 32 = .ok (.iload 4, 2) := by decide +kernel
theorem dX5_rain_34 : decode cX5_rain 34 = .ok (.invokestatic 209, 3) := by decide +kernel
theorem dX5_rain_37 : decode cX5_rain 37 = .ok (.ifCond .ne 7, 3) := by decide +kernel
theorem dX5_rain_40 : decode cX5_rain 40 = .ok (.ldc2_w 237, 3) := by decide +kernel
theorem dX5_rain_43 : decode cX5_rain 43 = .ok (.lreturn, 1) := by decide +kernel
theorem dX5_rain_44 : decode cX5_rain 44 = .ok (.aload_n 0, 1) := by decide +kernel
theorem dX5_rain_45 : decode cX5_rain 45 = .ok (.invokevirtual 194, 3) := by decide +kernel
theorem dX5_rain_48 : decode cX5_rain 48 = .ok (.lconst 0, 1) := by decide +kernel
theorem dX5_rain_49 : decode cX5_rain 49 = .ok (.lstore 5, 2) := by decide +kernel
theorem dX5_rain_51 : decode cX5_rain 51 = .ok (.lconst 1, 1) := by decide +kernel
theorem dX5_rain_52 : decode cX5_rain 52 = .ok (.lstore 7, 2) := by decide +kernel
theorem dX5_rain_54 : decode cX5_rain 54 = .ok (.iconst 0, 1) := by decide +kernel
theorem dX5_rain_55 : decode cX5_rain 55 = .ok (.istore 9, 2) := by decide +kernel
theorem dX5_rain_57 : decode cX5_rain 57 = .ok (.iconst 0, 1) := by decide +kernel
theorem dX5_rain_58 : decode cX5_rain 58 = .ok (.istore 10, 2) := by decide +kernel
theorem dX5_rain_60 : decode cX5_rain 60 = .ok (.iload 10, 2) := by decide +kernel
theorem dX5_rain_62 : decode cX5_rain 62 = .ok (.aload_n 0, 1) := by decide +kernel
theorem dX5_rain_63 : decode cX5_rain 63 = .ok (.getfield 19, 3) := by decide +kernel
theorem dX5_rain_66 : decode cX5_rain 66 = .ok (.iconst 3, 1) := by decide +kernel
theorem dX5_rain_67 : decode cX5_rain 67 = .ok (.iaload, 1) := by decide +kernel
theorem dX5_rain_68 : decode cX5_rain 68 = .ok (.if_icmp .ge 65, 3) := by decide +kernel
theorem dX5_rain_71 : decode cX5_rain 71 = .ok (.aload_n 0, 1) := by decide +kernel
theorem dX5_rain_72 : decode cX5_rain 72 = .ok (.getfield 19, 3) := by decide +kernel
theorem dX5_rain_75 : decode cX5_rain 75 = .ok (.bipush 16, 2) := by decide +kernel
theorem dX5_rain_77 : decode cX5_rain 77 = .ok (.iload 10, 2) := by decide +kernel
theorem dX5_rain_79 : decode cX5_rain 79 = .ok (.iadd, 1) := by decide +kernel
theorem dX5_rain_80 : decode cX5_rain 80 = .ok (.iaload, 1) := by decide +kernel
theorem dX5_rain_81 : decode cX5_rain 81 = .ok (.iconst 5, 1) := by decide +kernel
theorem dX5_rain_82 : decode cX5_rain 82 = .ok (.if_icmp .ne 7, 3) := by decide +kernel
theorem dX5_rain_85 : decode cX5_rain 85 = .ok (.iconst 1, 1) := by decide +kernel
theorem dX5_rain_86 : decode cX5_rain 86 = .ok (.goto 4, 3) := by decide +kernel
theorem dX5_rain_89 : decode cX5_rain 89 = .ok (.iconst 0, 1) := by decide +kernel
theorem dX5_rain_90 : decode cX5_rain 90 = .ok (.istore 11, 2) := by decide +kernel
theorem dX5_rain_92 : decode cX5_rain 92 = .ok (.iload 9, 2) := by decide +kernel
theorem dX5_rain_94 : decode cX5_rain 94 = .ok (.iload 11, 2) := by decide +kernel
theorem dX5_rain_96 : decode cX5_rain 96 = .ok (.ifCond .eq 10, 3) := by decide +kernel
theorem dX5_rain_99 : decode cX5_rain 99 = .ok (.iconst 1, 1) := by decide +kernel
theorem dX5_rain_100 : decode cX5_rain 100 = .ok (.iload 10, 2) := by decide +kernel
theorem dX5_rain_102 : decode cX5_rain 102 = .ok (.ishl, 1) := by decide +kernel
theorem dX5_rain_103 : decode cX5_rain 103 = .ok (.goto 4, 3) := by decide +kernel
theorem dX5_rain_106 : decode cX5_rain 106 = .ok (.iconst 0, 1) := by decide +kernel
theorem dX5_rain_107 : decode cX5_rain 107 = .ok (.ior, 1) := by decide +kernel
theorem dX5_rain_108 : decode cX5_rain 108 = .ok (.istore 9, 2) := by decide +kernel
theorem dX5_rain_110 : decode cX5_rain 110 = .ok (.lload 7, 2) := by decide +kernel
theorem dX5_rain_112 : decode cX5_rain 112 = .ok (.iload 11, 2) := by decide +kernel
theorem dX5_rain_114 : decode cX5_rain 114 = .ok (.ifCond .eq 9, 3) := by decide +kernel
theorem dX5_rain_117 : decode cX5_rain 117 = .ok (.ldc2_w 235, 3) := by decide +kernel
theorem dX5_rain_120 : decode cX5_rain 120 = .ok (.goto 4, 3) := by decide +kernel
theorem dX5_rain_123 : decode cX5_rain 123 = .ok (.lconst 1, 1) := by decide +kernel
theorem dX5_rain_124 : decode cX5_rain 124 = .ok (.lmul, 1) := by decide +kernel
theorem dX5_rain_125 : decode cX5_rain 125 = .ok (.lstore 7, 2) := by decide +kernel
theorem dX5_rain_127 : decode cX5_rain 127 = .ok (.iinc 10 1, 3) := by decide +kernel
theorem dX5_rain_130 : decode cX5_rain 130 = .ok (.goto (-70), 3) := by decide +kernel
theorem dX5_rain_133 : decode cX5_rain 133 = .ok (.iconst 0, 1) := by decide +kernel
theorem dX5_rain_134 : decode cX5_rain 134 = .ok (.istore 10, 2) := by decide +kernel
theorem dX5_rain_136 : decode cX5_rain 136 = .ok (.iload 10, 2) := by decide +kernel
theorem dX5_rain_138 : decode cX5_rain 138 = .ok (.iload 9, 2) := by decide +kernel
theorem dX5_rain_140 : decode cX5_rain 140 = .ok (.if_icmp .gt 119, 3) := by decide +kernel
theorem dX5_rain_143 : decode cX5_rain 143 = .ok (.iload 10, 2) := by decide +kernel
theorem dX5_rain_145 : decode cX5_rain 145 = .ok (.iload 9, 2) := by decide +kernel
theorem dX5_rain_147 : decode cX5_rain 147 = .ok (.iconst (-1), 1) := by decide +kernel
theorem dX5_rain_148 : decode cX5_rain 148 = .ok (.ixor, 1) := by decide +kernel
theorem dX5_rain_149 : decode cX5_rain 149 = .ok (.iand, 1) := by decide +kernel
theorem dX5_rain_150 : decode cX5_rain 150 = .ok (.ifCond .ne 103, 3) := by decide +kernel
theorem dX5_rain_153 : decode cX5_rain 153 = .ok (.lconst 1, 1) := by decide +kernel
theorem dX5_rain_154 : decode cX5_rain 154 = .ok (.lstore 11, 2) := by decide +kernel
theorem dX5_rain_156 : decode cX5_rain 156 = .ok (.iconst 0, 1) := by decide +kernel
theorem dX5_rain_157 : decode cX5_rain 157 = .ok (.istore 13, 2) := by decide +kernel
theorem dX5_rain_159 : decode cX5_rain 159 = .ok (.iload 13, 2) := by decide +kernel
theorem dX5_rain_161 : decode cX5_rain 161 = .ok (.aload_n 0, 1) := by decide +kernel
theorem dX5_rain_162 : decode cX5_rain 162 = .ok (.getfield 19, 3) := by decide +kernel
theorem dX5_rain_165 : decode cX5_rain 165 = .ok (.iconst 3, 1) := by decide +kernel
theorem dX5_rain_166 : decode cX5_rain 166 = .ok (.iaload, 1) := by decide +kernel
theorem dX5_rain_167 : decode cX5_rain 167 = .ok (.if_icmp .ge 48, 3) := by decide +kernel
theorem dX5_rain_170 : decode cX5_rain 170 = .ok (.lload 11, 2) := by decide +kernel
theorem dX5_rain_172 : decode cX5_rain 172 = .ok (.iload 9, 2) := by decide +kernel
theorem dX5_rain_174 : decode cX5_rain 174 = .ok (.iload 13, 2) := by decide +kernel
theorem dX5_rain_176 : decode cX5_rain 176 = .ok (.invokestatic 151, 3) := by decide +kernel
theorem dX5_rain_179 : decode cX5_rain 179 = .ok (.ifCond .ne 7, 3) := by decide +kernel
theorem dX5_rain_182 : decode cX5_rain 182 = .ok (.lconst 1, 1) := by decide +kernel
theorem dX5_rain_183 : decode cX5_rain 183 = .ok (.goto 23, 3) := by decide +kernel
theorem dX5_rain_186 : decode cX5_rain 186 = .ok (.iload 10, 2) := by decide +kernel
theorem dX5_rain_188 : decode cX5_rain 188 = .ok (.iload 13, 2) := by decide +kernel
theorem dX5_rain_190 : decode cX5_rain 190 = .ok (.invokestatic 151, 3) := by decide +kernel
theorem dX5_rain_193 : decode cX5_rain 193 = .ok (.ifCond .eq 8, 3) := by decide +kernel
theorem dX5_rain_196 : decode cX5_rain 196 = .ok (.iload_n 3, 1) := by decide +kernel
theorem dX5_rain_197 : decode cX5_rain 197 = .ok (.i2l, 1) := by decide +kernel
theorem dX5_rain_198 : decode cX5_rain 198 = .ok (.goto 8, 3) := by decide +kernel
theorem dX5_rain_201 : decode cX5_rain 201 = .ok (.bipush 10, 2) := by decide +kernel
theorem dX5_rain_203 : decode cX5_rain 203 = .ok (.iload_n 3, 1) := by decide +kernel
theorem dX5_rain_204 : decode cX5_rain 204 = .ok (.isub, 1) := by decide +kernel
theorem dX5_rain_205 : decode cX5_rain 205 = .ok (.i2l, 1) := by decide +kernel
theorem dX5_rain_206 : decode cX5_rain 206 = .ok (.lmul, 1) := by decide +kernel
theorem dX5_rain_207 : decode cX5_rain 207 = .ok (.lstore 11, 2) := by decide +kernel
theorem dX5_rain_209 : decode cX5_rain 209 = .ok (.iinc 13 1, 3) := by decide +kernel
theorem dX5_rain_212 : decode cX5_rain 212 = .ok (.goto (-53), 3) := by decide +kernel
theorem dX5_rain_215 : decode cX5_rain 215 = .ok (.aload_n 0, 1) := by decide +kernel
theorem dX5_rain_216 : decode cX5_rain 216 = .ok (.iload 10, 2) := by decide +kernel
theorem dX5_rain_218 : decode cX5_rain 218 = .ok (.putfield 148, 3) := by decide +kernel
theorem dX5_rain_221 : decode cX5_rain 221 = .ok (.aload_n 0, 1) := by decide +kernel
theorem dX5_rain_222 : decode cX5_rain 222 = .ok (.invokevirtual 173, 3) := by decide +kernel
theorem dX5_rain_225 : decode cX5_rain 225 = .ok (.lload 5, 2) := by decide +kernel
theorem dX5_rain_227 : decode cX5_rain 227 = .ok (.aload_n 0, 1) := by decide +kernel
theorem dX5_rain_228 : decode cX5_rain 228 = .ok (.getfield 19, 3) := by decide +kernel
theorem dX5_rain_231 : decode cX5_rain 231 = .ok (.bipush 6, 2) := by decide +kernel
theorem dX5_rain_233 : decode cX5_rain 233 = .ok (.iload_n 1, 1) := by decide +kernel
theorem dX5_rain_234 : decode cX5_rain 234 = .ok (.iadd, 1) := by decide +kernel
theorem dX5_rain_235 : decode cX5_rain 235 = .ok (.iaload, 1) := by decide +kernel
theorem dX5_rain_236 : decode cX5_rain 236 = .ok (.iload_n 2, 1) := by decide +kernel
theorem dX5_rain_237 : decode cX5_rain 237 = .ok (.if_icmp .lt 8, 3) := by decide +kernel
theorem dX5_rain_240 : decode cX5_rain 240 = .ok (.lload 11, 2) := by decide +kernel
theorem dX5_rain_242 : decode cX5_rain 242 = .ok (.goto 4, 3) := by decide +kernel
theorem dX5_rain_245 : decode cX5_rain 245 = .ok (.lconst 0, 1) := by decide +kernel
theorem dX5_rain_246 : decode cX5_rain 246 = .ok (.ladd, 1) := by decide +kernel
theorem dX5_rain_247 : decode cX5_rain 247 = .ok (.lstore 5, 2) := by decide +kernel
theorem dX5_rain_249 : decode cX5_rain 249 = .ok (.aload_n 0, 1) := by decide +kernel
theorem dX5_rain_250 : decode cX5_rain 250 = .ok (.invokevirtual 201, 3) := by decide +kernel
theorem dX5_rain_253 : decode cX5_rain 253 = .ok (.iinc 10 1, 3) := by decide +kernel
theorem dX5_rain_256 : decode cX5_rain 256 = .ok (.goto (-120), 3) := by decide +kernel
theorem dX5_rain_259 : decode cX5_rain 259 = .ok (.aload_n 0, 1) := by decide +kernel
theorem dX5_rain_260 : decode cX5_rain 260 = .ok (.iconst 0, 1) := by decide +kernel
theorem dX5_rain_261 : decode cX5_rain 261 = .ok (.putfield 148, 3) := by decide +kernel
theorem dX5_rain_264 : decode cX5_rain 264 = .ok (.lload 5, 2) := by decide +kernel
theorem dX5_rain_266 : decode cX5_rain 266 = .ok (.lstore 10, 2) := by decide +kernel
theorem dX5_rain_268 : decode cX5_rain 268 = .ok (.lload 7, 2) := by decide +kernel
theorem dX5_rain_270 : decode cX5_rain 270 = .ok (.lstore 12, 2) := by decide +kernel
theorem dX5_rain_272 : decode cX5_rain 272 = .ok (.lload 12, 2) := by decide +kernel
theorem dX5_rain_274 : decode cX5_rain 274 = .ok (.lconst 0, 1) := by decide +kernel
theorem dX5_rain_275 : decode cX5_rain 275 = .ok (.lcmp, 1) := by decide +kernel
theorem dX5_rain_276 : decode cX5_rain 276 = .ok (.ifCond .eq 21, 3) := by decide +kernel
theorem dX5_rain_279 : decode cX5_rain 279 = .ok (.lload 10, 2) := by decide +kernel
theorem dX5_rain_281 : decode cX5_rain 281 = .ok (.lload 12, 2) := by decide +kernel
theorem dX5_rain_283 : decode cX5_rain 283 = .ok (.lrem, 1) := by decide +kernel
theorem dX5_rain_284 : decode cX5_rain 284 = .ok (.lstore 14, 2) := by decide +kernel
theorem dX5_rain_286 : decode cX5_rain 286 = .ok (.lload 12, 2) := by decide +kernel
theorem dX5_rain_288 : decode cX5_rain 288 = .ok (.lstore 10, 2) := by decide +kernel
theorem dX5_rain_290 : decode cX5_rain 290 = .ok (.lload 14, 2) := by decide +kernel
theorem dX5_rain_292 : decode cX5_rain 292 = .ok (.lstore 12, 2) := by decide +kernel
theorem dX5_rain_294 : decode cX5_rain 294 = .ok (.goto (-22), 3) := by decide +kernel
theorem dX5_rain_297 : decode cX5_rain 297 = .ok (.iload 4, 2) := by decide +kernel
theorem dX5_rain_299 : decode cX5_rain 299 = .ok (.ifCond .ne 11, 3) := by decide +kernel
theorem dX5_rain_302 : decode cX5_rain 302 = .ok (.lload 5, 2) := by decide +kernel
theorem dX5_rain_304 : decode cX5_rain 304 = .ok (.lload 10, 2) := by decide +kernel
theorem dX5_rain_306 : decode cX5_rain 306 = .ok (.ldiv, 1) := by decide +kernel
theorem dX5_rain_307 : decode cX5_rain 307 = .ok (.goto 8, 3) := by decide +kernel
theorem dX5_rain_310 : decode cX5_rain 310 = .ok (.lload 7, 2) := by decide +kernel
theorem dX5_rain_312 : decode cX5_rain 312 = .ok (.lload 10, 2) := by decide +kernel
theorem dX5_rain_314 : decode cX5_rain 314 = .ok (.ldiv, 1) := by decide +kernel
theorem dX5_rain_315 : decode cX5_rain 315 = .ok (.lreturn, 1) := by decide +kernel
theorem dX5_drawn_0 : decode cX5_drawn 0 = .ok (.aload_n 0, 1) := by decide +kernel
theorem dX5_drawn_1 : decode cX5_drawn 1 = .ok (.getfield 135, 3) := by decide +kernel
theorem dX5_drawn_4 : decode cX5_drawn 4 = .ok (.ifCond .ne 6, 3) := by decide +kernel
theorem dX5_drawn_7 : decode cX5_drawn 7 = .ok (.ldc 167, 2) := by decide +kernel
theorem dX5_drawn_9 : decode cX5_drawn 9 = .ok (.ireturn, 1) := by decide +kernel
theorem dX5_drawn_10 : decode cX5_drawn 10 = .ok (.iload_n 1, 1) := by decide +kernel
theorem dX5_drawn_11 : decode cX5_drawn 11 = .ok (.i2l, 1) := by decide +kernel
theorem dX5_drawn_12 : decode cX5_drawn 12 = .ok (.lconst 0, 1) := by decide +kernel
theorem dX5_drawn_13 : decode cX5_drawn 13 = .ok (.ldc2_w 192, 3) := by decide +kernel
theorem dX5_drawn_16 : decode cX5_drawn 16 = .ok (.invokestatic 54, 3) := by decide +kernel
theorem dX5_drawn_19 : decode cX5_drawn 19 = .ok (.ifCond .eq 22, 3) := by decide +kernel
theorem dX5_drawn_22 : decode cX5_drawn 22 = .ok (.iload_n 2, 1) := by decide +kernel
theorem dX5_drawn_23 : decode cX5_drawn 23 = .ok (.i2l, 1) := by decide +kernel
theorem dX5_drawn_24 : decode cX5_drawn 24 = .ok (.lconst 1, 1) := by decide +kernel
theorem dX5_drawn_25 : decode cX5_drawn 25 = .ok (.ldc2_w 239, 3) := by decide +kernel
theorem dX5_drawn_28 : decode cX5_drawn 28 = .ok (.invokestatic 54, 3) := by decide +kernel
theorem dX5_drawn_31 : decode cX5_drawn 31 = .ok (.ifCond .eq 10, 3) := by decide +kernel
theorem dX5_drawn_34 : decode cX5_drawn 34 = .ok (.iload_n 3, 1) := by decide +kernel
theorem dX5_drawn_35 : decode cX5_drawn 35 = .ok (.invokestatic 209, 3) := by decide +kernel
theorem dX5_drawn_38 : decode cX5_drawn 38 = .ok (.ifCond .ne 6, 3) := by decide +kernel
theorem dX5_drawn_41 : decode cX5_drawn 41 = .ok (.ldc 64, 2) := by decide +kernel
theorem dX5_drawn_43 : decode cX5_drawn 43 = .ok (.ireturn, 1) := by decide +kernel
theorem dX5_drawn_44 : decode cX5_drawn 44 = .ok (.aload_n 0, 1) := by decide +kernel
theorem dX5_drawn_45 : decode cX5_drawn 45 = .ok (.invokevirtual 194, 3) := by decide +kernel
theorem dX5_drawn_48 : decode cX5_drawn 48 = .ok (.iload_n 2, 1) := by decide +kernel
theorem dX5_drawn_49 : decode cX5_drawn 49 = .ok (.i2l, 1) := by decide +kernel
theorem dX5_drawn_50 : decode cX5_drawn 50 = .ok (.lstore 4, 2) := by decide +kernel
theorem dX5_drawn_52 : decode cX5_drawn 52 = .ok (.iconst 0, 1) := by decide +kernel
theorem dX5_drawn_53 : decode cX5_drawn 53 = .ok (.istore 6, 2) := by decide +kernel
theorem dX5_drawn_55 : decode cX5_drawn 55 = .ok (.iconst 0, 1) := by decide +kernel
theorem dX5_drawn_56 : decode cX5_drawn 56 = .ok (.istore 7, 2) := by decide +kernel
theorem dX5_drawn_58 : decode cX5_drawn 58 = .ok (.iload 7, 2) := by decide +kernel
theorem dX5_drawn_60 : decode cX5_drawn 60 = .ok (.iload_n 1, 1) := by decide +kernel
theorem dX5_drawn_61 : decode cX5_drawn 61 = .ok (.if_icmp .ge 79, 3) := by decide +kernel
theorem dX5_drawn_64 : decode cX5_drawn 64 = .ok (.lload 4, 2) := by decide +kernel
theorem dX5_drawn_66 : decode cX5_drawn 66 = .ok (.ldc2_w 241, 3) := by decide +kernel
theorem dX5_drawn_69 : decode cX5_drawn 69 = .ok (.lmul, 1) := by decide +kernel
theorem dX5_drawn_70 : decode cX5_drawn 70 = .ok (.ldc2_w 243, 3) := by decide +kernel
theorem dX5_drawn_73 : decode cX5_drawn 73 = .ok (.lrem, 1) := by decide +kernel
theorem dX5_drawn_74 : decode cX5_drawn 74 = .ok (.lstore 4, 2) := by decide +kernel
theorem dX5_drawn_76 : decode cX5_drawn 76 = .ok (.lload 4, 2) := by decide +kernel
theorem dX5_drawn_78 : decode cX5_drawn 78 = .ok (.ldc2_w 245, 3) := by decide +kernel
theorem dX5_drawn_81 : decode cX5_drawn 81 = .ok (.lrem, 1) := by decide +kernel
theorem dX5_drawn_82 : decode cX5_drawn 82 = .ok (.lconst 0, 1) := by decide +kernel
theorem dX5_drawn_83 : decode cX5_drawn 83 = .ok (.lcmp, 1) := by decide +kernel
theorem dX5_drawn_84 : decode cX5_drawn 84 = .ok (.ifCond .ne 29, 3) := by decide +kernel
theorem dX5_drawn_87 : decode cX5_drawn 87 = .ok (.aload_n 0, 1) := by decide +kernel
theorem dX5_drawn_88 : decode cX5_drawn 88 = .ok (.lload 4, 2) := by decide +kernel
theorem dX5_drawn_90 : decode cX5_drawn 90 = .ok (.aload_n 0, 1) := by decide +kernel
theorem dX5_drawn_91 : decode cX5_drawn 91 = .ok (.getfield 19, 3) := by decide +kernel
theorem dX5_drawn_94 : decode cX5_drawn 94 = .ok (.iconst 3, 1) := by decide +kernel
theorem dX5_drawn_95 : decode cX5_drawn 95 = .ok (.iaload, 1) := by decide +kernel
theorem dX5_drawn_96 : decode cX5_drawn 96 = .ok (.i2l, 1) := by decide +kernel
theorem dX5_drawn_97 : decode cX5_drawn 97 = .ok (.lrem, 1) := by decide +kernel
theorem dX5_drawn_98 : decode cX5_drawn 98 = .ok (.l2i, 1) := by decide +kernel
theorem dX5_drawn_99 : decode cX5_drawn 99 = .ok (.lload 4, 2) := by decide +kernel
theorem dX5_drawn_101 : decode cX5_drawn 101 = .ok (.aload_n 0, 1) := by decide +kernel
theorem dX5_drawn_102 : decode cX5_drawn 102 = .ok (.getfield 19, 3) := by decide +kernel
theorem dX5_drawn_105 : decode cX5_drawn 105 = .ok (.iconst 2, 1) := by decide +kernel
theorem dX5_drawn_106 : decode cX5_drawn 106 = .ok (.iaload, 1) := by decide +kernel
theorem dX5_drawn_107 : decode cX5_drawn 107 = .ok (.i2l, 1) := by decide +kernel
theorem dX5_drawn_108 : decode cX5_drawn 108 = .ok (.lrem, 1) := by decide +kernel
theorem dX5_drawn_109 : decode cX5_drawn 109 = .ok (.l2i, 1) := by decide +kernel
theorem dX5_drawn_110 : decode cX5_drawn 110 = .ok (.invokevirtual 186, 3) := by decide +kernel
theorem dX5_drawn_113 : decode cX5_drawn 113 = .ok (.aload_n 0, 1) := by decide +kernel
theorem dX5_drawn_114 : decode cX5_drawn 114 = .ok (.invokevirtual 173, 3) := by decide +kernel
theorem dX5_drawn_117 : decode cX5_drawn 117 = .ok (.iload 6, 2) := by decide +kernel
theorem dX5_drawn_119 : decode cX5_drawn 119 = .ok (.aload_n 0, 1) := by decide +kernel
theorem dX5_drawn_120 : decode cX5_drawn 120 = .ok (.getfield 161, 3) := by decide +kernel
theorem dX5_drawn_123 : decode cX5_drawn 123 = .ok (.ifCond .eq 7, 3) := by decide +kernel
theorem dX5_drawn_126 : decode cX5_drawn 126 = .ok (.iconst 1, 1) := by decide +kernel
theorem dX5_drawn_127 : decode cX5_drawn 127 = .ok (.goto 4, 3) := by decide +kernel
theorem dX5_drawn_130 : decode cX5_drawn 130 = .ok (.iconst 0, 1) := by decide +kernel
theorem dX5_drawn_131 : decode cX5_drawn 131 = .ok (.iadd, 1) := by decide +kernel
theorem dX5_drawn_132 : decode cX5_drawn 132 = .ok (.istore 6, 2) := by decide +kernel
theorem dX5_drawn_134 : decode cX5_drawn 134 = .ok (.iinc 7 1, 3) := by decide +kernel
theorem dX5_drawn_137 : decode cX5_drawn 137 = .ok (.goto (-79), 3) := by decide +kernel
theorem dX5_drawn_140 : decode cX5_drawn 140 = .ok (.iload_n 3, 1) := by decide +kernel
theorem dX5_drawn_141 : decode cX5_drawn 141 = .ok (.ifCond .ne 10, 3) := by decide +kernel
theorem dX5_drawn_144 : decode cX5_drawn 144 = .ok (.aload_n 0, 1) := by decide +kernel
theorem dX5_drawn_145 : decode cX5_drawn 145 = .ok (.invokevirtual 176, 3) := by decide +kernel
theorem dX5_drawn_148 : decode cX5_drawn 148 = .ok (.goto 5, 3) := by decide +kernel
theorem dX5_drawn_151 : decode cX5_drawn 151 = .ok (.iload 6, 2) := by decide +kernel
theorem dX5_drawn_153 : decode cX5_drawn 153 = .ok (.istore 7, 2) := by decide +kernel
theorem dX5_drawn_155 : decode cX5_drawn 155 = .ok (.aload_n 0, 1) := by decide +kernel
theorem dX5_drawn_156 : decode cX5_drawn 156 = .ok (.invokevirtual 201, 3) := by decide +kernel
theorem dX5_drawn_159 : decode cX5_drawn 159 = .ok (.iload 7, 2) := by decide +kernel
theorem dX5_drawn_161 : decode cX5_drawn 161 = .ok (.ireturn, 1) := by decide +kernel
theorem dX5_image_0 : decode cX5_image 0 = .ok (.iload_n 1, 1) := by decide +kernel
theorem dX5_image_1 : decode cX5_image 1 = .ok (.i2l, 1) := by decide +kernel
theorem dX5_image_2 : decode cX5_image 2 = .ok (.lconst 0, 1) := by decide +kernel
theorem dX5_image_3 : decode cX5_image 3 = .ok (.lconst 1, 1) := by decide +kernel
theorem dX5_image_4 : decode cX5_image 4 = .ok (.invokestatic 54, 3) := by decide +kernel
theorem dX5_image_7 : decode cX5_image 7 = .ok (.ifCond .ne 6, 3) := by decide +kernel
theorem dX5_image_10 : decode cX5_image 10 = .ok (.ldc 64, 2) := by decide +kernel
theorem dX5_image_12 : decode cX5_image 12 = .ok (.ireturn, 1) := by decide +kernel
theorem dX5_image_13 : decode cX5_image 13 = .ok (.aload_n 0, 1) := by decide +kernel
theorem dX5_image_14 : decode cX5_image 14 = .ok (.getfield 135, 3) := by decide +kernel
theorem dX5_image_17 : decode cX5_image 17 = .ok (.ifCond .ne 6, 3) := by decide +kernel
theorem dX5_image_20 : decode cX5_image 20 = .ok (.ldc 167, 2) := by decide +kernel
theorem dX5_image_22 : decode cX5_image 22 = .ok (.ireturn, 1) := by decide +kernel
theorem dX5_image_23 : decode cX5_image 23 = .ok (.iconst 0, 1) := by decide +kernel
theorem dX5_image_24 : decode cX5_image 24 = .ok (.istore_n 2, 1) := by decide +kernel
theorem dX5_image_25 : decode cX5_image 25 = .ok (.iload_n 2, 1) := by decide +kernel
theorem dX5_image_26 : decode cX5_image 26 = .ok (.bipush 70, 2) := by decide +kernel
theorem dX5_image_28 : decode cX5_image 28 = .ok (.if_icmp .ge 26, 3) := by decide +kernel
theorem dX5_image_31 : decode cX5_image 31 = .ok (.aload_n 0, 1) := by decide +kernel
theorem dX5_image_32 : decode cX5_image 32 = .ok (.getfield 41, 3) := by decide +kernel
theorem dX5_image_35 : decode cX5_image 35 = .ok (.bipush 70, 2) := by decide +kernel
theorem dX5_image_37 : decode cX5_image 37 = .ok (.iload_n 1, 1) := by decide +kernel
theorem dX5_image_38 : decode cX5_image 38 = .ok (.imul, 1) := by decide +kernel
theorem dX5_image_39 : decode cX5_image 39 = .ok (.iload_n 2, 1) := by decide +kernel
theorem dX5_image_40 : decode cX5_image 40 = .ok (.iadd, 1) := by decide +kernel
theorem dX5_image_41 : decode cX5_image 41 = .ok (.aload_n 0, 1) := by decide +kernel
theorem dX5_image_42 : decode cX5_image 42 = .ok (.getfield 19, 3) := by decide +kernel
theorem dX5_image_45 : decode cX5_image 45 = .ok (.iload_n 2, 1) := by decide +kernel
theorem dX5_image_46 : decode cX5_image 46 = .ok (.iaload, 1) := by decide +kernel
theorem dX5_image_47 : decode cX5_image 47 = .ok (.iastore, 1) := by decide +kernel
theorem dX5_image_48 : decode cX5_image 48 = .ok (.iinc 2 1, 3) := by decide +kernel
theorem dX5_image_51 : decode cX5_image 51 = .ok (.goto (-26), 3) := by decide +kernel
theorem dX5_image_54 : decode cX5_image 54 = .ok (.aload_n 0, 1) := by decide +kernel
theorem dX5_image_55 : decode cX5_image 55 = .ok (.getfield 37, 3) := by decide +kernel
theorem dX5_image_58 : decode cX5_image 58 = .ok (.iload_n 1, 1) := by decide +kernel
theorem dX5_image_59 : decode cX5_image 59 = .ok (.iconst 1, 1) := by decide +kernel
theorem dX5_image_60 : decode cX5_image 60 = .ok (.bastore, 1) := by decide +kernel
theorem dX5_image_61 : decode cX5_image 61 = .ok (.iconst 1, 1) := by decide +kernel
theorem dX5_image_62 : decode cX5_image 62 = .ok (.ireturn, 1) := by decide +kernel
theorem dX5_restore_0 : decode cX5_restore 0 = .ok (.iload_n 1, 1) := by decide +kernel
theorem dX5_restore_1 : decode cX5_restore 1 = .ok (.i2l, 1) := by decide +kernel
theorem dX5_restore_2 : decode cX5_restore 2 = .ok (.lconst 0, 1) := by decide +kernel
theorem dX5_restore_3 : decode cX5_restore 3 = .ok (.lconst 1, 1) := by decide +kernel
theorem dX5_restore_4 : decode cX5_restore 4 = .ok (.invokestatic 54, 3) := by decide +kernel
theorem dX5_restore_7 : decode cX5_restore 7 = .ok (.ifCond .ne 6, 3) := by decide +kernel
theorem dX5_restore_10 : decode cX5_restore 10 = .ok (.ldc 64, 2) := by decide +kernel
theorem dX5_restore_12 : decode cX5_restore 12 = .ok (.ireturn, 1) := by decide +kernel
theorem dX5_restore_13 : decode cX5_restore 13 = .ok (.aload_n 0, 1) := by decide +kernel
theorem dX5_restore_14 : decode cX5_restore 14 = .ok (.getfield 37, 3) := by decide +kernel
theorem dX5_restore_17 : decode cX5_restore 17 = .ok (.iload_n 1, 1) := by decide +kernel
theorem dX5_restore_18 : decode cX5_restore 18 = .ok (.baload, 1) := by decide +kernel
theorem dX5_restore_19 : decode cX5_restore 19 = .ok (.ifCond .ne 6, 3) := by decide +kernel
theorem dX5_restore_22 : decode cX5_restore 22 = .ok (.ldc 167, 2) := by decide +kernel
theorem dX5_restore_24 : decode cX5_restore 24 = .ok (.ireturn, 1) := by decide +kernel
theorem dX5_restore_25 : decode cX5_restore 25 = .ok (.iconst 0, 1) := by decide +kernel
theorem dX5_restore_26 : decode cX5_restore 26 = .ok (.istore_n 2, 1) := by decide +kernel
theorem dX5_restore_27 : decode cX5_restore 27 = .ok (.iload_n 2, 1) := by decide +kernel
theorem dX5_restore_28 : decode cX5_restore 28 = .ok (.bipush 70, 2) := by decide +kernel
theorem dX5_restore_30 : decode cX5_restore 30 = .ok (.if_icmp .ge 26, 3) := by decide +kernel
theorem dX5_restore_33 : decode cX5_restore 33 = .ok (.aload_n 0, 1) := by decide +kernel
theorem dX5_restore_34 : decode cX5_restore 34 = .ok (.getfield 19, 3) := by decide +kernel
theorem dX5_restore_37 : decode cX5_restore 37 = .ok (.iload_n 2, 1) := by decide +kernel
theorem dX5_restore_38 : decode cX5_restore 38 = .ok (.aload_n 0, 1) := by decide +kernel
theorem dX5_restore_39 : decode cX5_restore 39 = .ok (.getfield 41, 3) := by decide +kernel
theorem dX5_restore_42 : decode cX5_restore 42 = .ok (.bipush 70, 2) := by decide +kernel
theorem dX5_restore_44 : decode cX5_restore 44 = .ok (.iload_n 1, 1) := by decide +kernel
theorem dX5_restore_45 : decode cX5_restore 45 = .ok (.imul, 1) := by decide +kernel
theorem dX5_restore_46 : decode cX5_restore 46 = .ok (.iload_n 2, 1) := by decide +kernel
theorem dX5_restore_47 : decode cX5_restore 47 = .ok (.iadd, 1) := by decide +kernel
theorem dX5_restore_48 : decode cX5_restore 48 = .ok (.iaload, 1) := by decide +kernel
theorem dX5_restore_49 : decode cX5_restore 49 = .ok (.iastore, 1) := by decide +kernel
theorem dX5_restore_50 : decode cX5_restore 50 = .ok (.iinc 2 1, 3) := by decide +kernel
theorem dX5_restore_53 : decode cX5_restore 53 = .ok (.goto (-26), 3) := by decide +kernel
theorem dX5_restore_56 : decode cX5_restore 56 = .ok (.aload_n 0, 1) := by decide +kernel
theorem dX5_restore_57 : decode cX5_restore 57 = .ok (.iconst 0, 1) := by decide +kernel
theorem dX5_restore_58 : decode cX5_restore 58 = .ok (.putfield 139, 3) := by decide +kernel
theorem dX5_restore_61 : decode cX5_restore 61 = .ok (.iconst 1, 1) := by decide +kernel
theorem dX5_restore_62 : decode cX5_restore 62 = .ok (.ireturn, 1) := by decide +kernel
theorem dX5_kind_0 : decode cX5_kind 0 = .ok (.aload_n 0, 1) := by decide +kernel
theorem dX5_kind_1 : decode cX5_kind 1 = .ok (.iload_n 1, 1) := by decide +kernel
theorem dX5_kind_2 : decode cX5_kind 2 = .ok (.invokevirtual 180, 3) := by decide +kernel
theorem dX5_kind_5 : decode cX5_kind 5 = .ok (.ifCond .eq 15, 3) := by decide +kernel
theorem dX5_kind_8 : decode cX5_kind 8 = .ok (.aload_n 0, 1) := by decide +kernel
theorem dX5_kind_9 : decode cX5_kind 9 = .ok (.getfield 19, 3) := by decide +kernel
theorem dX5_kind_12 : decode cX5_kind 12 = .ok (.bipush 16, 2) := by decide +kernel
theorem dX5_kind_14 : decode cX5_kind 14 = .ok (.iload_n 1, 1) := by decide +kernel
theorem dX5_kind_15 : decode cX5_kind 15 = .ok (.iadd, 1) := by decide +kernel
theorem dX5_kind_16 : decode cX5_kind 16 = .ok (.iaload, 1) := by decide +kernel
theorem dX5_kind_17 : decode cX5_kind 17 = .ok (.goto 5, 3) := by decide +kernel
theorem dX5_kind_20 : decode cX5_kind 20 = .ok (.ldc 64, 2) := by decide +kernel
theorem dX5_kind_22 : decode cX5_kind 22 = .ok (.ireturn, 1) := by decide +kernel
theorem dX5_isKind_0 : decode cX5_isKind 0 = .ok (.iload_n 1, 1) := by decide +kernel
theorem dX5_isKind_1 : decode cX5_isKind 1 = .ok (.ifCond .eq 28, 3) := by decide +kernel
theorem dX5_isKind_4 : decode cX5_isKind 4 = .ok (.iload_n 0, 1) := by decide +kernel
theorem dX5_isKind_5 : decode cX5_isKind 5 = .ok (.iload_n 1, 1) := by decide +kernel
theorem dX5_isKind_6 : decode cX5_isKind 6 = .ok (.if_icmp .eq 23, 3) := by decide +kernel
theorem dX5_isKind_9 : decode cX5_isKind 9 = .ok (.iload_n 1, 1) := by decide +kernel
theorem dX5_isKind_10 : decode cX5_isKind 10 = .ok (.iconst 1, 1) := by decide +kernel
theorem dX5_isKind_11 : decode cX5_isKind 11 = .ok (.if_icmp .ne 8, 3) := by decide +kernel
theorem dX5_isKind_14 : decode cX5_isKind 14 = .ok (.iload_n 0, 1) := by decide +kernel
theorem dX5_isKind_15 : decode cX5_isKind 15 = .ok (.iconst 4, 1) := by decide +kernel
theorem dX5_isKind_16 : decode cX5_isKind 16 = .ok (.if_icmp .lt 13, 3) := by decide +kernel
theorem dX5_isKind_19 : decode cX5_isKind 19 = .ok (.iload_n 1, 1) := by decide +kernel
theorem dX5_isKind_20 : decode cX5_isKind 20 = .ok (.iconst 4, 1) := by decide +kernel
theorem dX5_isKind_21 : decode cX5_isKind 21 = .ok (.if_icmp .ne 12, 3) := by decide +kernel
theorem dX5_isKind_24 : decode cX5_isKind 24 = .ok (.iload_n 0, 1) := by decide +kernel
theorem dX5_isKind_25 : decode cX5_isKind 25 = .ok (.iconst 5, 1) := by decide +kernel
theorem dX5_isKind_26 : decode cX5_isKind 26 = .ok (.if_icmp .ne 7, 3) := by decide +kernel
theorem dX5_isKind_29 : decode cX5_isKind 29 = .ok (.iconst 1, 1) := by decide +kernel
theorem dX5_isKind_30 : decode cX5_isKind 30 = .ok (.goto 4, 3) := by decide +kernel
theorem dX5_isKind_33 : decode cX5_isKind 33 = .ok (.iconst 0, 1) := by decide +kernel
theorem dX5_isKind_34 : decode cX5_isKind 34 = .ok (.ireturn, 1) := by decide +kernel
theorem dX5_as_0 : decode cX5_as 0 = .ok (.aload_n 0, 1) := by decide +kernel
theorem dX5_as_1 : decode cX5_as 1 = .ok (.iload_n 1, 1) := by decide +kernel
theorem dX5_as_2 : decode cX5_as 2 = .ok (.invokevirtual 180, 3) := by decide +kernel
theorem dX5_as_5 : decode cX5_as 5 = .ok (.ifCond .eq 15, 3) := by decide +kernel
theorem dX5_as_8 : decode cX5_as 8 = .ok (.iload_n 2, 1) := by decide +kernel
theorem dX5_as_9 : decode cX5_as 9 = .ok (.i2l, 1) := by decide +kernel
theorem dX5_as_10 : decode cX5_as 10 = .ok (.lconst 0, 1) := by decide +kernel
theorem dX5_as_11 : decode cX5_as 11 = .ok (.ldc2_w 247, 3) := by decide +kernel
theorem dX5_as_14 : decode cX5_as 14 = .ok (.invokestatic 54, 3) := by decide +kernel
theorem dX5_as_17 : decode cX5_as 17 = .ok (.ifCond .ne 6, 3) := by decide +kernel
theorem dX5_as_20 : decode cX5_as 20 = .ok (.ldc 64, 2) := by decide +kernel
theorem dX5_as_22 : decode cX5_as 22 = .ok (.ireturn, 1) := by decide +kernel
theorem dX5_as_23 : decode cX5_as 23 = .ok (.aload_n 0, 1) := by decide +kernel
theorem dX5_as_24 : decode cX5_as 24 = .ok (.getfield 19, 3) := by decide +kernel
theorem dX5_as_27 : decode cX5_as 27 = .ok (.bipush 16, 2) := by decide +kernel
theorem dX5_as_29 : decode cX5_as 29 = .ok (.iload_n 1, 1) := by decide +kernel
theorem dX5_as_30 : decode cX5_as 30 = .ok (.iadd, 1) := by decide +kernel
theorem dX5_as_31 : decode cX5_as 31 = .ok (.iaload, 1) := by decide +kernel
theorem dX5_as_32 : decode cX5_as 32 = .ok (.iload_n 2, 1) := by decide +kernel
theorem dX5_as_33 : decode cX5_as 33 = .ok (.invokestatic 249, 3) := by decide +kernel
theorem dX5_as_36 : decode cX5_as 36 = .ok (.ifCond .eq 11, 3) := by decide +kernel
theorem dX5_as_39 : decode cX5_as 39 = .ok (.aload_n 0, 1) := by decide +kernel
theorem dX5_as_40 : decode cX5_as 40 = .ok (.iload_n 1, 1) := by decide +kernel
theorem dX5_as_41 : decode cX5_as 41 = .ok (.invokevirtual 69, 3) := by decide +kernel
theorem dX5_as_44 : decode cX5_as 44 = .ok (.goto 8, 3) := by decide +kernel
theorem dX5_as_47 : decode cX5_as 47 = .ok (.aload_n 0, 1) := by decide +kernel
theorem dX5_as_48 : decode cX5_as 48 = .ok (.iconst 3, 1) := by decide +kernel
theorem dX5_as_49 : decode cX5_as 49 = .ok (.invokevirtual 65, 3) := by decide +kernel
theorem dX5_as_52 : decode cX5_as 52 = .ok (.ireturn, 1) := by decide +kernel
theorem dX5_begin_0 : decode cX5_begin 0 = .ok (.aload_n 0, 1) := by decide +kernel
theorem dX5_begin_1 : decode cX5_begin 1 = .ok (.getfield 252, 3) := by decide +kernel
theorem dX5_begin_4 : decode cX5_begin 4 = .ok (.bipush 16, 2) := by decide +kernel
theorem dX5_begin_6 : decode cX5_begin 6 = .ok (.if_icmp .ge 23, 3) := by decide +kernel
theorem dX5_begin_9 : decode cX5_begin 9 = .ok (.aload_n 0, 1) := by decide +kernel
theorem dX5_begin_10 : decode cX5_begin 10 = .ok (.getfield 44, 3) := by decide +kernel
theorem dX5_begin_13 : decode cX5_begin 13 = .ok (.aload_n 0, 1) := by decide +kernel
theorem dX5_begin_14 : decode cX5_begin 14 = .ok (.getfield 252, 3) := by decide +kernel
theorem dX5_begin_17 : decode cX5_begin 17 = .ok (.iload_n 1, 1) := by decide +kernel
theorem dX5_begin_18 : decode cX5_begin 18 = .ok (.iastore, 1) := by decide +kernel
theorem dX5_begin_19 : decode cX5_begin 19 = .ok (.aload_n 0, 1) := by decide +kernel
theorem dX5_begin_20 : decode cX5_begin 20 = .ok (.dup, 1) := by decide +kernel
theorem dX5_begin_21 : decode cX5_begin 21 = .ok (.getfield 252, 3) := by decide +kernel
theorem dX5_begin_24 : decode cX5_begin 24 = .ok (.iconst 1, 1) := by decide +kernel
theorem dX5_begin_25 : decode cX5_begin 25 = .ok (.iadd, 1) := by decide +kernel
theorem dX5_begin_26 : decode cX5_begin 26 = .ok (.putfield 252, 3) := by decide +kernel
theorem dX5_begin_29 : decode cX5_begin 29 = .ok (.return_, 1) := by decide +kernel
theorem dX5_lent_0 : decode cX5_lent 0 = .ok (.aload_n 0, 1) := by decide +kernel
theorem dX5_lent_1 : decode cX5_lent 1 = .ok (.iload_n 2, 1) := by decide +kernel
theorem dX5_lent_2 : decode cX5_lent 2 = .ok (.invokevirtual 255, 3) := by decide +kernel
theorem dX5_lent_5 : decode cX5_lent 5 = .ok (.iload_n 2, 1) := by decide +kernel
theorem dX5_lent_6 : decode cX5_lent 6 = .ok (.bipush 10, 2) := by decide +kernel
theorem dX5_lent_8 : decode cX5_lent 8 = .ok (.if_icmp .ne 15, 3) := by decide +kernel
theorem dX5_lent_11 : decode cX5_lent 11 = .ok (.aload_n 0, 1) := by decide +kernel
theorem dX5_lent_12 : decode cX5_lent 12 = .ok (.getfield 19, 3) := by decide +kernel
theorem dX5_lent_15 : decode cX5_lent 15 = .ok (.bipush 28, 2) := by decide +kernel
theorem dX5_lent_17 : decode cX5_lent 17 = .ok (.iload_n 1, 1) := by decide +kernel
theorem dX5_lent_18 : decode cX5_lent 18 = .ok (.iadd, 1) := by decide +kernel
theorem dX5_lent_19 : decode cX5_lent 19 = .ok (.iaload, 1) := by decide +kernel
theorem dX5_lent_20 : decode cX5_lent 20 = .ok (.goto 4, 3) := by decide +kernel
theorem dX5_lent_23 : decode cX5_lent 23 = .ok (.iload_n 1, 1) := by decide +kernel
theorem dX5_lent_24 : decode cX5_lent 24 = .ok (.ireturn, 1) := by decide +kernel
theorem dX5_pointedMark_0 : decode cX5_pointedMark 0 = .ok (.aload_n 0, 1) := by decide +kernel
theorem dX5_pointedMark_1 : decode cX5_pointedMark 1 = .ok (.bipush 21, 2) := by decide +kernel
theorem dX5_pointedMark_3 : decode cX5_pointedMark 3 = .ok (.invokevirtual 255, 3) := by decide +kernel
theorem dX5_pointedMark_6 : decode cX5_pointedMark 6 = .ok (.aload_n 0, 1) := by decide +kernel
theorem dX5_pointedMark_7 : decode cX5_pointedMark 7 = .ok (.iload_n 1, 1) := by decide +kernel
theorem dX5_pointedMark_8 : decode cX5_pointedMark 8 = .ok (.bipush 20, 2) := by decide +kernel
theorem dX5_pointedMark_10 : decode cX5_pointedMark 10 = .ok (.invokevirtual 258, 3) := by decide +kernel
theorem dX5_pointedMark_13 : decode cX5_pointedMark 13 = .ok (.aload_n 0, 1) := by decide +kernel
theorem dX5_pointedMark_14 : decode cX5_pointedMark 14 = .ok (.iload_n 1, 1) := by decide +kernel
theorem dX5_pointedMark_15 : decode cX5_pointedMark 15 = .ok (.invokevirtual 158, 3) := by decide +kernel
theorem dX5_pointedMark_18 : decode cX5_pointedMark 18 = .ok (.iadd, 1) := by decide +kernel
theorem dX5_pointedMark_19 : decode cX5_pointedMark 19 = .ok (.ireturn, 1) := by decide +kernel
theorem dX5_idleSize_0 : decode cX5_idleSize 0 = .ok (.aload_n 0, 1) := by decide +kernel
theorem dX5_idleSize_1 : decode cX5_idleSize 1 = .ok (.bipush 13, 2) := by decide +kernel
theorem dX5_idleSize_3 : decode cX5_idleSize 3 = .ok (.invokevirtual 255, 3) := by decide +kernel
theorem dX5_idleSize_6 : decode cX5_idleSize 6 = .ok (.aload_n 0, 1) := by decide +kernel
theorem dX5_idleSize_7 : decode cX5_idleSize 7 = .ok (.iload_n 1, 1) := by decide +kernel
theorem dX5_idleSize_8 : decode cX5_idleSize 8 = .ok (.bipush 10, 2) := by decide +kernel
theorem dX5_idleSize_10 : decode cX5_idleSize 10 = .ok (.invokevirtual 258, 3) := by decide +kernel
theorem dX5_idleSize_13 : decode cX5_idleSize 13 = .ok (.bipush 100, 2) := by decide +kernel
theorem dX5_idleSize_15 : decode cX5_idleSize 15 = .ok (.isub, 1) := by decide +kernel
theorem dX5_idleSize_16 : decode cX5_idleSize 16 = .ok (.ireturn, 1) := by decide +kernel
theorem dX5_sizeOfIdle_0 : decode cX5_sizeOfIdle 0 = .ok (.aload_n 0, 1) := by decide +kernel
theorem dX5_sizeOfIdle_1 : decode cX5_sizeOfIdle 1 = .ok (.getfield 19, 3) := by decide +kernel
theorem dX5_sizeOfIdle_4 : decode cX5_sizeOfIdle 4 = .ok (.bipush 16, 2) := by decide +kernel
theorem dX5_sizeOfIdle_6 : decode cX5_sizeOfIdle 6 = .ok (.iload_n 1, 1) := by decide +kernel
theorem dX5_sizeOfIdle_7 : decode cX5_sizeOfIdle 7 = .ok (.iadd, 1) := by decide +kernel
theorem dX5_sizeOfIdle_8 : decode cX5_sizeOfIdle 8 = .ok (.iaload, 1) := by decide +kernel
theorem dX5_sizeOfIdle_9 : decode cX5_sizeOfIdle 9 = .ok (.iconst 5, 1) := by decide +kernel
theorem dX5_sizeOfIdle_10 : decode cX5_sizeOfIdle 10 = .ok (.if_icmp .ne 17, 3) := by decide +kernel
theorem dX5_sizeOfIdle_13 : decode cX5_sizeOfIdle 13 = .ok (.aload_n 0, 1) := by decide +kernel
theorem dX5_sizeOfIdle_14 : decode cX5_sizeOfIdle 14 = .ok (.bipush 14, 2) := by decide +kernel
theorem dX5_sizeOfIdle_16 : decode cX5_sizeOfIdle 16 = .ok (.invokevirtual 255, 3) := by decide +kernel
theorem dX5_sizeOfIdle_19 : decode cX5_sizeOfIdle 19 = .ok (.iconst 2, 1) := by decide +kernel
theorem dX5_sizeOfIdle_20 : decode cX5_sizeOfIdle 20 = .ok (.aload_n 0, 1) := by decide +kernel
theorem dX5_sizeOfIdle_21 : decode cX5_sizeOfIdle 21 = .ok (.iload_n 1, 1) := by decide +kernel
theorem dX5_sizeOfIdle_22 : decode cX5_sizeOfIdle 22 = .ok (.invokevirtual 261, 3) := by decide +kernel
theorem dX5_sizeOfIdle_25 : decode cX5_sizeOfIdle 25 = .ok (.imul, 1) := by decide +kernel
theorem dX5_sizeOfIdle_26 : decode cX5_sizeOfIdle 26 = .ok (.ireturn, 1) := by decide +kernel
theorem dX5_sizeOfIdle_27 : decode cX5_sizeOfIdle 27 = .ok (.aload_n 0, 1) := by decide +kernel
theorem dX5_sizeOfIdle_28 : decode cX5_sizeOfIdle 28 = .ok (.iload_n 1, 1) := by decide +kernel
theorem dX5_sizeOfIdle_29 : decode cX5_sizeOfIdle 29 = .ok (.invokevirtual 261, 3) := by decide +kernel
theorem dX5_sizeOfIdle_32 : decode cX5_sizeOfIdle 32 = .ok (.ireturn, 1) := by decide +kernel
theorem dX5_markOf_0 : decode cX5_markOf 0 = .ok (.aload_n 0, 1) := by decide +kernel
theorem dX5_markOf_1 : decode cX5_markOf 1 = .ok (.getfield 19, 3) := by decide +kernel
theorem dX5_markOf_4 : decode cX5_markOf 4 = .ok (.bipush 16, 2) := by decide +kernel
theorem dX5_markOf_6 : decode cX5_markOf 6 = .ok (.iload_n 1, 1) := by decide +kernel
theorem dX5_markOf_7 : decode cX5_markOf 7 = .ok (.iadd, 1) := by decide +kernel
theorem dX5_markOf_8 : decode cX5_markOf 8 = .ok (.iaload, 1) := by decide +kernel
theorem dX5_markOf_9 : decode cX5_markOf 9 = .ok (.istore_n 2, 1) := by decide +kernel
theorem dX5_markOf_10 : decode cX5_markOf 10 = .ok (.iload_n 2, 1) := by decide +kernel
theorem dX5_markOf_11 : decode cX5_markOf 11 = .ok (.iconst 2, 1) := by decide +kernel
theorem dX5_markOf_12 : decode cX5_markOf 12 = .ok (.if_icmp .ne 17, 3) := by decide +kernel
theorem dX5_markOf_15 : decode cX5_markOf 15 = .ok (.aload_n 0, 1) := by decide +kernel
theorem dX5_markOf_16 : decode cX5_markOf 16 = .ok (.bipush 24, 2) := by decide +kernel
theorem dX5_markOf_18 : decode cX5_markOf 18 = .ok (.invokevirtual 255, 3) := by decide +kernel
theorem dX5_markOf_21 : decode cX5_markOf 21 = .ok (.iconst 2, 1) := by decide +kernel
theorem dX5_markOf_22 : decode cX5_markOf 22 = .ok (.aload_n 0, 1) := by decide +kernel
theorem dX5_markOf_23 : decode cX5_markOf 23 = .ok (.iload_n 1, 1) := by decide +kernel
theorem dX5_markOf_24 : decode cX5_markOf 24 = .ok (.invokevirtual 264, 3) := by decide +kernel
theorem dX5_markOf_27 : decode cX5_markOf 27 = .ok (.imul, 1) := by decide +kernel
theorem dX5_markOf_28 : decode cX5_markOf 28 = .ok (.ireturn, 1) := by decide +kernel
theorem dX5_markOf_29 : decode cX5_markOf 29 = .ok (.iload_n 2, 1) := by decide +kernel
theorem dX5_markOf_30 : decode cX5_markOf 30 = .ok (.iconst 3, 1) := by decide +kernel
theorem dX5_markOf_31 : decode cX5_markOf 31 = .ok (.if_icmp .ne 19, 3) := by decide +kernel
theorem dX5_markOf_34 : decode cX5_markOf 34 = .ok (.aload_n 0, 1) := by decide +kernel
theorem dX5_markOf_35 : decode cX5_markOf 35 = .ok (.bipush 22, 2) := by decide +kernel
theorem dX5_markOf_37 : decode cX5_markOf 37 = .ok (.invokevirtual 255, 3) := by decide +kernel
theorem dX5_markOf_40 : decode cX5_markOf 40 = .ok (.aload_n 0, 1) := by decide +kernel
theorem dX5_markOf_41 : decode cX5_markOf 41 = .ok (.iload_n 1, 1) := by decide +kernel
theorem dX5_markOf_42 : decode cX5_markOf 42 = .ok (.invokevirtual 264, 3) := by decide +kernel
theorem dX5_markOf_45 : decode cX5_markOf 45 = .ok (.sipush 1000, 3) := by decide +kernel
theorem dX5_markOf_48 : decode cX5_markOf 48 = .ok (.isub, 1) := by decide +kernel
theorem dX5_markOf_49 : decode cX5_markOf 49 = .ok (.ireturn, 1) := by decide +kernel
theorem dX5_markOf_50 : decode cX5_markOf 50 = .ok (.iload_n 2, 1) := by decide +kernel
theorem dX5_markOf_51 : decode cX5_markOf 51 = .ok (.iconst 1, 1) := by decide +kernel
theorem dX5_markOf_52 : decode cX5_markOf 52 = .ok (.if_icmp .ne 9, 3) := by decide +kernel
theorem dX5_markOf_55 : decode cX5_markOf 55 = .ok (.aload_n 0, 1) := by decide +kernel
theorem dX5_markOf_56 : decode cX5_markOf 56 = .ok (.iload_n 1, 1) := by decide +kernel
theorem dX5_markOf_57 : decode cX5_markOf 57 = .ok (.invokevirtual 264, 3) := by decide +kernel
theorem dX5_markOf_60 : decode cX5_markOf 60 = .ok (.ireturn, 1) := by decide +kernel
theorem dX5_markOf_61 : decode cX5_markOf 61 = .ok (.aload_n 0, 1) := by decide +kernel
theorem dX5_markOf_62 : decode cX5_markOf 62 = .ok (.bipush 23, 2) := by decide +kernel
theorem dX5_markOf_64 : decode cX5_markOf 64 = .ok (.invokevirtual 255, 3) := by decide +kernel
theorem dX5_markOf_67 : decode cX5_markOf 67 = .ok (.aload_n 0, 1) := by decide +kernel
theorem dX5_markOf_68 : decode cX5_markOf 68 = .ok (.iload_n 1, 1) := by decide +kernel
theorem dX5_markOf_69 : decode cX5_markOf 69 = .ok (.bipush 20, 2) := by decide +kernel
theorem dX5_markOf_71 : decode cX5_markOf 71 = .ok (.invokevirtual 258, 3) := by decide +kernel
theorem dX5_markOf_74 : decode cX5_markOf 74 = .ok (.istore_n 3, 1) := by decide +kernel
theorem dX5_markOf_75 : decode cX5_markOf 75 = .ok (.iload_n 3, 1) := by decide +kernel
theorem dX5_markOf_76 : decode cX5_markOf 76 = .ok (.aload_n 0, 1) := by decide +kernel
theorem dX5_markOf_77 : decode cX5_markOf 77 = .ok (.iload_n 1, 1) := by decide +kernel
theorem dX5_markOf_78 : decode cX5_markOf 78 = .ok (.invokevirtual 267, 3) := by decide +kernel
theorem dX5_markOf_81 : decode cX5_markOf 81 = .ok (.isub, 1) := by decide +kernel
theorem dX5_markOf_82 : decode cX5_markOf 82 = .ok (.ireturn, 1) := by decide +kernel
theorem dX5_pointedSize_0 : decode cX5_pointedSize 0 = .ok (.aload_n 0, 1) := by decide +kernel
theorem dX5_pointedSize_1 : decode cX5_pointedSize 1 = .ok (.bipush 11, 2) := by decide +kernel
theorem dX5_pointedSize_3 : decode cX5_pointedSize 3 = .ok (.invokevirtual 255, 3) := by decide +kernel
theorem dX5_pointedSize_6 : decode cX5_pointedSize 6 = .ok (.aload_n 0, 1) := by decide +kernel
theorem dX5_pointedSize_7 : decode cX5_pointedSize 7 = .ok (.iload_n 1, 1) := by decide +kernel
theorem dX5_pointedSize_8 : decode cX5_pointedSize 8 = .ok (.bipush 10, 2) := by decide +kernel
theorem dX5_pointedSize_10 : decode cX5_pointedSize 10 = .ok (.invokevirtual 258, 3) := by decide +kernel
theorem dX5_pointedSize_13 : decode cX5_pointedSize 13 = .ok (.istore_n 2, 1) := by decide +kernel
theorem dX5_pointedSize_14 : decode cX5_pointedSize 14 = .ok (.iload_n 2, 1) := by decide +kernel
theorem dX5_pointedSize_15 : decode cX5_pointedSize 15 = .ok (.aload_n 0, 1) := by decide +kernel
theorem dX5_pointedSize_16 : decode cX5_pointedSize 16 = .ok (.iload_n 1, 1) := by decide +kernel
theorem dX5_pointedSize_17 : decode cX5_pointedSize 17 = .ok (.invokevirtual 270, 3) := by decide +kernel
theorem dX5_pointedSize_20 : decode cX5_pointedSize 20 = .ok (.iadd, 1) := by decide +kernel
theorem dX5_pointedSize_21 : decode cX5_pointedSize 21 = .ok (.ireturn, 1) := by decide +kernel
theorem dX5_sizeOf_0 : decode cX5_sizeOf 0 = .ok (.aload_n 0, 1) := by decide +kernel
theorem dX5_sizeOf_1 : decode cX5_sizeOf 1 = .ok (.getfield 19, 3) := by decide +kernel
theorem dX5_sizeOf_4 : decode cX5_sizeOf 4 = .ok (.bipush 16, 2) := by decide +kernel
theorem dX5_sizeOf_6 : decode cX5_sizeOf 6 = .ok (.iload_n 1, 1) := by decide +kernel
theorem dX5_sizeOf_7 : decode cX5_sizeOf 7 = .ok (.iadd, 1) := by decide +kernel
theorem dX5_sizeOf_8 : decode cX5_sizeOf 8 = .ok (.iaload, 1) := by decide +kernel
theorem dX5_sizeOf_9 : decode cX5_sizeOf 9 = .ok (.istore_n 2, 1) := by decide +kernel
theorem dX5_sizeOf_10 : decode cX5_sizeOf 10 = .ok (.iload_n 2, 1) := by decide +kernel
theorem dX5_sizeOf_11 : decode cX5_sizeOf 11 = .ok (.iconst 2, 1) := by decide +kernel
theorem dX5_sizeOf_12 : decode cX5_sizeOf 12 = .ok (.if_icmp .ne 16, 3) := by decide +kernel
theorem dX5_sizeOf_15 : decode cX5_sizeOf 15 = .ok (.aload_n 0, 1) := by decide +kernel
theorem dX5_sizeOf_16 : decode cX5_sizeOf 16 = .ok (.bipush 12, 2) := by decide +kernel
theorem dX5_sizeOf_18 : decode cX5_sizeOf 18 = .ok (.invokevirtual 255, 3) := by decide +kernel
theorem dX5_sizeOf_21 : decode cX5_sizeOf 21 = .ok (.aload_n 0, 1) := by decide +kernel
theorem dX5_sizeOf_22 : decode cX5_sizeOf 22 = .ok (.iload_n 1, 1) := by decide +kernel
theorem dX5_sizeOf_23 : decode cX5_sizeOf 23 = .ok (.invokevirtual 273, 3) := by decide +kernel
theorem dX5_sizeOf_26 : decode cX5_sizeOf 26 = .ok (.ineg, 1) := by decide +kernel
theorem dX5_sizeOf_27 : decode cX5_sizeOf 27 = .ok (.ireturn, 1) := by decide +kernel
theorem dX5_sizeOf_28 : decode cX5_sizeOf 28 = .ok (.iload_n 2, 1) := by decide +kernel
theorem dX5_sizeOf_29 : decode cX5_sizeOf 29 = .ok (.iconst 4, 1) := by decide +kernel
theorem dX5_sizeOf_30 : decode cX5_sizeOf 30 = .ok (.if_icmp .lt 11, 3) := by decide +kernel
theorem dX5_sizeOf_33 : decode cX5_sizeOf 33 = .ok (.aload_n 0, 1) := by decide +kernel
theorem dX5_sizeOf_34 : decode cX5_sizeOf 34 = .ok (.iload_n 1, 1) := by decide +kernel
theorem dX5_sizeOf_35 : decode cX5_sizeOf 35 = .ok (.invokevirtual 267, 3) := by decide +kernel
theorem dX5_sizeOf_38 : decode cX5_sizeOf 38 = .ok (.goto 8, 3) := by decide +kernel
theorem dX5_sizeOf_41 : decode cX5_sizeOf 41 = .ok (.aload_n 0, 1) := by decide +kernel
theorem dX5_sizeOf_42 : decode cX5_sizeOf 42 = .ok (.iload_n 1, 1) := by decide +kernel
theorem dX5_sizeOf_43 : decode cX5_sizeOf 43 = .ok (.invokevirtual 273, 3) := by decide +kernel
theorem dX5_sizeOf_46 : decode cX5_sizeOf 46 = .ok (.ireturn, 1) := by decide +kernel
theorem dX5_ask_0 : decode cX5_ask 0 = .ok (.aload_n 0, 1) := by decide +kernel
theorem dX5_ask_1 : decode cX5_ask 1 = .ok (.iload_n 1, 1) := by decide +kernel
theorem dX5_ask_2 : decode cX5_ask 2 = .ok (.invokevirtual 180, 3) := by decide +kernel
theorem dX5_ask_5 : decode cX5_ask 5 = .ok (.ifCond .eq 13, 3) := by decide +kernel
theorem dX5_ask_8 : decode cX5_ask 8 = .ok (.iload_n 2, 1) := by decide +kernel
theorem dX5_ask_9 : decode cX5_ask 9 = .ok (.i2l, 1) := by decide +kernel
theorem dX5_ask_10 : decode cX5_ask 10 = .ok (.lconst 0, 1) := by decide +kernel
theorem dX5_ask_11 : decode cX5_ask 11 = .ok (.lconst 1, 1) := by decide +kernel
theorem dX5_ask_12 : decode cX5_ask 12 = .ok (.invokestatic 54, 3) := by decide +kernel
theorem dX5_ask_15 : decode cX5_ask 15 = .ok (.ifCond .ne 6, 3) := by decide +kernel
theorem dX5_ask_18 : decode cX5_ask 18 = .ok (.ldc 64, 2) := by decide +kernel
theorem dX5_ask_20 : decode cX5_ask 20 = .ok (.ireturn, 1) := by decide +kernel
theorem dX5_ask_21 : decode cX5_ask 21 = .ok (.aload_n 0, 1) := by decide +kernel
theorem dX5_ask_22 : decode cX5_ask 22 = .ok (.iconst 0, 1) := by decide +kernel
theorem dX5_ask_23 : decode cX5_ask 23 = .ok (.putfield 252, 3) := by decide +kernel
theorem dX5_ask_26 : decode cX5_ask 26 = .ok (.iload_n 2, 1) := by decide +kernel
theorem dX5_ask_27 : decode cX5_ask 27 = .ok (.ifCond .ne 11, 3) := by decide +kernel
theorem dX5_ask_30 : decode cX5_ask 30 = .ok (.aload_n 0, 1) := by decide +kernel
theorem dX5_ask_31 : decode cX5_ask 31 = .ok (.iload_n 1, 1) := by decide +kernel
theorem dX5_ask_32 : decode cX5_ask 32 = .ok (.invokevirtual 276, 3) := by decide +kernel
theorem dX5_ask_35 : decode cX5_ask 35 = .ok (.goto 8, 3) := by decide +kernel
theorem dX5_ask_38 : decode cX5_ask 38 = .ok (.aload_n 0, 1) := by decide +kernel
theorem dX5_ask_39 : decode cX5_ask 39 = .ok (.iload_n 1, 1) := by decide +kernel
theorem dX5_ask_40 : decode cX5_ask 40 = .ok (.invokevirtual 270, 3) := by decide +kernel
theorem dX5_ask_43 : decode cX5_ask 43 = .ok (.ireturn, 1) := by decide +kernel
theorem dX5_trace_0 : decode cX5_trace 0 = .ok (.iload_n 1, 1) := by decide +kernel
theorem dX5_trace_1 : decode cX5_trace 1 = .ok (.i2l, 1) := by decide +kernel
theorem dX5_trace_2 : decode cX5_trace 2 = .ok (.lconst 0, 1) := by decide +kernel
theorem dX5_trace_3 : decode cX5_trace 3 = .ok (.aload_n 0, 1) := by decide +kernel
theorem dX5_trace_4 : decode cX5_trace 4 = .ok (.getfield 252, 3) := by decide +kernel
theorem dX5_trace_7 : decode cX5_trace 7 = .ok (.iconst 1, 1) := by decide +kernel
theorem dX5_trace_8 : decode cX5_trace 8 = .ok (.isub, 1) := by decide +kernel
theorem dX5_trace_9 : decode cX5_trace 9 = .ok (.i2l, 1) := by decide +kernel
theorem dX5_trace_10 : decode cX5_trace 10 = .ok (.invokestatic 54, 3) := by decide +kernel
theorem dX5_trace_13 : decode cX5_trace 13 = .ok (.ifCond .eq 12, 3) := by decide +kernel
theorem dX5_trace_16 : decode cX5_trace 16 = .ok (.aload_n 0, 1) := by decide +kernel
theorem dX5_trace_17 : decode cX5_trace 17 = .ok (.getfield 44, 3) := by decide +kernel
theorem dX5_trace_20 : decode cX5_trace 20 = .ok (.iload_n 1, 1) := by decide +kernel
theorem dX5_trace_21 : decode cX5_trace 21 = .ok (.iaload, 1) := by decide +kernel
theorem dX5_trace_22 : decode cX5_trace 22 = .ok (.goto 5, 3) := by decide +kernel
theorem dX5_trace_25 : decode cX5_trace 25 = .ok (.ldc 204, 2) := by decide +kernel
theorem dX5_trace_27 : decode cX5_trace 27 = .ok (.ireturn, 1) := by decide +kernel
theorem dX5_count_0 : decode cX5_count 0 = .ok (.iconst 0, 1) := by decide +kernel
theorem dX5_count_1 : decode cX5_count 1 = .ok (.istore_n 2, 1) := by decide +kernel
theorem dX5_count_2 : decode cX5_count 2 = .ok (.iconst 0, 1) := by decide +kernel
theorem dX5_count_3 : decode cX5_count 3 = .ok (.istore_n 3, 1) := by decide +kernel
theorem dX5_count_4 : decode cX5_count 4 = .ok (.iload_n 3, 1) := by decide +kernel
theorem dX5_count_5 : decode cX5_count 5 = .ok (.bipush 8, 2) := by decide +kernel
theorem dX5_count_7 : decode cX5_count 7 = .ok (.if_icmp .ge 26, 3) := by decide +kernel
theorem dX5_count_10 : decode cX5_count 10 = .ok (.iload_n 2, 1) := by decide +kernel
theorem dX5_count_11 : decode cX5_count 11 = .ok (.aload_n 0, 1) := by decide +kernel
theorem dX5_count_12 : decode cX5_count 12 = .ok (.getfield 13, 3) := by decide +kernel
theorem dX5_count_15 : decode cX5_count 15 = .ok (.iload_n 3, 1) := by decide +kernel
theorem dX5_count_16 : decode cX5_count 16 = .ok (.iaload, 1) := by decide +kernel
theorem dX5_count_17 : decode cX5_count 17 = .ok (.ifCond .lt 7, 3) := by decide +kernel
theorem dX5_count_20 : decode cX5_count 20 = .ok (.iconst 1, 1) := by decide +kernel
theorem dX5_count_21 : decode cX5_count 21 = .ok (.goto 4, 3) := by decide +kernel
theorem dX5_count_24 : decode cX5_count 24 = .ok (.iconst 0, 1) := by decide +kernel
theorem dX5_count_25 : decode cX5_count 25 = .ok (.iadd, 1) := by decide +kernel
theorem dX5_count_26 : decode cX5_count 26 = .ok (.istore_n 2, 1) := by decide +kernel
theorem dX5_count_27 : decode cX5_count 27 = .ok (.iinc 3 1, 3) := by decide +kernel
theorem dX5_count_30 : decode cX5_count 30 = .ok (.goto (-26), 3) := by decide +kernel
theorem dX5_count_33 : decode cX5_count 33 = .ok (.iload_n 1, 1) := by decide +kernel
theorem dX5_count_34 : decode cX5_count 34 = .ok (.tableswitch 91 0 7 #[46, 48, 55, 62, 69, 74, 81, 86], 46) := by decide +kernel
theorem dX5_count_80 : decode cX5_count 80 = .ok (.iload_n 2, 1) := by decide +kernel
theorem dX5_count_81 : decode cX5_count 81 = .ok (.ireturn, 1) := by decide +kernel
theorem dX5_count_82 : decode cX5_count 82 = .ok (.aload_n 0, 1) := by decide +kernel
theorem dX5_count_83 : decode cX5_count 83 = .ok (.getfield 19, 3) := by decide +kernel
theorem dX5_count_86 : decode cX5_count 86 = .ok (.iconst 2, 1) := by decide +kernel
theorem dX5_count_87 : decode cX5_count 87 = .ok (.iaload, 1) := by decide +kernel
theorem dX5_count_88 : decode cX5_count 88 = .ok (.ireturn, 1) := by decide +kernel
theorem dX5_count_89 : decode cX5_count 89 = .ok (.aload_n 0, 1) := by decide +kernel
theorem dX5_count_90 : decode cX5_count 90 = .ok (.getfield 19, 3) := by decide +kernel
theorem dX5_count_93 : decode cX5_count 93 = .ok (.iconst 3, 1) := by decide +kernel
theorem dX5_count_94 : decode cX5_count 94 = .ok (.iaload, 1) := by decide +kernel
theorem dX5_count_95 : decode cX5_count 95 = .ok (.ireturn, 1) := by decide +kernel
theorem dX5_count_96 : decode cX5_count 96 = .ok (.aload_n 0, 1) := by decide +kernel
theorem dX5_count_97 : decode cX5_count 97 = .ok (.getfield 19, 3) := by decide +kernel
theorem dX5_count_100 : decode cX5_count 100 = .ok (.iconst 4, 1) := by decide +kernel
theorem dX5_count_101 : decode cX5_count 101 = .ok (.iaload, 1) := by decide +kernel
theorem dX5_count_102 : decode cX5_count 102 = .ok (.ireturn, 1) := by decide +kernel
theorem dX5_count_103 : decode cX5_count 103 = .ok (.aload_n 0, 1) := by decide +kernel
theorem dX5_count_104 : decode cX5_count 104 = .ok (.invokevirtual 176, 3) := by decide +kernel
theorem dX5_count_107 : decode cX5_count 107 = .ok (.ireturn, 1) := by decide +kernel
theorem dX5_count_108 : decode cX5_count 108 = .ok (.aload_n 0, 1) := by decide +kernel
theorem dX5_count_109 : decode cX5_count 109 = .ok (.getfield 19, 3) := by decide +kernel
theorem dX5_count_112 : decode cX5_count 112 = .ok (.iconst 5, 1) := by decide +kernel
theorem dX5_count_113 : decode cX5_count 113 = .ok (.iaload, 1) := by decide +kernel
theorem dX5_count_114 : decode cX5_count 114 = .ok (.ireturn, 1) := by decide +kernel
theorem dX5_count_115 : decode cX5_count 115 = .ok (.aload_n 0, 1) := by decide +kernel
theorem dX5_count_116 : decode cX5_count 116 = .ok (.getfield 139, 3) := by decide +kernel
theorem dX5_count_119 : decode cX5_count 119 = .ok (.ireturn, 1) := by decide +kernel
theorem dX5_count_120 : decode cX5_count 120 = .ok (.aload_n 0, 1) := by decide +kernel
theorem dX5_count_121 : decode cX5_count 121 = .ok (.getfield 78, 3) := by decide +kernel
theorem dX5_count_124 : decode cX5_count 124 = .ok (.ireturn, 1) := by decide +kernel
theorem dX5_count_125 : decode cX5_count 125 = .ok (.ldc 64, 2) := by decide +kernel
theorem dX5_count_127 : decode cX5_count 127 = .ok (.ireturn, 1) := by decide +kernel
theorem dX5_status_0 : decode cX5_status 0 = .ok (.aload_n 0, 1) := by decide +kernel
theorem dX5_status_1 : decode cX5_status 1 = .ok (.getfield 47, 3) := by decide +kernel
theorem dX5_status_4 : decode cX5_status 4 = .ok (.ireturn, 1) := by decide +kernel
