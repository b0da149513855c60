theorem dX4_init_0 : decode cX4_init 0 = .ok (.aload_n 0, 1) := by decide +kernel
theorem dX4_init_1 : decode cX4_init 1 = .ok (.invokespecial 1, 3) := by decide +kernel
theorem dX4_init_4 : decode cX4_init 4 = .ok (.aload_n 0, 1) := by decide +kernel
theorem dX4_init_5 : decode cX4_init 5 = .ok (.bipush 8, 2) := by decide +kernel
theorem dX4_init_7 : decode cX4_init 7 = .ok (.anewarray 9, 3) := by decide +kernel
theorem dX4_init_10 : decode cX4_init 10 = .ok (.putfield 11, 3) := by decide +kernel
theorem dX4_init_13 : decode cX4_init 13 = .ok (.iconst 0, 1) := by decide +kernel
theorem dX4_init_14 : decode cX4_init 14 = .ok (.istore_n 1, 1) := by decide +kernel
theorem dX4_init_15 : decode cX4_init 15 = .ok (.iload_n 1, 1) := by decide +kernel
theorem dX4_init_16 : decode cX4_init 16 = .ok (.bipush 8, 2) := by decide +kernel
theorem dX4_init_18 : decode cX4_init 18 = .ok (.if_icmp .ge 22, 3) := by decide +kernel
theorem dX4_init_21 : decode cX4_init 21 = .ok (.aload_n 0, 1) := by decide +kernel
theorem dX4_init_22 : decode cX4_init 22 = .ok (.getfield 11, 3) := by decide +kernel
theorem dX4_init_25 : decode cX4_init 25 = .ok (.iload_n 1, 1) := by decide +kernel
theorem dX4_init_26 : decode cX4_init 26 = .ok (.new 9, 3) := by decide +kernel
theorem dX4_init_29 : decode cX4_init 29 = .ok (.dup, 1) := by decide +kernel
theorem dX4_init_30 : decode cX4_init 30 = .ok (.invokespecial 15, 3) := by decide +kernel
theorem dX4_init_33 : decode cX4_init 33 = .ok (.aastore, 1) := by decide +kernel
theorem dX4_init_34 : decode cX4_init 34 = .ok (.iinc 1 1, 3) := by decide +kernel
theorem dX4_init_37 : decode cX4_init 37 = .ok (.goto (-22), 3) := by decide +kernel
theorem dX4_init_40 : decode cX4_init 40 = .ok (.aload_n 0, 1) := by decide +kernel
theorem dX4_init_41 : decode cX4_init 41 = .ok (.iconst 2, 1) := by decide +kernel
theorem dX4_init_42 : decode cX4_init 42 = .ok (.anewarray 16, 3) := by decide +kernel
theorem dX4_init_45 : decode cX4_init 45 = .ok (.putfield 18, 3) := by decide +kernel
theorem dX4_init_48 : decode cX4_init 48 = .ok (.iconst 0, 1) := by decide +kernel
theorem dX4_init_49 : decode cX4_init 49 = .ok (.istore_n 1, 1) := by decide +kernel
theorem dX4_init_50 : decode cX4_init 50 = .ok (.iload_n 1, 1) := by decide +kernel
theorem dX4_init_51 : decode cX4_init 51 = .ok (.iconst 2, 1) := by decide +kernel
theorem dX4_init_52 : decode cX4_init 52 = .ok (.if_icmp .ge 22, 3) := by decide +kernel
theorem dX4_init_55 : decode cX4_init 55 = .ok (.aload_n 0, 1) := by decide +kernel
theorem dX4_init_56 : decode cX4_init 56 = .ok (.getfield 18, 3) := by decide +kernel
theorem dX4_init_59 : decode cX4_init 59 = .ok (.iload_n 1, 1) := by decide +kernel
theorem dX4_init_60 : decode cX4_init 60 = .ok (.new 16, 3) := by decide +kernel
theorem dX4_init_63 : decode cX4_init 63 = .ok (.dup, 1) := by decide +kernel
theorem dX4_init_64 : decode cX4_init 64 = .ok (.invokespecial 22, 3) := by decide +kernel
theorem dX4_init_67 : decode cX4_init 67 = .ok (.aastore, 1) := by decide +kernel
theorem dX4_init_68 : decode cX4_init 68 = .ok (.iinc 1 1, 3) := by decide +kernel
theorem dX4_init_71 : decode cX4_init 71 = .ok (.goto (-21), 3) := by decide +kernel
theorem dX4_init_74 : decode cX4_init 74 = .ok (.aload_n 0, 1) := by decide +kernel
theorem dX4_init_75 : decode cX4_init 75 = .ok (.new 23, 3) := by decide +kernel
theorem dX4_init_78 : decode cX4_init 78 = .ok (.dup, 1) := by decide +kernel
theorem dX4_init_79 : decode cX4_init 79 = .ok (.invokespecial 25, 3) := by decide +kernel
theorem dX4_init_82 : decode cX4_init 82 = .ok (.putfield 26, 3) := by decide +kernel
theorem dX4_init_85 : decode cX4_init 85 = .ok (.aload_n 0, 1) := by decide +kernel
theorem dX4_init_86 : decode cX4_init 86 = .ok (.new 30, 3) := by decide +kernel
theorem dX4_init_89 : decode cX4_init 89 = .ok (.dup, 1) := by decide +kernel
theorem dX4_init_90 : decode cX4_init 90 = .ok (.invokespecial 32, 3) := by decide +kernel
theorem dX4_init_93 : decode cX4_init 93 = .ok (.putfield 33, 3) := by decide +kernel
theorem dX4_init_96 : decode cX4_init 96 = .ok (.aload_n 0, 1) := by decide +kernel
theorem dX4_init_97 : decode cX4_init 97 = .ok (.new 16, 3) := by decide +kernel
theorem dX4_init_100 : decode cX4_init 100 = .ok (.dup, 1) := by decide +kernel
theorem dX4_init_101 : decode cX4_init 101 = .ok (.invokespecial 22, 3) := by decide +kernel
theorem dX4_init_104 : decode cX4_init 104 = .ok (.putfield 37, 3) := by decide +kernel
theorem dX4_init_107 : decode cX4_init 107 = .ok (.aload_n 0, 1) := by decide +kernel
theorem dX4_init_108 : decode cX4_init 108 = .ok (.new 16, 3) := by decide +kernel
theorem dX4_init_111 : decode cX4_init 111 = .ok (.dup, 1) := by decide +kernel
theorem dX4_init_112 : decode cX4_init 112 = .ok (.invokespecial 22, 3) := by decide +kernel
theorem dX4_init_115 : decode cX4_init 115 = .ok (.putfield 41, 3) := by decide +kernel
theorem dX4_init_118 : decode cX4_init 118 = .ok (.aload_n 0, 1) := by decide +kernel
theorem dX4_init_119 : decode cX4_init 119 = .ok (.bipush 16, 2) := by decide +kernel
theorem dX4_init_121 : decode cX4_init 121 = .ok (.newarray .int, 2) := by decide +kernel
theorem dX4_init_123 : decode cX4_init 123 = .ok (.putfield 44, 3) := by decide +kernel
theorem dX4_init_126 : decode cX4_init 126 = .ok (.return_, 1) := by decide +kernel
theorem dX4_row_0 : decode cX4_row 0 = .ok (.aload_n 0, 1) := by decide +kernel
theorem dX4_row_1 : decode cX4_row 1 = .ok (.iload_n 1, 1) := by decide +kernel
theorem dX4_row_2 : decode cX4_row 2 = .ok (.invokevirtual 48, 3) := by decide +kernel
theorem dX4_row_5 : decode cX4_row 5 = .ok (.ifCond .eq 18, 3) := by decide +kernel
theorem dX4_row_8 : decode cX4_row 8 = .ok (.iload_n 2, 1) := by decide +kernel
theorem dX4_row_9 : decode cX4_row 9 = .ok (.iconst 0, 1) := by decide +kernel
theorem dX4_row_10 : decode cX4_row 10 = .ok (.iconst 2, 1) := by decide +kernel
theorem dX4_row_11 : decode cX4_row 11 = .ok (.invokestatic 52, 3) := by decide +kernel
theorem dX4_row_14 : decode cX4_row 14 = .ok (.ifCond .eq 9, 3) := by decide +kernel
theorem dX4_row_17 : decode cX4_row 17 = .ok (.iload_n 3, 1) := by decide +kernel
theorem dX4_row_18 : decode cX4_row 18 = .ok (.bipush 40, 2) := by decide +kernel
theorem dX4_row_20 : decode cX4_row 20 = .ok (.if_icmp .le 6, 3) := by decide +kernel
theorem dX4_row_23 : decode cX4_row 23 = .ok (.ldc 56, 2) := by decide +kernel
theorem dX4_row_25 : decode cX4_row 25 = .ok (.ireturn, 1) := by decide +kernel
theorem dX4_row_26 : decode cX4_row 26 = .ok (.iload_n 3, 1) := by decide +kernel
theorem dX4_row_27 : decode cX4_row 27 = .ok (.ifCond .ge 9, 3) := by decide +kernel
theorem dX4_row_30 : decode cX4_row 30 = .ok (.aload_n 0, 1) := by decide +kernel
theorem dX4_row_31 : decode cX4_row 31 = .ok (.iconst 4, 1) := by decide +kernel
theorem dX4_row_32 : decode cX4_row 32 = .ok (.invokevirtual 57, 3) := by decide +kernel
theorem dX4_row_35 : decode cX4_row 35 = .ok (.ireturn, 1) := by decide +kernel
theorem dX4_row_36 : decode cX4_row 36 = .ok (.aload_n 0, 1) := by decide +kernel
theorem dX4_row_37 : decode cX4_row 37 = .ok (.getfield 11, 3) := by decide +kernel
theorem dX4_row_40 : decode cX4_row 40 = .ok (.iload_n 1, 1) := by decide +kernel
theorem dX4_row_41 : decode cX4_row 41 = .ok (.aaload, 1) := by decide +kernel
theorem dX4_row_42 : decode cX4_row 42 = .ok (.iload_n 2, 1) := by decide +kernel
theorem dX4_row_43 : decode cX4_row 43 = .ok (.iload_n 3, 1) := by decide +kernel
theorem dX4_row_44 : decode cX4_row 44 = .ok (.invokevirtual 61, 3) := by decide +kernel
theorem dX4_row_47 : decode cX4_row 47 = .ok (.aload_n 0, 1) := by decide +kernel
theorem dX4_row_48 : decode cX4_row 48 = .ok (.iload_n 3, 1) := by decide +kernel
theorem dX4_row_49 : decode cX4_row 49 = .ok (.invokevirtual 65, 3) := by decide +kernel
theorem dX4_row_52 : decode cX4_row 52 = .ok (.ireturn, 1) := by decide +kernel
theorem dX4_set_0 : decode cX4_set 0 = .ok (.aload_n 0, 1) := by decide +kernel
theorem dX4_set_1 : decode cX4_set 1 = .ok (.iload_n 1, 1) := by decide +kernel
theorem dX4_set_2 : decode cX4_set 2 = .ok (.invokevirtual 48, 3) := by decide +kernel
theorem dX4_set_5 : decode cX4_set 5 = .ok (.ifCond .ne 6, 3) := by decide +kernel
theorem dX4_set_8 : decode cX4_set 8 = .ok (.ldc 56, 2) := by decide +kernel
theorem dX4_set_10 : decode cX4_set 10 = .ok (.ireturn, 1) := by decide +kernel
theorem dX4_set_11 : decode cX4_set 11 = .ok (.aload_n 0, 1) := by decide +kernel
theorem dX4_set_12 : decode cX4_set 12 = .ok (.getfield 11, 3) := by decide +kernel
theorem dX4_set_15 : decode cX4_set 15 = .ok (.iload_n 1, 1) := by decide +kernel
theorem dX4_set_16 : decode cX4_set 16 = .ok (.aaload, 1) := by decide +kernel
theorem dX4_set_17 : decode cX4_set 17 = .ok (.getfield 68, 3) := by decide +kernel
theorem dX4_set_20 : decode cX4_set 20 = .ok (.ifCond .ne 9, 3) := by decide +kernel
theorem dX4_set_23 : decode cX4_set 23 = .ok (.aload_n 0, 1) := by decide +kernel
theorem dX4_set_24 : decode cX4_set 24 = .ok (.iconst 1, 1) := by decide +kernel
theorem dX4_set_25 : decode cX4_set 25 = .ok (.invokevirtual 57, 3) := by decide +kernel
theorem dX4_set_28 : decode cX4_set 28 = .ok (.ireturn, 1) := by decide +kernel
theorem dX4_set_29 : decode cX4_set 29 = .ok (.aload_n 0, 1) := by decide +kernel
theorem dX4_set_30 : decode cX4_set 30 = .ok (.getfield 11, 3) := by decide +kernel
theorem dX4_set_33 : decode cX4_set 33 = .ok (.iload_n 1, 1) := by decide +kernel
theorem dX4_set_34 : decode cX4_set 34 = .ok (.aaload, 1) := by decide +kernel
theorem dX4_set_35 : decode cX4_set 35 = .ok (.iload_n 2, 1) := by decide +kernel
theorem dX4_set_36 : decode cX4_set 36 = .ok (.iconst 1, 1) := by decide +kernel
theorem dX4_set_37 : decode cX4_set 37 = .ok (.invokevirtual 72, 3) := by decide +kernel
theorem dX4_set_40 : decode cX4_set 40 = .ok (.ifCond .ne 9, 3) := by decide +kernel
theorem dX4_set_43 : decode cX4_set 43 = .ok (.aload_n 0, 1) := by decide +kernel
theorem dX4_set_44 : decode cX4_set 44 = .ok (.iconst 2, 1) := by decide +kernel
theorem dX4_set_45 : decode cX4_set 45 = .ok (.invokevirtual 57, 3) := by decide +kernel
theorem dX4_set_48 : decode cX4_set 48 = .ok (.ireturn, 1) := by decide +kernel
theorem dX4_set_49 : decode cX4_set 49 = .ok (.aload_n 0, 1) := by decide +kernel
theorem dX4_set_50 : decode cX4_set 50 = .ok (.aload_n 0, 1) := by decide +kernel
theorem dX4_set_51 : decode cX4_set 51 = .ok (.getfield 11, 3) := by decide +kernel
theorem dX4_set_54 : decode cX4_set 54 = .ok (.iload_n 1, 1) := by decide +kernel
theorem dX4_set_55 : decode cX4_set 55 = .ok (.aaload, 1) := by decide +kernel
theorem dX4_set_56 : decode cX4_set 56 = .ok (.iload_n 2, 1) := by decide +kernel
theorem dX4_set_57 : decode cX4_set 57 = .ok (.iload_n 3, 1) := by decide +kernel
theorem dX4_set_58 : decode cX4_set 58 = .ok (.invokevirtual 76, 3) := by decide +kernel
theorem dX4_set_61 : decode cX4_set 61 = .ok (.invokevirtual 65, 3) := by decide +kernel
theorem dX4_set_64 : decode cX4_set 64 = .ok (.ireturn, 1) := by decide +kernel
theorem dX4_copy_0 : decode cX4_copy 0 = .ok (.aload_n 0, 1) := by decide +kernel
theorem dX4_copy_1 : decode cX4_copy 1 = .ok (.iload_n 1, 1) := by decide +kernel
theorem dX4_copy_2 : decode cX4_copy 2 = .ok (.invokevirtual 48, 3) := by decide +kernel
theorem dX4_copy_5 : decode cX4_copy 5 = .ok (.ifCond .eq 11, 3) := by decide +kernel
theorem dX4_copy_8 : decode cX4_copy 8 = .ok (.aload_n 0, 1) := by decide +kernel
theorem dX4_copy_9 : decode cX4_copy 9 = .ok (.iload_n 3, 1) := by decide +kernel
theorem dX4_copy_10 : decode cX4_copy 10 = .ok (.invokevirtual 48, 3) := by decide +kernel
theorem dX4_copy_13 : decode cX4_copy 13 = .ok (.ifCond .ne 6, 3) := by decide +kernel
theorem dX4_copy_16 : decode cX4_copy 16 = .ok (.ldc 56, 2) := by decide +kernel
theorem dX4_copy_18 : decode cX4_copy 18 = .ok (.ireturn, 1) := by decide +kernel
theorem dX4_copy_19 : decode cX4_copy 19 = .ok (.aload_n 0, 1) := by decide +kernel
theorem dX4_copy_20 : decode cX4_copy 20 = .ok (.getfield 11, 3) := by decide +kernel
theorem dX4_copy_23 : decode cX4_copy 23 = .ok (.iload_n 1, 1) := by decide +kernel
theorem dX4_copy_24 : decode cX4_copy 24 = .ok (.aaload, 1) := by decide +kernel
theorem dX4_copy_25 : decode cX4_copy 25 = .ok (.astore 6, 2) := by decide +kernel
theorem dX4_copy_27 : decode cX4_copy 27 = .ok (.aload_n 0, 1) := by decide +kernel
theorem dX4_copy_28 : decode cX4_copy 28 = .ok (.getfield 11, 3) := by decide +kernel
theorem dX4_copy_31 : decode cX4_copy 31 = .ok (.iload_n 3, 1) := by decide +kernel
theorem dX4_copy_32 : decode cX4_copy 32 = .ok (.aaload, 1) := by decide +kernel
theorem dX4_copy_33 : decode cX4_copy 33 = .ok (.astore 7, 2) := by decide +kernel
theorem dX4_copy_35 : decode cX4_copy 35 = .ok (.aload 6, 2) := by decide +kernel
theorem dX4_copy_37 : decode cX4_copy 37 = .ok (.getfield 68, 3) := by decide +kernel
theorem dX4_copy_40 : decode cX4_copy 40 = .ok (.ifCond .eq 11, 3) := by decide +kernel
theorem dX4_copy_43 : decode cX4_copy 43 = .ok (.aload 7, 2) := by decide +kernel
theorem dX4_copy_45 : decode cX4_copy 45 = .ok (.getfield 68, 3) := by decide +kernel
theorem dX4_copy_48 : decode cX4_copy 48 = .ok (.ifCond .ne 9, 3) := by decide +kernel
theorem dX4_copy_51 : decode cX4_copy 51 = .ok (.aload_n 0, 1) := by decide +kernel
theorem dX4_copy_52 : decode cX4_copy 52 = .ok (.iconst 1, 1) := by decide +kernel
theorem dX4_copy_53 : decode cX4_copy 53 = .ok (.invokevirtual 57, 3) := by decide +kernel
theorem dX4_copy_56 : decode cX4_copy 56 = .ok (.ireturn, 1) := by decide +kernel
theorem dX4_copy_57 : decode cX4_copy 57 = .ok (.aload 6, 2) := by decide +kernel
theorem dX4_copy_59 : decode cX4_copy 59 = .ok (.getfield 80, 3) := by decide +kernel
theorem dX4_copy_62 : decode cX4_copy 62 = .ok (.aload 7, 2) := by decide +kernel
theorem dX4_copy_64 : decode cX4_copy 64 = .ok (.getfield 80, 3) := by decide +kernel
theorem dX4_copy_67 : decode cX4_copy 67 = .ok (.if_icmp .eq 9, 3) := by decide +kernel
theorem dX4_copy_70 : decode cX4_copy 70 = .ok (.aload_n 0, 1) := by decide +kernel
theorem dX4_copy_71 : decode cX4_copy 71 = .ok (.iconst 5, 1) := by decide +kernel
theorem dX4_copy_72 : decode cX4_copy 72 = .ok (.invokevirtual 57, 3) := by decide +kernel
theorem dX4_copy_75 : decode cX4_copy 75 = .ok (.ireturn, 1) := by decide +kernel
theorem dX4_copy_76 : decode cX4_copy 76 = .ok (.aload 6, 2) := by decide +kernel
theorem dX4_copy_78 : decode cX4_copy 78 = .ok (.iload_n 2, 1) := by decide +kernel
theorem dX4_copy_79 : decode cX4_copy 79 = .ok (.iload 5, 2) := by decide +kernel
theorem dX4_copy_81 : decode cX4_copy 81 = .ok (.invokevirtual 72, 3) := by decide +kernel
theorem dX4_copy_84 : decode cX4_copy 84 = .ok (.ifCond .eq 15, 3) := by decide +kernel
theorem dX4_copy_87 : decode cX4_copy 87 = .ok (.aload 7, 2) := by decide +kernel
theorem dX4_copy_89 : decode cX4_copy 89 = .ok (.iload 4, 2) := by decide +kernel
theorem dX4_copy_91 : decode cX4_copy 91 = .ok (.iload 5, 2) := by decide +kernel
theorem dX4_copy_93 : decode cX4_copy 93 = .ok (.invokevirtual 72, 3) := by decide +kernel
theorem dX4_copy_96 : decode cX4_copy 96 = .ok (.ifCond .ne 9, 3) := by decide +kernel
theorem dX4_copy_99 : decode cX4_copy 99 = .ok (.aload_n 0, 1) := by decide +kernel
theorem dX4_copy_100 : decode cX4_copy 100 = .ok (.iconst 2, 1) := by decide +kernel
theorem dX4_copy_101 : decode cX4_copy 101 = .ok (.invokevirtual 57, 3) := by decide +kernel
theorem dX4_copy_104 : decode cX4_copy 104 = .ok (.ireturn, 1) := by decide +kernel
theorem dX4_copy_105 : decode cX4_copy 105 = .ok (.aload 6, 2) := by decide +kernel
theorem dX4_copy_107 : decode cX4_copy 107 = .ok (.getfield 84, 3) := by decide +kernel
theorem dX4_copy_110 : decode cX4_copy 110 = .ok (.iload_n 2, 1) := by decide +kernel
theorem dX4_copy_111 : decode cX4_copy 111 = .ok (.aload 7, 2) := by decide +kernel
theorem dX4_copy_113 : decode cX4_copy 113 = .ok (.getfield 84, 3) := by decide +kernel
theorem dX4_copy_116 : decode cX4_copy 116 = .ok (.iload 4, 2) := by decide +kernel
theorem dX4_copy_118 : decode cX4_copy 118 = .ok (.iload 5, 2) := by decide +kernel
theorem dX4_copy_120 : decode cX4_copy 120 = .ok (.invokestatic 87, 3) := by decide +kernel
theorem dX4_copy_123 : decode cX4_copy 123 = .ok (.aload_n 0, 1) := by decide +kernel
theorem dX4_copy_124 : decode cX4_copy 124 = .ok (.iload 5, 2) := by decide +kernel
theorem dX4_copy_126 : decode cX4_copy 126 = .ok (.invokevirtual 65, 3) := by decide +kernel
theorem dX4_copy_129 : decode cX4_copy 129 = .ok (.ireturn, 1) := by decide +kernel
theorem dX4_drop_0 : decode cX4_drop 0 = .ok (.aload_n 0, 1) := by decide +kernel
theorem dX4_drop_1 : decode cX4_drop 1 = .ok (.iload_n 1, 1) := by decide +kernel
theorem dX4_drop_2 : decode cX4_drop 2 = .ok (.invokevirtual 48, 3) := by decide +kernel
theorem dX4_drop_5 : decode cX4_drop 5 = .ok (.ifCond .ne 6, 3) := by decide +kernel
theorem dX4_drop_8 : decode cX4_drop 8 = .ok (.ldc 56, 2) := by decide +kernel
theorem dX4_drop_10 : decode cX4_drop 10 = .ok (.ireturn, 1) := by decide +kernel
theorem dX4_drop_11 : decode cX4_drop 11 = .ok (.aload_n 0, 1) := by decide +kernel
theorem dX4_drop_12 : decode cX4_drop 12 = .ok (.getfield 11, 3) := by decide +kernel
theorem dX4_drop_15 : decode cX4_drop 15 = .ok (.iload_n 1, 1) := by decide +kernel
theorem dX4_drop_16 : decode cX4_drop 16 = .ok (.aaload, 1) := by decide +kernel
theorem dX4_drop_17 : decode cX4_drop 17 = .ok (.getfield 68, 3) := by decide +kernel
theorem dX4_drop_20 : decode cX4_drop 20 = .ok (.ifCond .ne 9, 3) := by decide +kernel
theorem dX4_drop_23 : decode cX4_drop 23 = .ok (.aload_n 0, 1) := by decide +kernel
theorem dX4_drop_24 : decode cX4_drop 24 = .ok (.iconst 1, 1) := by decide +kernel
theorem dX4_drop_25 : decode cX4_drop 25 = .ok (.invokevirtual 57, 3) := by decide +kernel
theorem dX4_drop_28 : decode cX4_drop 28 = .ok (.ireturn, 1) := by decide +kernel
theorem dX4_drop_29 : decode cX4_drop 29 = .ok (.aload_n 0, 1) := by decide +kernel
theorem dX4_drop_30 : decode cX4_drop 30 = .ok (.getfield 11, 3) := by decide +kernel
theorem dX4_drop_33 : decode cX4_drop 33 = .ok (.iload_n 1, 1) := by decide +kernel
theorem dX4_drop_34 : decode cX4_drop 34 = .ok (.aaload, 1) := by decide +kernel
theorem dX4_drop_35 : decode cX4_drop 35 = .ok (.iconst 0, 1) := by decide +kernel
theorem dX4_drop_36 : decode cX4_drop 36 = .ok (.putfield 68, 3) := by decide +kernel
theorem dX4_drop_39 : decode cX4_drop 39 = .ok (.aload_n 0, 1) := by decide +kernel
theorem dX4_drop_40 : decode cX4_drop 40 = .ok (.aload_n 0, 1) := by decide +kernel
theorem dX4_drop_41 : decode cX4_drop 41 = .ok (.getfield 11, 3) := by decide +kernel
theorem dX4_drop_44 : decode cX4_drop 44 = .ok (.iload_n 1, 1) := by decide +kernel
theorem dX4_drop_45 : decode cX4_drop 45 = .ok (.aaload, 1) := by decide +kernel
theorem dX4_drop_46 : decode cX4_drop 46 = .ok (.getfield 93, 3) := by decide +kernel
theorem dX4_drop_49 : decode cX4_drop 49 = .ok (.invokevirtual 65, 3) := by decide +kernel
theorem dX4_drop_52 : decode cX4_drop 52 = .ok (.ireturn, 1) := by decide +kernel
theorem dX4_feed_0 : decode cX4_feed 0 = .ok (.iload_n 1, 1) := by decide +kernel
theorem dX4_feed_1 : decode cX4_feed 1 = .ok (.iconst 0, 1) := by decide +kernel
theorem dX4_feed_2 : decode cX4_feed 2 = .ok (.sipush 255, 3) := by decide +kernel
theorem dX4_feed_5 : decode cX4_feed 5 = .ok (.invokestatic 52, 3) := by decide +kernel
theorem dX4_feed_8 : decode cX4_feed 8 = .ok (.ifCond .ne 6, 3) := by decide +kernel
theorem dX4_feed_11 : decode cX4_feed 11 = .ok (.ldc 56, 2) := by decide +kernel
theorem dX4_feed_13 : decode cX4_feed 13 = .ok (.ireturn, 1) := by decide +kernel
theorem dX4_feed_14 : decode cX4_feed 14 = .ok (.aload_n 0, 1) := by decide +kernel
theorem dX4_feed_15 : decode cX4_feed 15 = .ok (.getfield 26, 3) := by decide +kernel
theorem dX4_feed_18 : decode cX4_feed 18 = .ok (.iload_n 1, 1) := by decide +kernel
theorem dX4_feed_19 : decode cX4_feed 19 = .ok (.invokevirtual 96, 3) := by decide +kernel
theorem dX4_feed_22 : decode cX4_feed 22 = .ok (.ifCond .eq 13, 3) := by decide +kernel
theorem dX4_feed_25 : decode cX4_feed 25 = .ok (.aload_n 0, 1) := by decide +kernel
theorem dX4_feed_26 : decode cX4_feed 26 = .ok (.getfield 26, 3) := by decide +kernel
theorem dX4_feed_29 : decode cX4_feed 29 = .ok (.getfield 99, 3) := by decide +kernel
theorem dX4_feed_32 : decode cX4_feed 32 = .ok (.goto 5, 3) := by decide +kernel
theorem dX4_feed_35 : decode cX4_feed 35 = .ok (.ldc 100, 2) := by decide +kernel
theorem dX4_feed_37 : decode cX4_feed 37 = .ok (.ireturn, 1) := by decide +kernel
theorem dX4_town_0 : decode cX4_town 0 = .ok (.aload_n 0, 1) := by decide +kernel
theorem dX4_town_1 : decode cX4_town 1 = .ok (.getfield 26, 3) := by decide +kernel
theorem dX4_town_4 : decode cX4_town 4 = .ok (.aload_n 0, 1) := by decide +kernel
theorem dX4_town_5 : decode cX4_town 5 = .ok (.getfield 41, 3) := by decide +kernel
theorem dX4_town_8 : decode cX4_town 8 = .ok (.invokevirtual 101, 3) := by decide +kernel
theorem dX4_town_11 : decode cX4_town 11 = .ok (.ifCond .ne 25, 3) := by decide +kernel
theorem dX4_town_14 : decode cX4_town 14 = .ok (.aload_n 0, 1) := by decide +kernel
theorem dX4_town_15 : decode cX4_town 15 = .ok (.aload_n 0, 1) := by decide +kernel
theorem dX4_town_16 : decode cX4_town 16 = .ok (.getfield 26, 3) := by decide +kernel
theorem dX4_town_19 : decode cX4_town 19 = .ok (.getfield 105, 3) := by decide +kernel
theorem dX4_town_22 : decode cX4_town 22 = .ok (.putfield 108, 3) := by decide +kernel
theorem dX4_town_25 : decode cX4_town 25 = .ok (.ldc 111, 2) := by decide +kernel
theorem dX4_town_27 : decode cX4_town 27 = .ok (.aload_n 0, 1) := by decide +kernel
theorem dX4_town_28 : decode cX4_town 28 = .ok (.getfield 26, 3) := by decide +kernel
theorem dX4_town_31 : decode cX4_town 31 = .ok (.getfield 112, 3) := by decide +kernel
theorem dX4_town_34 : decode cX4_town 34 = .ok (.isub, 1) := by decide +kernel
theorem dX4_town_35 : decode cX4_town 35 = .ok (.ireturn, 1) := by decide +kernel
theorem dX4_town_36 : decode cX4_town 36 = .ok (.aload_n 0, 1) := by decide +kernel
theorem dX4_town_37 : decode cX4_town 37 = .ok (.getfield 37, 3) := by decide +kernel
theorem dX4_town_40 : decode cX4_town 40 = .ok (.aload_n 0, 1) := by decide +kernel
theorem dX4_town_41 : decode cX4_town 41 = .ok (.getfield 41, 3) := by decide +kernel
theorem dX4_town_44 : decode cX4_town 44 = .ok (.invokevirtual 115, 3) := by decide +kernel
theorem dX4_town_47 : decode cX4_town 47 = .ok (.aload_n 0, 1) := by decide +kernel
theorem dX4_town_48 : decode cX4_town 48 = .ok (.getfield 33, 3) := by decide +kernel
theorem dX4_town_51 : decode cX4_town 51 = .ok (.invokevirtual 119, 3) := by decide +kernel
theorem dX4_town_54 : decode cX4_town 54 = .ok (.aload_n 0, 1) := by decide +kernel
theorem dX4_town_55 : decode cX4_town 55 = .ok (.getfield 37, 3) := by decide +kernel
theorem dX4_town_58 : decode cX4_town 58 = .ok (.getfield 122, 3) := by decide +kernel
theorem dX4_town_61 : decode cX4_town 61 = .ok (.ireturn, 1) := by decide +kernel
theorem dX4_fault_0 : decode cX4_fault 0 = .ok (.aload_n 0, 1) := by decide +kernel
theorem dX4_fault_1 : decode cX4_fault 1 = .ok (.getfield 108, 3) := by decide +kernel
theorem dX4_fault_4 : decode cX4_fault 4 = .ok (.ireturn, 1) := by decide +kernel
theorem dX4_undo_0 : decode cX4_undo 0 = .ok (.aload_n 0, 1) := by decide +kernel
theorem dX4_undo_1 : decode cX4_undo 1 = .ok (.getfield 33, 3) := by decide +kernel
theorem dX4_undo_4 : decode cX4_undo 4 = .ok (.aload_n 0, 1) := by decide +kernel
theorem dX4_undo_5 : decode cX4_undo 5 = .ok (.getfield 37, 3) := by decide +kernel
theorem dX4_undo_8 : decode cX4_undo 8 = .ok (.invokevirtual 125, 3) := by decide +kernel
theorem dX4_undo_11 : decode cX4_undo 11 = .ok (.ifCond .eq 13, 3) := by decide +kernel
theorem dX4_undo_14 : decode cX4_undo 14 = .ok (.aload_n 0, 1) := by decide +kernel
theorem dX4_undo_15 : decode cX4_undo 15 = .ok (.getfield 33, 3) := by decide +kernel
theorem dX4_undo_18 : decode cX4_undo 18 = .ok (.getfield 128, 3) := by decide +kernel
theorem dX4_undo_21 : decode cX4_undo 21 = .ok (.goto 5, 3) := by decide +kernel
theorem dX4_undo_24 : decode cX4_undo 24 = .ok (.ldc 129, 2) := by decide +kernel
theorem dX4_undo_26 : decode cX4_undo 26 = .ok (.ireturn, 1) := by decide +kernel
theorem dX4_days_0 : decode cX4_days 0 = .ok (.aload_n 0, 1) := by decide +kernel
theorem dX4_days_1 : decode cX4_days 1 = .ok (.invokevirtual 130, 3) := by decide +kernel
theorem dX4_days_4 : decode cX4_days 4 = .ok (.ifCond .ne 6, 3) := by decide +kernel
theorem dX4_days_7 : decode cX4_days 7 = .ok (.ldc 129, 2) := by decide +kernel
theorem dX4_days_9 : decode cX4_days 9 = .ok (.ireturn, 1) := by decide +kernel
theorem dX4_days_10 : decode cX4_days 10 = .ok (.iload_n 1, 1) := by decide +kernel
theorem dX4_days_11 : decode cX4_days 11 = .ok (.iconst 1, 1) := by decide +kernel
theorem dX4_days_12 : decode cX4_days 12 = .ok (.bipush 24, 2) := by decide +kernel
theorem dX4_days_14 : decode cX4_days 14 = .ok (.invokestatic 52, 3) := by decide +kernel
theorem dX4_days_17 : decode cX4_days 17 = .ok (.ifCond .ne 6, 3) := by decide +kernel
theorem dX4_days_20 : decode cX4_days 20 = .ok (.ldc 56, 2) := by decide +kernel
theorem dX4_days_22 : decode cX4_days 22 = .ok (.ireturn, 1) := by decide +kernel
theorem dX4_days_23 : decode cX4_days 23 = .ok (.aload_n 0, 1) := by decide +kernel
theorem dX4_days_24 : decode cX4_days 24 = .ok (.getfield 37, 3) := by decide +kernel
theorem dX4_days_27 : decode cX4_days 27 = .ok (.getfield 134, 3) := by decide +kernel
theorem dX4_days_30 : decode cX4_days 30 = .ok (.iload_n 1, 1) := by decide +kernel
theorem dX4_days_31 : decode cX4_days 31 = .ok (.iadd, 1) := by decide +kernel
theorem dX4_days_32 : decode cX4_days 32 = .ok (.sipush 999, 3) := by decide +kernel
theorem dX4_days_35 : decode cX4_days 35 = .ok (.if_icmp .le 6, 3) := by decide +kernel
theorem dX4_days_38 : decode cX4_days 38 = .ok (.ldc 100, 2) := by decide +kernel
theorem dX4_days_40 : decode cX4_days 40 = .ok (.ireturn, 1) := by decide +kernel
theorem dX4_days_41 : decode cX4_days 41 = .ok (.iconst 0, 1) := by decide +kernel
theorem dX4_days_42 : decode cX4_days 42 = .ok (.istore_n 2, 1) := by decide +kernel
theorem dX4_days_43 : decode cX4_days 43 = .ok (.iload_n 2, 1) := by decide +kernel
theorem dX4_days_44 : decode cX4_days 44 = .ok (.iload_n 1, 1) := by decide +kernel
theorem dX4_days_45 : decode cX4_days 45 = .ok (.if_icmp .ge 28, 3) := by decide +kernel
theorem dX4_days_48 : decode cX4_days 48 = .ok (.aload_n 0, 1) := by decide +kernel
theorem dX4_days_49 : decode cX4_days 49 = .ok (.getfield 33, 3) := by decide +kernel
theorem dX4_days_52 : decode cX4_days 52 = .ok (.aload_n 0, 1) := by decide +kernel
theorem dX4_days_53 : decode cX4_days 53 = .ok (.getfield 37, 3) := by decide +kernel
theorem dX4_days_56 : decode cX4_days 56 = .ok (.invokevirtual 137, 3) := by decide +kernel
theorem dX4_days_59 : decode cX4_days 59 = .ok (.aload_n 0, 1) := by decide +kernel
theorem dX4_days_60 : decode cX4_days 60 = .ok (.getfield 37, 3) := by decide +kernel
theorem dX4_days_63 : decode cX4_days 63 = .ok (.invokevirtual 140, 3) := by decide +kernel
theorem dX4_days_66 : decode cX4_days 66 = .ok (.pop, 1) := by decide +kernel
theorem dX4_days_67 : decode cX4_days 67 = .ok (.iinc 2 1, 3) := by decide +kernel
theorem dX4_days_70 : decode cX4_days 70 = .ok (.goto (-27), 3) := by decide +kernel
theorem dX4_days_73 : decode cX4_days 73 = .ok (.aload_n 0, 1) := by decide +kernel
theorem dX4_days_74 : decode cX4_days 74 = .ok (.getfield 37, 3) := by decide +kernel
theorem dX4_days_77 : decode cX4_days 77 = .ok (.invokevirtual 144, 3) := by decide +kernel
theorem dX4_days_80 : decode cX4_days 80 = .ok (.ireturn, 1) := by decide +kernel
theorem dX4_send_0 : decode cX4_send 0 = .ok (.aload_n 0, 1) := by decide +kernel
theorem dX4_send_1 : decode cX4_send 1 = .ok (.iload_n 1, 1) := by decide +kernel
theorem dX4_send_2 : decode cX4_send 2 = .ok (.invokevirtual 147, 3) := by decide +kernel
theorem dX4_send_5 : decode cX4_send 5 = .ok (.ifCond .eq 11, 3) := by decide +kernel
theorem dX4_send_8 : decode cX4_send 8 = .ok (.aload_n 0, 1) := by decide +kernel
theorem dX4_send_9 : decode cX4_send 9 = .ok (.iload_n 2, 1) := by decide +kernel
theorem dX4_send_10 : decode cX4_send 10 = .ok (.invokevirtual 150, 3) := by decide +kernel
theorem dX4_send_13 : decode cX4_send 13 = .ok (.ifCond .ne 6, 3) := by decide +kernel
theorem dX4_send_16 : decode cX4_send 16 = .ok (.ldc 56, 2) := by decide +kernel
theorem dX4_send_18 : decode cX4_send 18 = .ok (.ireturn, 1) := by decide +kernel
theorem dX4_send_19 : decode cX4_send 19 = .ok (.aload_n 0, 1) := by decide +kernel
theorem dX4_send_20 : decode cX4_send 20 = .ok (.getfield 37, 3) := by decide +kernel
theorem dX4_send_23 : decode cX4_send 23 = .ok (.getfield 153, 3) := by decide +kernel
theorem dX4_send_26 : decode cX4_send 26 = .ok (.iload_n 1, 1) := by decide +kernel
theorem dX4_send_27 : decode cX4_send 27 = .ok (.iaload, 1) := by decide +kernel
theorem dX4_send_28 : decode cX4_send 28 = .ok (.istore_n 3, 1) := by decide +kernel
theorem dX4_send_29 : decode cX4_send 29 = .ok (.aload_n 0, 1) := by decide +kernel
theorem dX4_send_30 : decode cX4_send 30 = .ok (.getfield 33, 3) := by decide +kernel
theorem dX4_send_33 : decode cX4_send 33 = .ok (.aload_n 0, 1) := by decide +kernel
theorem dX4_send_34 : decode cX4_send 34 = .ok (.getfield 37, 3) := by decide +kernel
theorem dX4_send_37 : decode cX4_send 37 = .ok (.invokevirtual 137, 3) := by decide +kernel
theorem dX4_send_40 : decode cX4_send 40 = .ok (.aload_n 0, 1) := by decide +kernel
theorem dX4_send_41 : decode cX4_send 41 = .ok (.getfield 37, 3) := by decide +kernel
theorem dX4_send_44 : decode cX4_send 44 = .ok (.iload_n 1, 1) := by decide +kernel
theorem dX4_send_45 : decode cX4_send 45 = .ok (.iload_n 2, 1) := by decide +kernel
theorem dX4_send_46 : decode cX4_send 46 = .ok (.invokevirtual 156, 3) := by decide +kernel
theorem dX4_send_49 : decode cX4_send 49 = .ok (.iload_n 3, 1) := by decide +kernel
theorem dX4_send_50 : decode cX4_send 50 = .ok (.ireturn, 1) := by decide +kernel
theorem dX4_weight_0 : decode cX4_weight 0 = .ok (.aload_n 0, 1) := by decide +kernel
theorem dX4_weight_1 : decode cX4_weight 1 = .ok (.iload_n 1, 1) := by decide +kernel
theorem dX4_weight_2 : decode cX4_weight 2 = .ok (.invokevirtual 147, 3) := by decide +kernel
theorem dX4_weight_5 : decode cX4_weight 5 = .ok (.ifCond .eq 13, 3) := by decide +kernel
theorem dX4_weight_8 : decode cX4_weight 8 = .ok (.iload_n 2, 1) := by decide +kernel
theorem dX4_weight_9 : decode cX4_weight 9 = .ok (.iconst 1, 1) := by decide +kernel
theorem dX4_weight_10 : decode cX4_weight 10 = .ok (.bipush 9, 2) := by decide +kernel
theorem dX4_weight_12 : decode cX4_weight 12 = .ok (.invokestatic 52, 3) := by decide +kernel
theorem dX4_weight_15 : decode cX4_weight 15 = .ok (.ifCond .ne 6, 3) := by decide +kernel
theorem dX4_weight_18 : decode cX4_weight 18 = .ok (.ldc 56, 2) := by decide +kernel
theorem dX4_weight_20 : decode cX4_weight 20 = .ok (.ireturn, 1) := by decide +kernel
theorem dX4_weight_21 : decode cX4_weight 21 = .ok (.aload_n 0, 1) := by decide +kernel
theorem dX4_weight_22 : decode cX4_weight 22 = .ok (.getfield 37, 3) := by decide +kernel
theorem dX4_weight_25 : decode cX4_weight 25 = .ok (.getfield 159, 3) := by decide +kernel
theorem dX4_weight_28 : decode cX4_weight 28 = .ok (.iload_n 1, 1) := by decide +kernel
theorem dX4_weight_29 : decode cX4_weight 29 = .ok (.iaload, 1) := by decide +kernel
theorem dX4_weight_30 : decode cX4_weight 30 = .ok (.istore_n 3, 1) := by decide +kernel
theorem dX4_weight_31 : decode cX4_weight 31 = .ok (.aload_n 0, 1) := by decide +kernel
theorem dX4_weight_32 : decode cX4_weight 32 = .ok (.getfield 33, 3) := by decide +kernel
theorem dX4_weight_35 : decode cX4_weight 35 = .ok (.aload_n 0, 1) := by decide +kernel
theorem dX4_weight_36 : decode cX4_weight 36 = .ok (.getfield 37, 3) := by decide +kernel
theorem dX4_weight_39 : decode cX4_weight 39 = .ok (.invokevirtual 137, 3) := by decide +kernel
theorem dX4_weight_42 : decode cX4_weight 42 = .ok (.aload_n 0, 1) := by decide +kernel
theorem dX4_weight_43 : decode cX4_weight 43 = .ok (.getfield 37, 3) := by decide +kernel
theorem dX4_weight_46 : decode cX4_weight 46 = .ok (.getfield 159, 3) := by decide +kernel
theorem dX4_weight_49 : decode cX4_weight 49 = .ok (.iload_n 1, 1) := by decide +kernel
theorem dX4_weight_50 : decode cX4_weight 50 = .ok (.iload_n 2, 1) := by decide +kernel
theorem dX4_weight_51 : decode cX4_weight 51 = .ok (.iastore, 1) := by decide +kernel
theorem dX4_weight_52 : decode cX4_weight 52 = .ok (.iload_n 3, 1) := by decide +kernel
theorem dX4_weight_53 : decode cX4_weight 53 = .ok (.ireturn, 1) := by decide +kernel
theorem dX4_bar_0 : decode cX4_bar 0 = .ok (.aload_n 0, 1) := by decide +kernel
theorem dX4_bar_1 : decode cX4_bar 1 = .ok (.iload_n 1, 1) := by decide +kernel
theorem dX4_bar_2 : decode cX4_bar 2 = .ok (.invokevirtual 150, 3) := by decide +kernel
theorem dX4_bar_5 : decode cX4_bar 5 = .ok (.ifCond .eq 10, 3) := by decide +kernel
theorem dX4_bar_8 : decode cX4_bar 8 = .ok (.iload_n 2, 1) := by decide +kernel
theorem dX4_bar_9 : decode cX4_bar 9 = .ok (.invokestatic 162, 3) := by decide +kernel
theorem dX4_bar_12 : decode cX4_bar 12 = .ok (.ifCond .ne 6, 3) := by decide +kernel
theorem dX4_bar_15 : decode cX4_bar 15 = .ok (.ldc 56, 2) := by decide +kernel
theorem dX4_bar_17 : decode cX4_bar 17 = .ok (.ireturn, 1) := by decide +kernel
theorem dX4_bar_18 : decode cX4_bar 18 = .ok (.aload_n 0, 1) := by decide +kernel
theorem dX4_bar_19 : decode cX4_bar 19 = .ok (.getfield 37, 3) := by decide +kernel
theorem dX4_bar_22 : decode cX4_bar 22 = .ok (.getfield 165, 3) := by decide +kernel
theorem dX4_bar_25 : decode cX4_bar 25 = .ok (.iload_n 1, 1) := by decide +kernel
theorem dX4_bar_26 : decode cX4_bar 26 = .ok (.invokestatic 168, 3) := by decide +kernel
theorem dX4_bar_29 : decode cX4_bar 29 = .ok (.iload_n 2, 1) := by decide +kernel
theorem dX4_bar_30 : decode cX4_bar 30 = .ok (.if_icmp .ne 6, 3) := by decide +kernel
theorem dX4_bar_33 : decode cX4_bar 33 = .ok (.ldc 129, 2) := by decide +kernel
theorem dX4_bar_35 : decode cX4_bar 35 = .ok (.ireturn, 1) := by decide +kernel
theorem dX4_bar_36 : decode cX4_bar 36 = .ok (.aload_n 0, 1) := by decide +kernel
theorem dX4_bar_37 : decode cX4_bar 37 = .ok (.getfield 33, 3) := by decide +kernel
theorem dX4_bar_40 : decode cX4_bar 40 = .ok (.aload_n 0, 1) := by decide +kernel
theorem dX4_bar_41 : decode cX4_bar 41 = .ok (.getfield 37, 3) := by decide +kernel
theorem dX4_bar_44 : decode cX4_bar 44 = .ok (.invokevirtual 137, 3) := by decide +kernel
theorem dX4_bar_47 : decode cX4_bar 47 = .ok (.aload_n 0, 1) := by decide +kernel
theorem dX4_bar_48 : decode cX4_bar 48 = .ok (.getfield 37, 3) := by decide +kernel
theorem dX4_bar_51 : decode cX4_bar 51 = .ok (.dup, 1) := by decide +kernel
theorem dX4_bar_52 : decode cX4_bar 52 = .ok (.getfield 165, 3) := by decide +kernel
theorem dX4_bar_55 : decode cX4_bar 55 = .ok (.iconst 1, 1) := by decide +kernel
theorem dX4_bar_56 : decode cX4_bar 56 = .ok (.iload_n 1, 1) := by decide +kernel
theorem dX4_bar_57 : decode cX4_bar 57 = .ok (.ishl, 1) := by decide +kernel
theorem dX4_bar_58 : decode cX4_bar 58 = .ok (.ixor, 1) := by decide +kernel
theorem dX4_bar_59 : decode cX4_bar 59 = .ok (.putfield 165, 3) := by decide +kernel
theorem dX4_bar_62 : decode cX4_bar 62 = .ok (.aload_n 0, 1) := by decide +kernel
theorem dX4_bar_63 : decode cX4_bar 63 = .ok (.getfield 37, 3) := by decide +kernel
theorem dX4_bar_66 : decode cX4_bar 66 = .ok (.getfield 165, 3) := by decide +kernel
theorem dX4_bar_69 : decode cX4_bar 69 = .ok (.ireturn, 1) := by decide +kernel
theorem dX4_patience_0 : decode cX4_patience 0 = .ok (.aload_n 0, 1) := by decide +kernel
theorem dX4_patience_1 : decode cX4_patience 1 = .ok (.iload_n 1, 1) := by decide +kernel
theorem dX4_patience_2 : decode cX4_patience 2 = .ok (.invokevirtual 150, 3) := by decide +kernel
theorem dX4_patience_5 : decode cX4_patience 5 = .ok (.ifCond .eq 13, 3) := by decide +kernel
theorem dX4_patience_8 : decode cX4_patience 8 = .ok (.iload_n 2, 1) := by decide +kernel
theorem dX4_patience_9 : decode cX4_patience 9 = .ok (.iconst 0, 1) := by decide +kernel
theorem dX4_patience_10 : decode cX4_patience 10 = .ok (.bipush 9, 2) := by decide +kernel
theorem dX4_patience_12 : decode cX4_patience 12 = .ok (.invokestatic 52, 3) := by decide +kernel
theorem dX4_patience_15 : decode cX4_patience 15 = .ok (.ifCond .ne 6, 3) := by decide +kernel
theorem dX4_patience_18 : decode cX4_patience 18 = .ok (.ldc 56, 2) := by decide +kernel
theorem dX4_patience_20 : decode cX4_patience 20 = .ok (.ireturn, 1) := by decide +kernel
theorem dX4_patience_21 : decode cX4_patience 21 = .ok (.aload_n 0, 1) := by decide +kernel
theorem dX4_patience_22 : decode cX4_patience 22 = .ok (.getfield 37, 3) := by decide +kernel
theorem dX4_patience_25 : decode cX4_patience 25 = .ok (.getfield 171, 3) := by decide +kernel
theorem dX4_patience_28 : decode cX4_patience 28 = .ok (.iload_n 1, 1) := by decide +kernel
theorem dX4_patience_29 : decode cX4_patience 29 = .ok (.iaload, 1) := by decide +kernel
theorem dX4_patience_30 : decode cX4_patience 30 = .ok (.istore_n 3, 1) := by decide +kernel
theorem dX4_patience_31 : decode cX4_patience 31 = .ok (.aload_n 0, 1) := by decide +kernel
theorem dX4_patience_32 : decode cX4_patience 32 = .ok (.getfield 33, 3) := by decide +kernel
theorem dX4_patience_35 : decode cX4_patience 35 = .ok (.aload_n 0, 1) := by decide +kernel
theorem dX4_patience_36 : decode cX4_patience 36 = .ok (.getfield 37, 3) := by decide +kernel
theorem dX4_patience_39 : decode cX4_patience 39 = .ok (.invokevirtual 137, 3) := by decide +kernel
theorem dX4_patience_42 : decode cX4_patience 42 = .ok (.aload_n 0, 1) := by decide +kernel
theorem dX4_patience_43 : decode cX4_patience 43 = .ok (.getfield 37, 3) := by decide +kernel
theorem dX4_patience_46 : decode cX4_patience 46 = .ok (.getfield 171, 3) := by decide +kernel
theorem dX4_patience_49 : decode cX4_patience 49 = .ok (.iload_n 1, 1) := by decide +kernel
theorem dX4_patience_50 : decode cX4_patience 50 = .ok (.iload_n 2, 1) := by decide +kernel
theorem dX4_patience_51 : decode cX4_patience 51 = .ok (.iastore, 1) := by decide +kernel
theorem dX4_patience_52 : decode cX4_patience 52 = .ok (.iload_n 3, 1) := by decide +kernel
theorem dX4_patience_53 : decode cX4_patience 53 = .ok (.ireturn, 1) := by decide +kernel
theorem dX4_leaver_0 : decode cX4_leaver 0 = .ok (.aload_n 0, 1) := by decide +kernel
theorem dX4_leaver_1 : decode cX4_leaver 1 = .ok (.iload_n 1, 1) := by decide +kernel
theorem dX4_leaver_2 : decode cX4_leaver 2 = .ok (.invokevirtual 147, 3) := by decide +kernel
theorem dX4_leaver_5 : decode cX4_leaver 5 = .ok (.ifCond .ne 6, 3) := by decide +kernel
theorem dX4_leaver_8 : decode cX4_leaver 8 = .ok (.ldc 56, 2) := by decide +kernel
theorem dX4_leaver_10 : decode cX4_leaver 10 = .ok (.ireturn, 1) := by decide +kernel
theorem dX4_leaver_11 : decode cX4_leaver 11 = .ok (.iload_n 2, 1) := by decide +kernel
theorem dX4_leaver_12 : decode cX4_leaver 12 = .ok (.tableswitch 105 0 5 #[40, 50, 60, 70, 79, 88], 40) := by decide +kernel
theorem dX4_leaver_52 : decode cX4_leaver 52 = .ok (.aload_n 0, 1) := by decide +kernel
theorem dX4_leaver_53 : decode cX4_leaver 53 = .ok (.getfield 37, 3) := by decide +kernel
theorem dX4_leaver_56 : decode cX4_leaver 56 = .ok (.getfield 153, 3) := by decide +kernel
theorem dX4_leaver_59 : decode cX4_leaver 59 = .ok (.iload_n 1, 1) := by decide +kernel
theorem dX4_leaver_60 : decode cX4_leaver 60 = .ok (.iaload, 1) := by decide +kernel
theorem dX4_leaver_61 : decode cX4_leaver 61 = .ok (.ireturn, 1) := by decide +kernel
theorem dX4_leaver_62 : decode cX4_leaver 62 = .ok (.aload_n 0, 1) := by decide +kernel
theorem dX4_leaver_63 : decode cX4_leaver 63 = .ok (.getfield 37, 3) := by decide +kernel
theorem dX4_leaver_66 : decode cX4_leaver 66 = .ok (.getfield 159, 3) := by decide +kernel
theorem dX4_leaver_69 : decode cX4_leaver 69 = .ok (.iload_n 1, 1) := by decide +kernel
theorem dX4_leaver_70 : decode cX4_leaver 70 = .ok (.iaload, 1) := by decide +kernel
theorem dX4_leaver_71 : decode cX4_leaver 71 = .ok (.ireturn, 1) := by decide +kernel
theorem dX4_leaver_72 : decode cX4_leaver 72 = .ok (.aload_n 0, 1) := by decide +kernel
theorem dX4_leaver_73 : decode cX4_leaver 73 = .ok (.getfield 37, 3) := by decide +kernel
theorem dX4_leaver_76 : decode cX4_leaver 76 = .ok (.getfield 174, 3) := by decide +kernel
theorem dX4_leaver_79 : decode cX4_leaver 79 = .ok (.iload_n 1, 1) := by decide +kernel
theorem dX4_leaver_80 : decode cX4_leaver 80 = .ok (.iaload, 1) := by decide +kernel
theorem dX4_leaver_81 : decode cX4_leaver 81 = .ok (.ireturn, 1) := by decide +kernel
theorem dX4_leaver_82 : decode cX4_leaver 82 = .ok (.aload_n 0, 1) := by decide +kernel
theorem dX4_leaver_83 : decode cX4_leaver 83 = .ok (.getfield 37, 3) := by decide +kernel
theorem dX4_leaver_86 : decode cX4_leaver 86 = .ok (.iload_n 1, 1) := by decide +kernel
theorem dX4_leaver_87 : decode cX4_leaver 87 = .ok (.invokevirtual 177, 3) := by decide +kernel
theorem dX4_leaver_90 : decode cX4_leaver 90 = .ok (.ireturn, 1) := by decide +kernel
theorem dX4_leaver_91 : decode cX4_leaver 91 = .ok (.aload_n 0, 1) := by decide +kernel
theorem dX4_leaver_92 : decode cX4_leaver 92 = .ok (.getfield 37, 3) := by decide +kernel
theorem dX4_leaver_95 : decode cX4_leaver 95 = .ok (.iload_n 1, 1) := by decide +kernel
theorem dX4_leaver_96 : decode cX4_leaver 96 = .ok (.invokevirtual 180, 3) := by decide +kernel
theorem dX4_leaver_99 : decode cX4_leaver 99 = .ok (.ireturn, 1) := by decide +kernel
theorem dX4_leaver_100 : decode cX4_leaver 100 = .ok (.aload_n 0, 1) := by decide +kernel
theorem dX4_leaver_101 : decode cX4_leaver 101 = .ok (.getfield 37, 3) := by decide +kernel
theorem dX4_leaver_104 : decode cX4_leaver 104 = .ok (.iload_n 1, 1) := by decide +kernel
theorem dX4_leaver_105 : decode cX4_leaver 105 = .ok (.aload_n 0, 1) := by decide +kernel
theorem dX4_leaver_106 : decode cX4_leaver 106 = .ok (.getfield 37, 3) := by decide +kernel
theorem dX4_leaver_109 : decode cX4_leaver 109 = .ok (.iload_n 1, 1) := by decide +kernel
theorem dX4_leaver_110 : decode cX4_leaver 110 = .ok (.invokevirtual 177, 3) := by decide +kernel
theorem dX4_leaver_113 : decode cX4_leaver 113 = .ok (.invokevirtual 183, 3) := by decide +kernel
theorem dX4_leaver_116 : decode cX4_leaver 116 = .ok (.ireturn, 1) := by decide +kernel
theorem dX4_leaver_117 : decode cX4_leaver 117 = .ok (.ldc 56, 2) := by decide +kernel
theorem dX4_leaver_119 : decode cX4_leaver 119 = .ok (.ireturn, 1) := by decide +kernel
theorem dX4_man_0 : decode cX4_man 0 = .ok (.aload_n 0, 1) := by decide +kernel
theorem dX4_man_1 : decode cX4_man 1 = .ok (.iload_n 1, 1) := by decide +kernel
theorem dX4_man_2 : decode cX4_man 2 = .ok (.invokevirtual 150, 3) := by decide +kernel
theorem dX4_man_5 : decode cX4_man 5 = .ok (.ifCond .ne 6, 3) := by decide +kernel
theorem dX4_man_8 : decode cX4_man 8 = .ok (.ldc 56, 2) := by decide +kernel
theorem dX4_man_10 : decode cX4_man 10 = .ok (.ireturn, 1) := by decide +kernel
theorem dX4_man_11 : decode cX4_man 11 = .ok (.iload_n 2, 1) := by decide +kernel
theorem dX4_man_12 : decode cX4_man 12 = .ok (.tableswitch 86 0 4 #[36, 46, 56, 68, 77], 36) := by decide +kernel
theorem dX4_man_48 : decode cX4_man 48 = .ok (.aload_n 0, 1) := by decide +kernel
theorem dX4_man_49 : decode cX4_man 49 = .ok (.getfield 37, 3) := by decide +kernel
theorem dX4_man_52 : decode cX4_man 52 = .ok (.getfield 186, 3) := by decide +kernel
theorem dX4_man_55 : decode cX4_man 55 = .ok (.iload_n 1, 1) := by decide +kernel
theorem dX4_man_56 : decode cX4_man 56 = .ok (.iaload, 1) := by decide +kernel
theorem dX4_man_57 : decode cX4_man 57 = .ok (.ireturn, 1) := by decide +kernel
theorem dX4_man_58 : decode cX4_man 58 = .ok (.aload_n 0, 1) := by decide +kernel
theorem dX4_man_59 : decode cX4_man 59 = .ok (.getfield 37, 3) := by decide +kernel
theorem dX4_man_62 : decode cX4_man 62 = .ok (.getfield 171, 3) := by decide +kernel
theorem dX4_man_65 : decode cX4_man 65 = .ok (.iload_n 1, 1) := by decide +kernel
theorem dX4_man_66 : decode cX4_man 66 = .ok (.iaload, 1) := by decide +kernel
theorem dX4_man_67 : decode cX4_man 67 = .ok (.ireturn, 1) := by decide +kernel
theorem dX4_man_68 : decode cX4_man 68 = .ok (.aload_n 0, 1) := by decide +kernel
theorem dX4_man_69 : decode cX4_man 69 = .ok (.getfield 37, 3) := by decide +kernel
theorem dX4_man_72 : decode cX4_man 72 = .ok (.getfield 165, 3) := by decide +kernel
theorem dX4_man_75 : decode cX4_man 75 = .ok (.iload_n 1, 1) := by decide +kernel
theorem dX4_man_76 : decode cX4_man 76 = .ok (.invokestatic 168, 3) := by decide +kernel
theorem dX4_man_79 : decode cX4_man 79 = .ok (.ireturn, 1) := by decide +kernel
theorem dX4_man_80 : decode cX4_man 80 = .ok (.aload_n 0, 1) := by decide +kernel
theorem dX4_man_81 : decode cX4_man 81 = .ok (.getfield 37, 3) := by decide +kernel
theorem dX4_man_84 : decode cX4_man 84 = .ok (.iload_n 1, 1) := by decide +kernel
theorem dX4_man_85 : decode cX4_man 85 = .ok (.invokevirtual 189, 3) := by decide +kernel
theorem dX4_man_88 : decode cX4_man 88 = .ok (.ireturn, 1) := by decide +kernel
theorem dX4_man_89 : decode cX4_man 89 = .ok (.aload_n 0, 1) := by decide +kernel
theorem dX4_man_90 : decode cX4_man 90 = .ok (.getfield 37, 3) := by decide +kernel
theorem dX4_man_93 : decode cX4_man 93 = .ok (.iload_n 1, 1) := by decide +kernel
theorem dX4_man_94 : decode cX4_man 94 = .ok (.invokevirtual 192, 3) := by decide +kernel
theorem dX4_man_97 : decode cX4_man 97 = .ok (.ireturn, 1) := by decide +kernel
theorem dX4_man_98 : decode cX4_man 98 = .ok (.ldc 56, 2) := by decide +kernel
theorem dX4_man_100 : decode cX4_man 100 = .ok (.ireturn, 1) := by decide +kernel
theorem dX4_ahead_0 : decode cX4_ahead 0 = .ok (.aload_n 0, 1) := by decide +kernel
theorem dX4_ahead_1 : decode cX4_ahead 1 = .ok (.iload_n 1, 1) := by decide +kernel
theorem dX4_ahead_2 : decode cX4_ahead 2 = .ok (.invokevirtual 150, 3) := by decide +kernel
theorem dX4_ahead_5 : decode cX4_ahead 5 = .ok (.ifCond .eq 13, 3) := by decide +kernel
theorem dX4_ahead_8 : decode cX4_ahead 8 = .ok (.iload_n 2, 1) := by decide +kernel
theorem dX4_ahead_9 : decode cX4_ahead 9 = .ok (.iconst 0, 1) := by decide +kernel
theorem dX4_ahead_10 : decode cX4_ahead 10 = .ok (.bipush 60, 2) := by decide +kernel
theorem dX4_ahead_12 : decode cX4_ahead 12 = .ok (.invokestatic 52, 3) := by decide +kernel
theorem dX4_ahead_15 : decode cX4_ahead 15 = .ok (.ifCond .ne 6, 3) := by decide +kernel
theorem dX4_ahead_18 : decode cX4_ahead 18 = .ok (.ldc 56, 2) := by decide +kernel
theorem dX4_ahead_20 : decode cX4_ahead 20 = .ok (.ireturn, 1) := by decide +kernel
theorem dX4_ahead_21 : decode cX4_ahead 21 = .ok (.aload_n 0, 1) := by decide +kernel
theorem dX4_ahead_22 : decode cX4_ahead 22 = .ok (.getfield 41, 3) := by decide +kernel
theorem dX4_ahead_25 : decode cX4_ahead 25 = .ok (.aload_n 0, 1) := by decide +kernel
theorem dX4_ahead_26 : decode cX4_ahead 26 = .ok (.getfield 37, 3) := by decide +kernel
theorem dX4_ahead_29 : decode cX4_ahead 29 = .ok (.invokevirtual 115, 3) := by decide +kernel
theorem dX4_ahead_32 : decode cX4_ahead 32 = .ok (.aload_n 0, 1) := by decide +kernel
theorem dX4_ahead_33 : decode cX4_ahead 33 = .ok (.getfield 41, 3) := by decide +kernel
theorem dX4_ahead_36 : decode cX4_ahead 36 = .ok (.iload_n 2, 1) := by decide +kernel
theorem dX4_ahead_37 : decode cX4_ahead 37 = .ok (.invokevirtual 195, 3) := by decide +kernel
theorem dX4_ahead_40 : decode cX4_ahead 40 = .ok (.aload_n 0, 1) := by decide +kernel
theorem dX4_ahead_41 : decode cX4_ahead 41 = .ok (.getfield 41, 3) := by decide +kernel
theorem dX4_ahead_44 : decode cX4_ahead 44 = .ok (.getfield 186, 3) := by decide +kernel
theorem dX4_ahead_47 : decode cX4_ahead 47 = .ok (.iload_n 1, 1) := by decide +kernel
theorem dX4_ahead_48 : decode cX4_ahead 48 = .ok (.iaload, 1) := by decide +kernel
theorem dX4_ahead_49 : decode cX4_ahead 49 = .ok (.ireturn, 1) := by decide +kernel
theorem dX4_awayAhead_0 : decode cX4_awayAhead 0 = .ok (.aload_n 0, 1) := by decide +kernel
theorem dX4_awayAhead_1 : decode cX4_awayAhead 1 = .ok (.iload_n 1, 1) := by decide +kernel
theorem dX4_awayAhead_2 : decode cX4_awayAhead 2 = .ok (.invokevirtual 150, 3) := by decide +kernel
theorem dX4_awayAhead_5 : decode cX4_awayAhead 5 = .ok (.ifCond .eq 13, 3) := by decide +kernel
theorem dX4_awayAhead_8 : decode cX4_awayAhead 8 = .ok (.iload_n 2, 1) := by decide +kernel
theorem dX4_awayAhead_9 : decode cX4_awayAhead 9 = .ok (.iconst 0, 1) := by decide +kernel
theorem dX4_awayAhead_10 : decode cX4_awayAhead 10 = .ok (.bipush 60, 2) := by decide +kernel
theorem dX4_awayAhead_12 : decode cX4_awayAhead 12 = .ok (.invokestatic 52, 3) := by decide +kernel
theorem dX4_awayAhead_15 : decode cX4_awayAhead 15 = .ok (.ifCond .ne 6, 3) := by decide +kernel
theorem dX4_awayAhead_18 : decode cX4_awayAhead 18 = .ok (.ldc 56, 2) := by decide +kernel
theorem dX4_awayAhead_20 : decode cX4_awayAhead 20 = .ok (.ireturn, 1) := by decide +kernel
theorem dX4_awayAhead_21 : decode cX4_awayAhead 21 = .ok (.aload_n 0, 1) := by decide +kernel
theorem dX4_awayAhead_22 : decode cX4_awayAhead 22 = .ok (.getfield 41, 3) := by decide +kernel
theorem dX4_awayAhead_25 : decode cX4_awayAhead 25 = .ok (.aload_n 0, 1) := by decide +kernel
theorem dX4_awayAhead_26 : decode cX4_awayAhead 26 = .ok (.getfield 37, 3) := by decide +kernel
theorem dX4_awayAhead_29 : decode cX4_awayAhead 29 = .ok (.invokevirtual 115, 3) := by decide +kernel
theorem dX4_awayAhead_32 : decode cX4_awayAhead 32 = .ok (.aload_n 0, 1) := by decide +kernel
theorem dX4_awayAhead_33 : decode cX4_awayAhead 33 = .ok (.getfield 41, 3) := by decide +kernel
theorem dX4_awayAhead_36 : decode cX4_awayAhead 36 = .ok (.dup, 1) := by decide +kernel
theorem dX4_awayAhead_37 : decode cX4_awayAhead 37 = .ok (.getfield 134, 3) := by decide +kernel
theorem dX4_awayAhead_40 : decode cX4_awayAhead 40 = .ok (.iload_n 2, 1) := by decide +kernel
theorem dX4_awayAhead_41 : decode cX4_awayAhead 41 = .ok (.iadd, 1) := by decide +kernel
theorem dX4_awayAhead_42 : decode cX4_awayAhead 42 = .ok (.putfield 134, 3) := by decide +kernel
theorem dX4_awayAhead_45 : decode cX4_awayAhead 45 = .ok (.aload_n 0, 1) := by decide +kernel
theorem dX4_awayAhead_46 : decode cX4_awayAhead 46 = .ok (.getfield 41, 3) := by decide +kernel
theorem dX4_awayAhead_49 : decode cX4_awayAhead 49 = .ok (.iload_n 1, 1) := by decide +kernel
theorem dX4_awayAhead_50 : decode cX4_awayAhead 50 = .ok (.invokevirtual 189, 3) := by decide +kernel
theorem dX4_awayAhead_53 : decode cX4_awayAhead 53 = .ok (.ireturn, 1) := by decide +kernel
theorem dX4_first_0 : decode cX4_first 0 = .ok (.aload_n 0, 1) := by decide +kernel
theorem dX4_first_1 : decode cX4_first 1 = .ok (.iload_n 1, 1) := by decide +kernel
theorem dX4_first_2 : decode cX4_first 2 = .ok (.invokevirtual 150, 3) := by decide +kernel
theorem dX4_first_5 : decode cX4_first 5 = .ok (.ifCond .ne 6, 3) := by decide +kernel
theorem dX4_first_8 : decode cX4_first 8 = .ok (.ldc 56, 2) := by decide +kernel
theorem dX4_first_10 : decode cX4_first 10 = .ok (.ireturn, 1) := by decide +kernel
theorem dX4_first_11 : decode cX4_first 11 = .ok (.aload_n 0, 1) := by decide +kernel
theorem dX4_first_12 : decode cX4_first 12 = .ok (.getfield 41, 3) := by decide +kernel
theorem dX4_first_15 : decode cX4_first 15 = .ok (.aload_n 0, 1) := by decide +kernel
theorem dX4_first_16 : decode cX4_first 16 = .ok (.getfield 37, 3) := by decide +kernel
theorem dX4_first_19 : decode cX4_first 19 = .ok (.invokevirtual 115, 3) := by decide +kernel
theorem dX4_first_22 : decode cX4_first 22 = .ok (.iconst 1, 1) := by decide +kernel
theorem dX4_first_23 : decode cX4_first 23 = .ok (.istore_n 2, 1) := by decide +kernel
theorem dX4_first_24 : decode cX4_first 24 = .ok (.iload_n 2, 1) := by decide +kernel
theorem dX4_first_25 : decode cX4_first 25 = .ok (.bipush 60, 2) := by decide +kernel
theorem dX4_first_27 : decode cX4_first 27 = .ok (.if_icmp .gt 35, 3) := by decide +kernel
theorem dX4_first_30 : decode cX4_first 30 = .ok (.aload_n 0, 1) := by decide +kernel
theorem dX4_first_31 : decode cX4_first 31 = .ok (.getfield 41, 3) := by decide +kernel
theorem dX4_first_34 : decode cX4_first 34 = .ok (.iload_n 1, 1) := by decide +kernel
theorem dX4_first_35 : decode cX4_first 35 = .ok (.invokevirtual 189, 3) := by decide +kernel
theorem dX4_first_38 : decode cX4_first 38 = .ok (.ifCond .ne 5, 3) := by decide +kernel
theorem dX4_first_41 : decode cX4_first 41 = .ok (.iload_n 2, 1) := by decide +kernel
theorem dX4_first_42 : decode cX4_first 42 = .ok (.ireturn, 1) := by decide +kernel
theorem dX4_first_43 : decode cX4_first 43 = .ok (.aload_n 0, 1) := by decide +kernel
theorem dX4_first_44 : decode cX4_first 44 = .ok (.getfield 41, 3) := by decide +kernel
theorem dX4_first_47 : decode cX4_first 47 = .ok (.dup, 1) := by decide +kernel
theorem dX4_first_48 : decode cX4_first 48 = .ok (.getfield 134, 3) := by decide +kernel
theorem dX4_first_51 : decode cX4_first 51 = .ok (.iconst 1, 1) := by decide +kernel
theorem dX4_first_52 : decode cX4_first 52 = .ok (.iadd, 1) := by decide +kernel
theorem dX4_first_53 : decode cX4_first 53 = .ok (.putfield 134, 3) := by decide +kernel
theorem dX4_first_56 : decode cX4_first 56 = .ok (.iinc 2 1, 3) := by decide +kernel
theorem dX4_first_59 : decode cX4_first 59 = .ok (.goto (-35), 3) := by decide +kernel
theorem dX4_first_62 : decode cX4_first 62 = .ok (.ldc 199, 2) := by decide +kernel
theorem dX4_first_64 : decode cX4_first 64 = .ok (.ireturn, 1) := by decide +kernel
theorem dX4_reach_0 : decode cX4_reach 0 = .ok (.aload_n 0, 1) := by decide +kernel
theorem dX4_reach_1 : decode cX4_reach 1 = .ok (.iload_n 1, 1) := by decide +kernel
theorem dX4_reach_2 : decode cX4_reach 2 = .ok (.invokevirtual 150, 3) := by decide +kernel
theorem dX4_reach_5 : decode cX4_reach 5 = .ok (.ifCond .eq 13, 3) := by decide +kernel
theorem dX4_reach_8 : decode cX4_reach 8 = .ok (.iload_n 2, 1) := by decide +kernel
theorem dX4_reach_9 : decode cX4_reach 9 = .ok (.iconst 1, 1) := by decide +kernel
theorem dX4_reach_10 : decode cX4_reach 10 = .ok (.bipush 99, 2) := by decide +kernel
theorem dX4_reach_12 : decode cX4_reach 12 = .ok (.invokestatic 52, 3) := by decide +kernel
theorem dX4_reach_15 : decode cX4_reach 15 = .ok (.ifCond .ne 6, 3) := by decide +kernel
theorem dX4_reach_18 : decode cX4_reach 18 = .ok (.ldc 56, 2) := by decide +kernel
theorem dX4_reach_20 : decode cX4_reach 20 = .ok (.ireturn, 1) := by decide +kernel
theorem dX4_reach_21 : decode cX4_reach 21 = .ok (.aload_n 0, 1) := by decide +kernel
theorem dX4_reach_22 : decode cX4_reach 22 = .ok (.getfield 41, 3) := by decide +kernel
theorem dX4_reach_25 : decode cX4_reach 25 = .ok (.aload_n 0, 1) := by decide +kernel
theorem dX4_reach_26 : decode cX4_reach 26 = .ok (.getfield 37, 3) := by decide +kernel
theorem dX4_reach_29 : decode cX4_reach 29 = .ok (.invokevirtual 115, 3) := by decide +kernel
theorem dX4_reach_32 : decode cX4_reach 32 = .ok (.iconst 0, 1) := by decide +kernel
theorem dX4_reach_33 : decode cX4_reach 33 = .ok (.istore_n 3, 1) := by decide +kernel
theorem dX4_reach_34 : decode cX4_reach 34 = .ok (.iload_n 3, 1) := by decide +kernel
theorem dX4_reach_35 : decode cX4_reach 35 = .ok (.bipush 60, 2) := by decide +kernel
theorem dX4_reach_37 : decode cX4_reach 37 = .ok (.if_icmp .gt 32, 3) := by decide +kernel
theorem dX4_reach_40 : decode cX4_reach 40 = .ok (.aload_n 0, 1) := by decide +kernel
theorem dX4_reach_41 : decode cX4_reach 41 = .ok (.getfield 41, 3) := by decide +kernel
theorem dX4_reach_44 : decode cX4_reach 44 = .ok (.getfield 186, 3) := by decide +kernel
theorem dX4_reach_47 : decode cX4_reach 47 = .ok (.iload_n 1, 1) := by decide +kernel
theorem dX4_reach_48 : decode cX4_reach 48 = .ok (.iaload, 1) := by decide +kernel
theorem dX4_reach_49 : decode cX4_reach 49 = .ok (.iload_n 2, 1) := by decide +kernel
theorem dX4_reach_50 : decode cX4_reach 50 = .ok (.if_icmp .lt 5, 3) := by decide +kernel
theorem dX4_reach_53 : decode cX4_reach 53 = .ok (.iload_n 3, 1) := by decide +kernel
theorem dX4_reach_54 : decode cX4_reach 54 = .ok (.ireturn, 1) := by decide +kernel
theorem dX4_reach_55 : decode cX4_reach 55 = .ok (.aload_n 0, 1) := by decide +kernel
theorem dX4_reach_56 : decode cX4_reach 56 = .ok (.getfield 41, 3) := by decide +kernel
theorem dX4_reach_59 : decode cX4_reach 59 = .ok (.invokevirtual 140, 3) := by decide +kernel
theorem dX4_reach_62 : decode cX4_reach 62 = .ok (.pop, 1) := by decide +kernel
theorem dX4_reach_63 : decode cX4_reach 63 = .ok (.iinc 3 1, 3) := by decide +kernel
theorem dX4_reach_66 : decode cX4_reach 66 = .ok (.goto (-32), 3) := by decide +kernel
theorem dX4_reach_69 : decode cX4_reach 69 = .ok (.ldc 199, 2) := by decide +kernel
theorem dX4_reach_71 : decode cX4_reach 71 = .ok (.ireturn, 1) := by decide +kernel
theorem dX4_usual_0 : decode cX4_usual 0 = .ok (.aload_n 0, 1) := by decide +kernel
theorem dX4_usual_1 : decode cX4_usual 1 = .ok (.iload_n 1, 1) := by decide +kernel
theorem dX4_usual_2 : decode cX4_usual 2 = .ok (.invokevirtual 150, 3) := by decide +kernel
theorem dX4_usual_5 : decode cX4_usual 5 = .ok (.ifCond .eq 13, 3) := by decide +kernel
theorem dX4_usual_8 : decode cX4_usual 8 = .ok (.iload_n 2, 1) := by decide +kernel
theorem dX4_usual_9 : decode cX4_usual 9 = .ok (.iconst 1, 1) := by decide +kernel
theorem dX4_usual_10 : decode cX4_usual 10 = .ok (.bipush 60, 2) := by decide +kernel
theorem dX4_usual_12 : decode cX4_usual 12 = .ok (.invokestatic 52, 3) := by decide +kernel
theorem dX4_usual_15 : decode cX4_usual 15 = .ok (.ifCond .ne 6, 3) := by decide +kernel
theorem dX4_usual_18 : decode cX4_usual 18 = .ok (.ldc 56, 2) := by decide +kernel
theorem dX4_usual_20 : decode cX4_usual 20 = .ok (.ireturn, 1) := by decide +kernel
theorem dX4_usual_21 : decode cX4_usual 21 = .ok (.aload_n 0, 1) := by decide +kernel
theorem dX4_usual_22 : decode cX4_usual 22 = .ok (.getfield 41, 3) := by decide +kernel
theorem dX4_usual_25 : decode cX4_usual 25 = .ok (.aload_n 0, 1) := by decide +kernel
theorem dX4_usual_26 : decode cX4_usual 26 = .ok (.getfield 37, 3) := by decide +kernel
theorem dX4_usual_29 : decode cX4_usual 29 = .ok (.invokevirtual 115, 3) := by decide +kernel
theorem dX4_usual_32 : decode cX4_usual 32 = .ok (.iconst 0, 1) := by decide +kernel
theorem dX4_usual_33 : decode cX4_usual 33 = .ok (.istore_n 3, 1) := by decide +kernel
theorem dX4_usual_34 : decode cX4_usual 34 = .ok (.iconst 0, 1) := by decide +kernel
theorem dX4_usual_35 : decode cX4_usual 35 = .ok (.istore 4, 2) := by decide +kernel
theorem dX4_usual_37 : decode cX4_usual 37 = .ok (.iload 4, 2) := by decide +kernel
theorem dX4_usual_39 : decode cX4_usual 39 = .ok (.iload_n 2, 1) := by decide +kernel
theorem dX4_usual_40 : decode cX4_usual 40 = .ok (.if_icmp .ge 23, 3) := by decide +kernel
theorem dX4_usual_43 : decode cX4_usual 43 = .ok (.iload_n 3, 1) := by decide +kernel
theorem dX4_usual_44 : decode cX4_usual 44 = .ok (.aload_n 0, 1) := by decide +kernel
theorem dX4_usual_45 : decode cX4_usual 45 = .ok (.getfield 41, 3) := by decide +kernel
theorem dX4_usual_48 : decode cX4_usual 48 = .ok (.invokevirtual 140, 3) := by decide +kernel
theorem dX4_usual_51 : decode cX4_usual 51 = .ok (.iload_n 1, 1) := by decide +kernel
theorem dX4_usual_52 : decode cX4_usual 52 = .ok (.invokestatic 168, 3) := by decide +kernel
theorem dX4_usual_55 : decode cX4_usual 55 = .ok (.iadd, 1) := by decide +kernel
theorem dX4_usual_56 : decode cX4_usual 56 = .ok (.istore_n 3, 1) := by decide +kernel
theorem dX4_usual_57 : decode cX4_usual 57 = .ok (.iinc 4 1, 3) := by decide +kernel
theorem dX4_usual_60 : decode cX4_usual 60 = .ok (.goto (-23), 3) := by decide +kernel
theorem dX4_usual_63 : decode cX4_usual 63 = .ok (.iload_n 3, 1) := by decide +kernel
theorem dX4_usual_64 : decode cX4_usual 64 = .ok (.ireturn, 1) := by decide +kernel
theorem dX4_fewest_0 : decode cX4_fewest 0 = .ok (.aload_n 0, 1) := by decide +kernel
theorem dX4_fewest_1 : decode cX4_fewest 1 = .ok (.invokevirtual 130, 3) := by decide +kernel
theorem dX4_fewest_4 : decode cX4_fewest 4 = .ok (.ifCond .ne 6, 3) := by decide +kernel
theorem dX4_fewest_7 : decode cX4_fewest 7 = .ok (.ldc 129, 2) := by decide +kernel
theorem dX4_fewest_9 : decode cX4_fewest 9 = .ok (.ireturn, 1) := by decide +kernel
theorem dX4_fewest_10 : decode cX4_fewest 10 = .ok (.iload_n 1, 1) := by decide +kernel
theorem dX4_fewest_11 : decode cX4_fewest 11 = .ok (.iconst 0, 1) := by decide +kernel
theorem dX4_fewest_12 : decode cX4_fewest 12 = .ok (.iconst 1, 1) := by decide +kernel
theorem dX4_fewest_13 : decode cX4_fewest 13 = .ok (.aload_n 0, 1) := by decide +kernel
theorem dX4_fewest_14 : decode cX4_fewest 14 = .ok (.getfield 37, 3) := by decide +kernel
theorem dX4_fewest_17 : decode cX4_fewest 17 = .ok (.getfield 200, 3) := by decide +kernel
theorem dX4_fewest_20 : decode cX4_fewest 20 = .ok (.ishl, 1) := by decide +kernel
theorem dX4_fewest_21 : decode cX4_fewest 21 = .ok (.iconst 1, 1) := by decide +kernel
theorem dX4_fewest_22 : decode cX4_fewest 22 = .ok (.isub, 1) := by decide +kernel
theorem dX4_fewest_23 : decode cX4_fewest 23 = .ok (.invokestatic 52, 3) := by decide +kernel
theorem dX4_fewest_26 : decode cX4_fewest 26 = .ok (.ifCond .eq 31, 3) := by decide +kernel
theorem dX4_fewest_29 : decode cX4_fewest 29 = .ok (.iload_n 2, 1) := by decide +kernel
theorem dX4_fewest_30 : decode cX4_fewest 30 = .ok (.iconst 1, 1) := by decide +kernel
theorem dX4_fewest_31 : decode cX4_fewest 31 = .ok (.bipush 30, 2) := by decide +kernel
theorem dX4_fewest_33 : decode cX4_fewest 33 = .ok (.invokestatic 52, 3) := by decide +kernel
theorem dX4_fewest_36 : decode cX4_fewest 36 = .ok (.ifCond .eq 21, 3) := by decide +kernel
theorem dX4_fewest_39 : decode cX4_fewest 39 = .ok (.iload_n 3, 1) := by decide +kernel
theorem dX4_fewest_40 : decode cX4_fewest 40 = .ok (.iconst 1, 1) := by decide +kernel
theorem dX4_fewest_41 : decode cX4_fewest 41 = .ok (.bipush 99, 2) := by decide +kernel
theorem dX4_fewest_43 : decode cX4_fewest 43 = .ok (.invokestatic 52, 3) := by decide +kernel
theorem dX4_fewest_46 : decode cX4_fewest 46 = .ok (.ifCond .eq 11, 3) := by decide +kernel
theorem dX4_fewest_49 : decode cX4_fewest 49 = .ok (.iload 4, 2) := by decide +kernel
theorem dX4_fewest_51 : decode cX4_fewest 51 = .ok (.invokestatic 162, 3) := by decide +kernel
theorem dX4_fewest_54 : decode cX4_fewest 54 = .ok (.ifCond .ne 6, 3) := by decide +kernel
theorem dX4_fewest_57 : decode cX4_fewest 57 = .ok (.ldc 56, 2) := by decide +kernel
theorem dX4_fewest_59 : decode cX4_fewest 59 = .ok (.ireturn, 1) := by decide +kernel
theorem dX4_fewest_60 : decode cX4_fewest 60 = .ok (.iconst 0, 1) := by decide +kernel
theorem dX4_fewest_61 : decode cX4_fewest 61 = .ok (.istore 5, 2) := by decide +kernel
theorem dX4_fewest_63 : decode cX4_fewest 63 = .ok (.iload 5, 2) := by decide +kernel
theorem dX4_fewest_65 : decode cX4_fewest 65 = .ok (.aload_n 0, 1) := by decide +kernel
theorem dX4_fewest_66 : decode cX4_fewest 66 = .ok (.getfield 37, 3) := by decide +kernel
theorem dX4_fewest_69 : decode cX4_fewest 69 = .ok (.getfield 122, 3) := by decide +kernel
theorem dX4_fewest_72 : decode cX4_fewest 72 = .ok (.if_icmp .gt 67, 3) := by decide +kernel
theorem dX4_fewest_75 : decode cX4_fewest 75 = .ok (.iconst 0, 1) := by decide +kernel
theorem dX4_fewest_76 : decode cX4_fewest 76 = .ok (.istore 6, 2) := by decide +kernel
theorem dX4_fewest_78 : decode cX4_fewest 78 = .ok (.iload 6, 2) := by decide +kernel
theorem dX4_fewest_80 : decode cX4_fewest 80 = .ok (.iconst 1, 1) := by decide +kernel
theorem dX4_fewest_81 : decode cX4_fewest 81 = .ok (.aload_n 0, 1) := by decide +kernel
theorem dX4_fewest_82 : decode cX4_fewest 82 = .ok (.getfield 37, 3) := by decide +kernel
theorem dX4_fewest_85 : decode cX4_fewest 85 = .ok (.getfield 122, 3) := by decide +kernel
theorem dX4_fewest_88 : decode cX4_fewest 88 = .ok (.ishl, 1) := by decide +kernel
theorem dX4_fewest_89 : decode cX4_fewest 89 = .ok (.if_icmp .ge 44, 3) := by decide +kernel
theorem dX4_fewest_92 : decode cX4_fewest 92 = .ok (.iload 6, 2) := by decide +kernel
theorem dX4_fewest_94 : decode cX4_fewest 94 = .ok (.invokestatic 203, 3) := by decide +kernel
theorem dX4_fewest_97 : decode cX4_fewest 97 = .ok (.iload 5, 2) := by decide +kernel
theorem dX4_fewest_99 : decode cX4_fewest 99 = .ok (.if_icmp .ne 28, 3) := by decide +kernel
theorem dX4_fewest_102 : decode cX4_fewest 102 = .ok (.aload_n 0, 1) := by decide +kernel
theorem dX4_fewest_103 : decode cX4_fewest 103 = .ok (.iload_n 1, 1) := by decide +kernel
theorem dX4_fewest_104 : decode cX4_fewest 104 = .ok (.iload_n 2, 1) := by decide +kernel
theorem dX4_fewest_105 : decode cX4_fewest 105 = .ok (.iload_n 3, 1) := by decide +kernel
theorem dX4_fewest_106 : decode cX4_fewest 106 = .ok (.iload 6, 2) := by decide +kernel
theorem dX4_fewest_108 : decode cX4_fewest 108 = .ok (.invokevirtual 208, 3) := by decide +kernel
theorem dX4_fewest_111 : decode cX4_fewest 111 = .ok (.ifCond .eq 16, 3) := by decide +kernel
theorem dX4_fewest_114 : decode cX4_fewest 114 = .ok (.iload 4, 2) := by decide +kernel
theorem dX4_fewest_116 : decode cX4_fewest 116 = .ok (.ifCond .ne 8, 3) := by decide +kernel
theorem dX4_fewest_119 : decode cX4_fewest 119 = .ok (.iload 5, 2) := by decide +kernel
theorem dX4_fewest_121 : decode cX4_fewest 121 = .ok (.goto 5, 3) := by decide +kernel
theorem dX4_fewest_124 : decode cX4_fewest 124 = .ok (.iload 6, 2) := by decide +kernel
theorem dX4_fewest_126 : decode cX4_fewest 126 = .ok (.ireturn, 1) := by decide +kernel
theorem dX4_fewest_127 : decode cX4_fewest 127 = .ok (.iinc 6 1, 3) := by decide +kernel
theorem dX4_fewest_130 : decode cX4_fewest 130 = .ok (.goto (-52), 3) := by decide +kernel
theorem dX4_fewest_133 : decode cX4_fewest 133 = .ok (.iinc 5 1, 3) := by decide +kernel
theorem dX4_fewest_136 : decode cX4_fewest 136 = .ok (.goto (-73), 3) := by decide +kernel
theorem dX4_fewest_139 : decode cX4_fewest 139 = .ok (.ldc 199, 2) := by decide +kernel
theorem dX4_fewest_141 : decode cX4_fewest 141 = .ok (.ireturn, 1) := by decide +kernel
theorem dX4_bestHouse_0 : decode cX4_bestHouse 0 = .ok (.aload_n 0, 1) := by decide +kernel
theorem dX4_bestHouse_1 : decode cX4_bestHouse 1 = .ok (.iload_n 1, 1) := by decide +kernel
theorem dX4_bestHouse_2 : decode cX4_bestHouse 2 = .ok (.invokevirtual 147, 3) := by decide +kernel
theorem dX4_bestHouse_5 : decode cX4_bestHouse 5 = .ok (.ifCond .eq 20, 3) := by decide +kernel
theorem dX4_bestHouse_8 : decode cX4_bestHouse 8 = .ok (.iload_n 2, 1) := by decide +kernel
theorem dX4_bestHouse_9 : decode cX4_bestHouse 9 = .ok (.iconst 1, 1) := by decide +kernel
theorem dX4_bestHouse_10 : decode cX4_bestHouse 10 = .ok (.bipush 60, 2) := by decide +kernel
theorem dX4_bestHouse_12 : decode cX4_bestHouse 12 = .ok (.invokestatic 52, 3) := by decide +kernel
theorem dX4_bestHouse_15 : decode cX4_bestHouse 15 = .ok (.ifCond .eq 10, 3) := by decide +kernel
theorem dX4_bestHouse_18 : decode cX4_bestHouse 18 = .ok (.iload_n 3, 1) := by decide +kernel
theorem dX4_bestHouse_19 : decode cX4_bestHouse 19 = .ok (.invokestatic 162, 3) := by decide +kernel
theorem dX4_bestHouse_22 : decode cX4_bestHouse 22 = .ok (.ifCond .ne 6, 3) := by decide +kernel
theorem dX4_bestHouse_25 : decode cX4_bestHouse 25 = .ok (.ldc 56, 2) := by decide +kernel
theorem dX4_bestHouse_27 : decode cX4_bestHouse 27 = .ok (.ireturn, 1) := by decide +kernel
theorem dX4_bestHouse_28 : decode cX4_bestHouse 28 = .ok (.iconst 0, 1) := by decide +kernel
theorem dX4_bestHouse_29 : decode cX4_bestHouse 29 = .ok (.istore 4, 2) := by decide +kernel
theorem dX4_bestHouse_31 : decode cX4_bestHouse 31 = .ok (.iconst (-1), 1) := by decide +kernel
theorem dX4_bestHouse_32 : decode cX4_bestHouse 32 = .ok (.istore 5, 2) := by decide +kernel
theorem dX4_bestHouse_34 : decode cX4_bestHouse 34 = .ok (.iconst 0, 1) := by decide +kernel
theorem dX4_bestHouse_35 : decode cX4_bestHouse 35 = .ok (.istore 6, 2) := by decide +kernel
theorem dX4_bestHouse_37 : decode cX4_bestHouse 37 = .ok (.iload 6, 2) := by decide +kernel
theorem dX4_bestHouse_39 : decode cX4_bestHouse 39 = .ok (.aload_n 0, 1) := by decide +kernel
theorem dX4_bestHouse_40 : decode cX4_bestHouse 40 = .ok (.getfield 37, 3) := by decide +kernel
theorem dX4_bestHouse_43 : decode cX4_bestHouse 43 = .ok (.getfield 200, 3) := by decide +kernel
theorem dX4_bestHouse_46 : decode cX4_bestHouse 46 = .ok (.if_icmp .ge 62, 3) := by decide +kernel
theorem dX4_bestHouse_49 : decode cX4_bestHouse 49 = .ok (.aload_n 0, 1) := by decide +kernel
theorem dX4_bestHouse_50 : decode cX4_bestHouse 50 = .ok (.getfield 41, 3) := by decide +kernel
theorem dX4_bestHouse_53 : decode cX4_bestHouse 53 = .ok (.aload_n 0, 1) := by decide +kernel
theorem dX4_bestHouse_54 : decode cX4_bestHouse 54 = .ok (.getfield 37, 3) := by decide +kernel
theorem dX4_bestHouse_57 : decode cX4_bestHouse 57 = .ok (.invokevirtual 115, 3) := by decide +kernel
theorem dX4_bestHouse_60 : decode cX4_bestHouse 60 = .ok (.aload_n 0, 1) := by decide +kernel
theorem dX4_bestHouse_61 : decode cX4_bestHouse 61 = .ok (.getfield 41, 3) := by decide +kernel
theorem dX4_bestHouse_64 : decode cX4_bestHouse 64 = .ok (.iload_n 1, 1) := by decide +kernel
theorem dX4_bestHouse_65 : decode cX4_bestHouse 65 = .ok (.iload 6, 2) := by decide +kernel
theorem dX4_bestHouse_67 : decode cX4_bestHouse 67 = .ok (.invokevirtual 156, 3) := by decide +kernel
theorem dX4_bestHouse_70 : decode cX4_bestHouse 70 = .ok (.aload_n 0, 1) := by decide +kernel
theorem dX4_bestHouse_71 : decode cX4_bestHouse 71 = .ok (.getfield 41, 3) := by decide +kernel
theorem dX4_bestHouse_74 : decode cX4_bestHouse 74 = .ok (.iload_n 2, 1) := by decide +kernel
theorem dX4_bestHouse_75 : decode cX4_bestHouse 75 = .ok (.invokevirtual 195, 3) := by decide +kernel
theorem dX4_bestHouse_78 : decode cX4_bestHouse 78 = .ok (.aload_n 0, 1) := by decide +kernel
theorem dX4_bestHouse_79 : decode cX4_bestHouse 79 = .ok (.getfield 41, 3) := by decide +kernel
theorem dX4_bestHouse_82 : decode cX4_bestHouse 82 = .ok (.invokevirtual 144, 3) := by decide +kernel
theorem dX4_bestHouse_85 : decode cX4_bestHouse 85 = .ok (.istore 7, 2) := by decide +kernel
theorem dX4_bestHouse_87 : decode cX4_bestHouse 87 = .ok (.iload 7, 2) := by decide +kernel
theorem dX4_bestHouse_89 : decode cX4_bestHouse 89 = .ok (.iload 5, 2) := by decide +kernel
theorem dX4_bestHouse_91 : decode cX4_bestHouse 91 = .ok (.if_icmp .le 11, 3) := by decide +kernel
theorem dX4_bestHouse_94 : decode cX4_bestHouse 94 = .ok (.iload 7, 2) := by decide +kernel
theorem dX4_bestHouse_96 : decode cX4_bestHouse 96 = .ok (.istore 5, 2) := by decide +kernel
theorem dX4_bestHouse_98 : decode cX4_bestHouse 98 = .ok (.iload 6, 2) := by decide +kernel
theorem dX4_bestHouse_100 : decode cX4_bestHouse 100 = .ok (.istore 4, 2) := by decide +kernel
theorem dX4_bestHouse_102 : decode cX4_bestHouse 102 = .ok (.iinc 6 1, 3) := by decide +kernel
theorem dX4_bestHouse_105 : decode cX4_bestHouse 105 = .ok (.goto (-68), 3) := by decide +kernel
theorem dX4_bestHouse_108 : decode cX4_bestHouse 108 = .ok (.iload_n 3, 1) := by decide +kernel
theorem dX4_bestHouse_109 : decode cX4_bestHouse 109 = .ok (.ifCond .ne 8, 3) := by decide +kernel
theorem dX4_bestHouse_112 : decode cX4_bestHouse 112 = .ok (.iload 4, 2) := by decide +kernel
theorem dX4_bestHouse_114 : decode cX4_bestHouse 114 = .ok (.goto 5, 3) := by decide +kernel
theorem dX4_bestHouse_117 : decode cX4_bestHouse 117 = .ok (.iload 5, 2) := by decide +kernel
theorem dX4_bestHouse_119 : decode cX4_bestHouse 119 = .ok (.ireturn, 1) := by decide +kernel
theorem dX4_tells_0 : decode cX4_tells 0 = .ok (.aload_n 0, 1) := by decide +kernel
theorem dX4_tells_1 : decode cX4_tells 1 = .ok (.invokevirtual 130, 3) := by decide +kernel
theorem dX4_tells_4 : decode cX4_tells 4 = .ok (.ifCond .ne 6, 3) := by decide +kernel
theorem dX4_tells_7 : decode cX4_tells 7 = .ok (.ldc 129, 2) := by decide +kernel
theorem dX4_tells_9 : decode cX4_tells 9 = .ok (.ireturn, 1) := by decide +kernel
theorem dX4_tells_10 : decode cX4_tells 10 = .ok (.iload_n 1, 1) := by decide +kernel
theorem dX4_tells_11 : decode cX4_tells 11 = .ok (.iconst 1, 1) := by decide +kernel
theorem dX4_tells_12 : decode cX4_tells 12 = .ok (.bipush 60, 2) := by decide +kernel
theorem dX4_tells_14 : decode cX4_tells 14 = .ok (.invokestatic 52, 3) := by decide +kernel
theorem dX4_tells_17 : decode cX4_tells 17 = .ok (.ifCond .eq 10, 3) := by decide +kernel
theorem dX4_tells_20 : decode cX4_tells 20 = .ok (.iload_n 2, 1) := by decide +kernel
theorem dX4_tells_21 : decode cX4_tells 21 = .ok (.invokestatic 162, 3) := by decide +kernel
theorem dX4_tells_24 : decode cX4_tells 24 = .ok (.ifCond .ne 6, 3) := by decide +kernel
theorem dX4_tells_27 : decode cX4_tells 27 = .ok (.ldc 56, 2) := by decide +kernel
theorem dX4_tells_29 : decode cX4_tells 29 = .ok (.ireturn, 1) := by decide +kernel
theorem dX4_tells_30 : decode cX4_tells 30 = .ok (.iconst 0, 1) := by decide +kernel
theorem dX4_tells_31 : decode cX4_tells 31 = .ok (.istore_n 3, 1) := by decide +kernel
theorem dX4_tells_32 : decode cX4_tells 32 = .ok (.aload_n 0, 1) := by decide +kernel
theorem dX4_tells_33 : decode cX4_tells 33 = .ok (.iconst 0, 1) := by decide +kernel
theorem dX4_tells_34 : decode cX4_tells 34 = .ok (.iload_n 1, 1) := by decide +kernel
theorem dX4_tells_35 : decode cX4_tells 35 = .ok (.invokevirtual 212, 3) := by decide +kernel
theorem dX4_tells_38 : decode cX4_tells 38 = .ok (.istore 4, 2) := by decide +kernel
theorem dX4_tells_40 : decode cX4_tells 40 = .ok (.iconst 1, 1) := by decide +kernel
theorem dX4_tells_41 : decode cX4_tells 41 = .ok (.istore 5, 2) := by decide +kernel
theorem dX4_tells_43 : decode cX4_tells 43 = .ok (.iload 5, 2) := by decide +kernel
theorem dX4_tells_45 : decode cX4_tells 45 = .ok (.aload_n 0, 1) := by decide +kernel
theorem dX4_tells_46 : decode cX4_tells 46 = .ok (.getfield 37, 3) := by decide +kernel
theorem dX4_tells_49 : decode cX4_tells 49 = .ok (.getfield 122, 3) := by decide +kernel
theorem dX4_tells_52 : decode cX4_tells 52 = .ok (.if_icmp .ge 32, 3) := by decide +kernel
theorem dX4_tells_55 : decode cX4_tells 55 = .ok (.aload_n 0, 1) := by decide +kernel
theorem dX4_tells_56 : decode cX4_tells 56 = .ok (.iload 5, 2) := by decide +kernel
theorem dX4_tells_58 : decode cX4_tells 58 = .ok (.iload_n 1, 1) := by decide +kernel
theorem dX4_tells_59 : decode cX4_tells 59 = .ok (.invokevirtual 212, 3) := by decide +kernel
theorem dX4_tells_62 : decode cX4_tells 62 = .ok (.istore 6, 2) := by decide +kernel
theorem dX4_tells_64 : decode cX4_tells 64 = .ok (.iload 6, 2) := by decide +kernel
theorem dX4_tells_66 : decode cX4_tells 66 = .ok (.iload 4, 2) := by decide +kernel
theorem dX4_tells_68 : decode cX4_tells 68 = .ok (.if_icmp .ge 10, 3) := by decide +kernel
theorem dX4_tells_71 : decode cX4_tells 71 = .ok (.iload 6, 2) := by decide +kernel
theorem dX4_tells_73 : decode cX4_tells 73 = .ok (.istore 4, 2) := by decide +kernel
theorem dX4_tells_75 : decode cX4_tells 75 = .ok (.iload 5, 2) := by decide +kernel
theorem dX4_tells_77 : decode cX4_tells 77 = .ok (.istore_n 3, 1) := by decide +kernel
theorem dX4_tells_78 : decode cX4_tells 78 = .ok (.iinc 5 1, 3) := by decide +kernel
theorem dX4_tells_81 : decode cX4_tells 81 = .ok (.goto (-38), 3) := by decide +kernel
theorem dX4_tells_84 : decode cX4_tells 84 = .ok (.iload_n 2, 1) := by decide +kernel
theorem dX4_tells_85 : decode cX4_tells 85 = .ok (.ifCond .ne 5, 3) := by decide +kernel
theorem dX4_tells_88 : decode cX4_tells 88 = .ok (.iload_n 3, 1) := by decide +kernel
theorem dX4_tells_89 : decode cX4_tells 89 = .ok (.ireturn, 1) := by decide +kernel
theorem dX4_tells_90 : decode cX4_tells 90 = .ok (.aload_n 0, 1) := by decide +kernel
theorem dX4_tells_91 : decode cX4_tells 91 = .ok (.getfield 41, 3) := by decide +kernel
theorem dX4_tells_94 : decode cX4_tells 94 = .ok (.aload_n 0, 1) := by decide +kernel
theorem dX4_tells_95 : decode cX4_tells 95 = .ok (.getfield 37, 3) := by decide +kernel
theorem dX4_tells_98 : decode cX4_tells 98 = .ok (.invokevirtual 115, 3) := by decide +kernel
theorem dX4_tells_101 : decode cX4_tells 101 = .ok (.aload_n 0, 1) := by decide +kernel
theorem dX4_tells_102 : decode cX4_tells 102 = .ok (.getfield 41, 3) := by decide +kernel
theorem dX4_tells_105 : decode cX4_tells 105 = .ok (.iload_n 1, 1) := by decide +kernel
theorem dX4_tells_106 : decode cX4_tells 106 = .ok (.invokevirtual 195, 3) := by decide +kernel
theorem dX4_tells_109 : decode cX4_tells 109 = .ok (.sipush 1000, 3) := by decide +kernel
theorem dX4_tells_112 : decode cX4_tells 112 = .ok (.aload_n 0, 1) := by decide +kernel
theorem dX4_tells_113 : decode cX4_tells 113 = .ok (.getfield 41, 3) := by decide +kernel
theorem dX4_tells_116 : decode cX4_tells 116 = .ok (.invokevirtual 144, 3) := by decide +kernel
theorem dX4_tells_119 : decode cX4_tells 119 = .ok (.iadd, 1) := by decide +kernel
theorem dX4_tells_120 : decode cX4_tells 120 = .ok (.iload 4, 2) := by decide +kernel
theorem dX4_tells_122 : decode cX4_tells 122 = .ok (.isub, 1) := by decide +kernel
theorem dX4_tells_123 : decode cX4_tells 123 = .ok (.ireturn, 1) := by decide +kernel
theorem dX4_who_0 : decode cX4_who 0 = .ok (.aload_n 0, 1) := by decide +kernel
theorem dX4_who_1 : decode cX4_who 1 = .ok (.iconst 0, 1) := by decide +kernel
theorem dX4_who_2 : decode cX4_who 2 = .ok (.iload_n 1, 1) := by decide +kernel
theorem dX4_who_3 : decode cX4_who 3 = .ok (.iload_n 2, 1) := by decide +kernel
theorem dX4_who_4 : decode cX4_who 4 = .ok (.iload_n 3, 1) := by decide +kernel
theorem dX4_who_5 : decode cX4_who 5 = .ok (.iload 4, 2) := by decide +kernel
theorem dX4_who_7 : decode cX4_who 7 = .ok (.iload 5, 2) := by decide +kernel
theorem dX4_who_9 : decode cX4_who 9 = .ok (.invokevirtual 215, 3) := by decide +kernel
theorem dX4_who_12 : decode cX4_who 12 = .ok (.ireturn, 1) := by decide +kernel
theorem dX4_houses_0 : decode cX4_houses 0 = .ok (.aload_n 0, 1) := by decide +kernel
theorem dX4_houses_1 : decode cX4_houses 1 = .ok (.iconst 1, 1) := by decide +kernel
theorem dX4_houses_2 : decode cX4_houses 2 = .ok (.iload_n 1, 1) := by decide +kernel
theorem dX4_houses_3 : decode cX4_houses 3 = .ok (.iload_n 2, 1) := by decide +kernel
theorem dX4_houses_4 : decode cX4_houses 4 = .ok (.iload_n 3, 1) := by decide +kernel
theorem dX4_houses_5 : decode cX4_houses 5 = .ok (.iload 4, 2) := by decide +kernel
theorem dX4_houses_7 : decode cX4_houses 7 = .ok (.iload 5, 2) := by decide +kernel
theorem dX4_houses_9 : decode cX4_houses 9 = .ok (.invokevirtual 215, 3) := by decide +kernel
theorem dX4_houses_12 : decode cX4_houses 12 = .ok (.ireturn, 1) := by decide +kernel
theorem dX4_weights_0 : decode cX4_weights 0 = .ok (.aload_n 0, 1) := by decide +kernel
theorem dX4_weights_1 : decode cX4_weights 1 = .ok (.iconst 2, 1) := by decide +kernel
theorem dX4_weights_2 : decode cX4_weights 2 = .ok (.iload_n 1, 1) := by decide +kernel
theorem dX4_weights_3 : decode cX4_weights 3 = .ok (.iload_n 2, 1) := by decide +kernel
theorem dX4_weights_4 : decode cX4_weights 4 = .ok (.iload_n 3, 1) := by decide +kernel
theorem dX4_weights_5 : decode cX4_weights 5 = .ok (.iload 4, 2) := by decide +kernel
theorem dX4_weights_7 : decode cX4_weights 7 = .ok (.iload 5, 2) := by decide +kernel
theorem dX4_weights_9 : decode cX4_weights 9 = .ok (.invokevirtual 215, 3) := by decide +kernel
theorem dX4_weights_12 : decode cX4_weights 12 = .ok (.ireturn, 1) := by decide +kernel
theorem dX4_absent_0 : decode cX4_absent 0 = .ok (.aload_n 0, 1) := by decide +kernel
theorem dX4_absent_1 : decode cX4_absent 1 = .ok (.iload_n 1, 1) := by decide +kernel
theorem dX4_absent_2 : decode cX4_absent 2 = .ok (.iload_n 2, 1) := by decide +kernel
theorem dX4_absent_3 : decode cX4_absent 3 = .ok (.iload_n 3, 1) := by decide +kernel
theorem dX4_absent_4 : decode cX4_absent 4 = .ok (.iload 4, 2) := by decide +kernel
theorem dX4_absent_6 : decode cX4_absent 6 = .ok (.invokevirtual 219, 3) := by decide +kernel
theorem dX4_absent_9 : decode cX4_absent 9 = .ok (.istore 5, 2) := by decide +kernel
theorem dX4_absent_11 : decode cX4_absent 11 = .ok (.iload 5, 2) := by decide +kernel
theorem dX4_absent_13 : decode cX4_absent 13 = .ok (.ifCond .eq 6, 3) := by decide +kernel
theorem dX4_absent_16 : decode cX4_absent 16 = .ok (.iload 5, 2) := by decide +kernel
theorem dX4_absent_18 : decode cX4_absent 18 = .ok (.ireturn, 1) := by decide +kernel
theorem dX4_absent_19 : decode cX4_absent 19 = .ok (.aload_n 0, 1) := by decide +kernel
theorem dX4_absent_20 : decode cX4_absent 20 = .ok (.getfield 41, 3) := by decide +kernel
theorem dX4_absent_23 : decode cX4_absent 23 = .ok (.aload_n 0, 1) := by decide +kernel
theorem dX4_absent_24 : decode cX4_absent 24 = .ok (.getfield 37, 3) := by decide +kernel
theorem dX4_absent_27 : decode cX4_absent 27 = .ok (.invokevirtual 115, 3) := by decide +kernel
theorem dX4_absent_30 : decode cX4_absent 30 = .ok (.aload_n 0, 1) := by decide +kernel
theorem dX4_absent_31 : decode cX4_absent 31 = .ok (.iload_n 1, 1) := by decide +kernel
theorem dX4_absent_32 : decode cX4_absent 32 = .ok (.aload_n 0, 1) := by decide +kernel
theorem dX4_absent_33 : decode cX4_absent 33 = .ok (.getfield 11, 3) := by decide +kernel
theorem dX4_absent_36 : decode cX4_absent 36 = .ok (.iload_n 2, 1) := by decide +kernel
theorem dX4_absent_37 : decode cX4_absent 37 = .ok (.aaload, 1) := by decide +kernel
theorem dX4_absent_38 : decode cX4_absent 38 = .ok (.iload_n 3, 1) := by decide +kernel
theorem dX4_absent_39 : decode cX4_absent 39 = .ok (.iload 4, 2) := by decide +kernel
theorem dX4_absent_41 : decode cX4_absent 41 = .ok (.invokevirtual 223, 3) := by decide +kernel
theorem dX4_absent_44 : decode cX4_absent 44 = .ok (.ifCond .eq 8, 3) := by decide +kernel
theorem dX4_absent_47 : decode cX4_absent 47 = .ok (.bipush 64, 2) := by decide +kernel
theorem dX4_absent_49 : decode cX4_absent 49 = .ok (.goto 4, 3) := by decide +kernel
theorem dX4_absent_52 : decode cX4_absent 52 = .ok (.iconst 0, 1) := by decide +kernel
theorem dX4_absent_53 : decode cX4_absent 53 = .ok (.istore 6, 2) := by decide +kernel
theorem dX4_absent_55 : decode cX4_absent 55 = .ok (.iconst 0, 1) := by decide +kernel
theorem dX4_absent_56 : decode cX4_absent 56 = .ok (.istore 7, 2) := by decide +kernel
theorem dX4_absent_58 : decode cX4_absent 58 = .ok (.iload 7, 2) := by decide +kernel
theorem dX4_absent_60 : decode cX4_absent 60 = .ok (.aload_n 0, 1) := by decide +kernel
theorem dX4_absent_61 : decode cX4_absent 61 = .ok (.getfield 37, 3) := by decide +kernel
theorem dX4_absent_64 : decode cX4_absent 64 = .ok (.getfield 122, 3) := by decide +kernel
theorem dX4_absent_67 : decode cX4_absent 67 = .ok (.if_icmp .ge 57, 3) := by decide +kernel
theorem dX4_absent_70 : decode cX4_absent 70 = .ok (.aload_n 0, 1) := by decide +kernel
theorem dX4_absent_71 : decode cX4_absent 71 = .ok (.getfield 41, 3) := by decide +kernel
theorem dX4_absent_74 : decode cX4_absent 74 = .ok (.aload_n 0, 1) := by decide +kernel
theorem dX4_absent_75 : decode cX4_absent 75 = .ok (.getfield 37, 3) := by decide +kernel
theorem dX4_absent_78 : decode cX4_absent 78 = .ok (.invokevirtual 115, 3) := by decide +kernel
theorem dX4_absent_81 : decode cX4_absent 81 = .ok (.aload_n 0, 1) := by decide +kernel
theorem dX4_absent_82 : decode cX4_absent 82 = .ok (.getfield 41, 3) := by decide +kernel
theorem dX4_absent_85 : decode cX4_absent 85 = .ok (.iconst 1, 1) := by decide +kernel
theorem dX4_absent_86 : decode cX4_absent 86 = .ok (.iload 7, 2) := by decide +kernel
theorem dX4_absent_88 : decode cX4_absent 88 = .ok (.ishl, 1) := by decide +kernel
theorem dX4_absent_89 : decode cX4_absent 89 = .ok (.putfield 227, 3) := by decide +kernel
theorem dX4_absent_92 : decode cX4_absent 92 = .ok (.aload_n 0, 1) := by decide +kernel
theorem dX4_absent_93 : decode cX4_absent 93 = .ok (.iload_n 1, 1) := by decide +kernel
theorem dX4_absent_94 : decode cX4_absent 94 = .ok (.aload_n 0, 1) := by decide +kernel
theorem dX4_absent_95 : decode cX4_absent 95 = .ok (.getfield 11, 3) := by decide +kernel
theorem dX4_absent_98 : decode cX4_absent 98 = .ok (.iload_n 2, 1) := by decide +kernel
theorem dX4_absent_99 : decode cX4_absent 99 = .ok (.aaload, 1) := by decide +kernel
theorem dX4_absent_100 : decode cX4_absent 100 = .ok (.iload_n 3, 1) := by decide +kernel
theorem dX4_absent_101 : decode cX4_absent 101 = .ok (.iload 4, 2) := by decide +kernel
theorem dX4_absent_103 : decode cX4_absent 103 = .ok (.invokevirtual 223, 3) := by decide +kernel
theorem dX4_absent_106 : decode cX4_absent 106 = .ok (.ifCond .eq 12, 3) := by decide +kernel
theorem dX4_absent_109 : decode cX4_absent 109 = .ok (.iload 6, 2) := by decide +kernel
theorem dX4_absent_111 : decode cX4_absent 111 = .ok (.iconst 1, 1) := by decide +kernel
theorem dX4_absent_112 : decode cX4_absent 112 = .ok (.iload 7, 2) := by decide +kernel
theorem dX4_absent_114 : decode cX4_absent 114 = .ok (.ishl, 1) := by decide +kernel
theorem dX4_absent_115 : decode cX4_absent 115 = .ok (.ior, 1) := by decide +kernel
theorem dX4_absent_116 : decode cX4_absent 116 = .ok (.istore 6, 2) := by decide +kernel
theorem dX4_absent_118 : decode cX4_absent 118 = .ok (.iinc 7 1, 3) := by decide +kernel
theorem dX4_absent_121 : decode cX4_absent 121 = .ok (.goto (-63), 3) := by decide +kernel
theorem dX4_absent_124 : decode cX4_absent 124 = .ok (.iload 6, 2) := by decide +kernel
theorem dX4_absent_126 : decode cX4_absent 126 = .ok (.ireturn, 1) := by decide +kernel
theorem dX4_greets_0 : decode cX4_greets 0 = .ok (.aload_n 0, 1) := by decide +kernel
theorem dX4_greets_1 : decode cX4_greets 1 = .ok (.invokevirtual 130, 3) := by decide +kernel
theorem dX4_greets_4 : decode cX4_greets 4 = .ok (.ifCond .ne 6, 3) := by decide +kernel
theorem dX4_greets_7 : decode cX4_greets 7 = .ok (.ldc 129, 2) := by decide +kernel
theorem dX4_greets_9 : decode cX4_greets 9 = .ok (.ireturn, 1) := by decide +kernel
theorem dX4_greets_10 : decode cX4_greets 10 = .ok (.iload_n 1, 1) := by decide +kernel
theorem dX4_greets_11 : decode cX4_greets 11 = .ok (.invokestatic 162, 3) := by decide +kernel
theorem dX4_greets_14 : decode cX4_greets 14 = .ok (.ifCond .ne 6, 3) := by decide +kernel
theorem dX4_greets_17 : decode cX4_greets 17 = .ok (.ldc 56, 2) := by decide +kernel
theorem dX4_greets_19 : decode cX4_greets 19 = .ok (.ireturn, 1) := by decide +kernel
theorem dX4_greets_20 : decode cX4_greets 20 = .ok (.iconst 0, 1) := by decide +kernel
theorem dX4_greets_21 : decode cX4_greets 21 = .ok (.istore_n 2, 1) := by decide +kernel
theorem dX4_greets_22 : decode cX4_greets 22 = .ok (.ldc 199, 2) := by decide +kernel
theorem dX4_greets_24 : decode cX4_greets 24 = .ok (.istore_n 3, 1) := by decide +kernel
theorem dX4_greets_25 : decode cX4_greets 25 = .ok (.iconst 0, 1) := by decide +kernel
theorem dX4_greets_26 : decode cX4_greets 26 = .ok (.istore 4, 2) := by decide +kernel
theorem dX4_greets_28 : decode cX4_greets 28 = .ok (.iload 4, 2) := by decide +kernel
theorem dX4_greets_30 : decode cX4_greets 30 = .ok (.iconst 1, 1) := by decide +kernel
theorem dX4_greets_31 : decode cX4_greets 31 = .ok (.iadd, 1) := by decide +kernel
theorem dX4_greets_32 : decode cX4_greets 32 = .ok (.aload_n 0, 1) := by decide +kernel
theorem dX4_greets_33 : decode cX4_greets 33 = .ok (.getfield 37, 3) := by decide +kernel
theorem dX4_greets_36 : decode cX4_greets 36 = .ok (.getfield 200, 3) := by decide +kernel
theorem dX4_greets_39 : decode cX4_greets 39 = .ok (.if_icmp .ge 49, 3) := by decide +kernel
theorem dX4_greets_42 : decode cX4_greets 42 = .ok (.aload_n 0, 1) := by decide +kernel
theorem dX4_greets_43 : decode cX4_greets 43 = .ok (.iload 4, 2) := by decide +kernel
theorem dX4_greets_45 : decode cX4_greets 45 = .ok (.invokevirtual 230, 3) := by decide +kernel
theorem dX4_greets_48 : decode cX4_greets 48 = .ok (.ifCond .eq 34, 3) := by decide +kernel
theorem dX4_greets_51 : decode cX4_greets 51 = .ok (.aload_n 0, 1) := by decide +kernel
theorem dX4_greets_52 : decode cX4_greets 52 = .ok (.iload 4, 2) := by decide +kernel
theorem dX4_greets_54 : decode cX4_greets 54 = .ok (.iconst 1, 1) := by decide +kernel
theorem dX4_greets_55 : decode cX4_greets 55 = .ok (.iadd, 1) := by decide +kernel
theorem dX4_greets_56 : decode cX4_greets 56 = .ok (.invokevirtual 230, 3) := by decide +kernel
theorem dX4_greets_59 : decode cX4_greets 59 = .ok (.ifCond .eq 23, 3) := by decide +kernel
theorem dX4_greets_62 : decode cX4_greets 62 = .ok (.iinc 2 1, 3) := by decide +kernel
theorem dX4_greets_65 : decode cX4_greets 65 = .ok (.iload_n 3, 1) := by decide +kernel
theorem dX4_greets_66 : decode cX4_greets 66 = .ok (.ldc 199, 2) := by decide +kernel
theorem dX4_greets_68 : decode cX4_greets 68 = .ok (.if_icmp .ne 14, 3) := by decide +kernel
theorem dX4_greets_71 : decode cX4_greets 71 = .ok (.bipush 10, 2) := by decide +kernel
theorem dX4_greets_73 : decode cX4_greets 73 = .ok (.iload 4, 2) := by decide +kernel
theorem dX4_greets_75 : decode cX4_greets 75 = .ok (.imul, 1) := by decide +kernel
theorem dX4_greets_76 : decode cX4_greets 76 = .ok (.iload 4, 2) := by decide +kernel
theorem dX4_greets_78 : decode cX4_greets 78 = .ok (.iadd, 1) := by decide +kernel
theorem dX4_greets_79 : decode cX4_greets 79 = .ok (.iconst 1, 1) := by decide +kernel
theorem dX4_greets_80 : decode cX4_greets 80 = .ok (.iadd, 1) := by decide +kernel
theorem dX4_greets_81 : decode cX4_greets 81 = .ok (.istore_n 3, 1) := by decide +kernel
theorem dX4_greets_82 : decode cX4_greets 82 = .ok (.iinc 4 1, 3) := by decide +kernel
theorem dX4_greets_85 : decode cX4_greets 85 = .ok (.goto (-57), 3) := by decide +kernel
theorem dX4_greets_88 : decode cX4_greets 88 = .ok (.iload_n 1, 1) := by decide +kernel
theorem dX4_greets_89 : decode cX4_greets 89 = .ok (.ifCond .ne 7, 3) := by decide +kernel
theorem dX4_greets_92 : decode cX4_greets 92 = .ok (.iload_n 2, 1) := by decide +kernel
theorem dX4_greets_93 : decode cX4_greets 93 = .ok (.goto 4, 3) := by decide +kernel
theorem dX4_greets_96 : decode cX4_greets 96 = .ok (.iload_n 3, 1) := by decide +kernel
theorem dX4_greets_97 : decode cX4_greets 97 = .ok (.ireturn, 1) := by decide +kernel
theorem dX4_talk_0 : decode cX4_talk 0 = .ok (.aload_n 0, 1) := by decide +kernel
theorem dX4_talk_1 : decode cX4_talk 1 = .ok (.iload_n 1, 1) := by decide +kernel
theorem dX4_talk_2 : decode cX4_talk 2 = .ok (.invokevirtual 150, 3) := by decide +kernel
theorem dX4_talk_5 : decode cX4_talk 5 = .ok (.ifCond .eq 16, 3) := by decide +kernel
theorem dX4_talk_8 : decode cX4_talk 8 = .ok (.aload_n 0, 1) := by decide +kernel
theorem dX4_talk_9 : decode cX4_talk 9 = .ok (.iload_n 2, 1) := by decide +kernel
theorem dX4_talk_10 : decode cX4_talk 10 = .ok (.invokevirtual 150, 3) := by decide +kernel
theorem dX4_talk_13 : decode cX4_talk 13 = .ok (.ifCond .eq 8, 3) := by decide +kernel
theorem dX4_talk_16 : decode cX4_talk 16 = .ok (.iload_n 1, 1) := by decide +kernel
theorem dX4_talk_17 : decode cX4_talk 17 = .ok (.iload_n 2, 1) := by decide +kernel
theorem dX4_talk_18 : decode cX4_talk 18 = .ok (.if_icmp .ne 6, 3) := by decide +kernel
theorem dX4_talk_21 : decode cX4_talk 21 = .ok (.ldc 56, 2) := by decide +kernel
theorem dX4_talk_23 : decode cX4_talk 23 = .ok (.ireturn, 1) := by decide +kernel
theorem dX4_talk_24 : decode cX4_talk 24 = .ok (.iload_n 1, 1) := by decide +kernel
theorem dX4_talk_25 : decode cX4_talk 25 = .ok (.iload_n 2, 1) := by decide +kernel
theorem dX4_talk_26 : decode cX4_talk 26 = .ok (.invokestatic 233, 3) := by decide +kernel
theorem dX4_talk_29 : decode cX4_talk 29 = .ok (.istore_n 3, 1) := by decide +kernel
theorem dX4_talk_30 : decode cX4_talk 30 = .ok (.iload_n 3, 1) := by decide +kernel
theorem dX4_talk_31 : decode cX4_talk 31 = .ok (.iload_n 1, 1) := by decide +kernel
theorem dX4_talk_32 : decode cX4_talk 32 = .ok (.iload_n 2, 1) := by decide +kernel
theorem dX4_talk_33 : decode cX4_talk 33 = .ok (.invokestatic 238, 3) := by decide +kernel
theorem dX4_talk_36 : decode cX4_talk 36 = .ok (.if_icmp .gt 26, 3) := by decide +kernel
theorem dX4_talk_39 : decode cX4_talk 39 = .ok (.aload_n 0, 1) := by decide +kernel
theorem dX4_talk_40 : decode cX4_talk 40 = .ok (.getfield 37, 3) := by decide +kernel
theorem dX4_talk_43 : decode cX4_talk 43 = .ok (.getfield 165, 3) := by decide +kernel
theorem dX4_talk_46 : decode cX4_talk 46 = .ok (.iload_n 3, 1) := by decide +kernel
theorem dX4_talk_47 : decode cX4_talk 47 = .ok (.invokestatic 168, 3) := by decide +kernel
theorem dX4_talk_50 : decode cX4_talk 50 = .ok (.iconst 1, 1) := by decide +kernel
theorem dX4_talk_51 : decode cX4_talk 51 = .ok (.if_icmp .ne 5, 3) := by decide +kernel
theorem dX4_talk_54 : decode cX4_talk 54 = .ok (.iconst 0, 1) := by decide +kernel
theorem dX4_talk_55 : decode cX4_talk 55 = .ok (.ireturn, 1) := by decide +kernel
theorem dX4_talk_56 : decode cX4_talk 56 = .ok (.iinc 3 1, 3) := by decide +kernel
theorem dX4_talk_59 : decode cX4_talk 59 = .ok (.goto (-29), 3) := by decide +kernel
theorem dX4_talk_62 : decode cX4_talk 62 = .ok (.iconst 1, 1) := by decide +kernel
theorem dX4_talk_63 : decode cX4_talk 63 = .ok (.ireturn, 1) := by decide +kernel
theorem dX4_alone_0 : decode cX4_alone 0 = .ok (.aload_n 0, 1) := by decide +kernel
theorem dX4_alone_1 : decode cX4_alone 1 = .ok (.invokevirtual 130, 3) := by decide +kernel
theorem dX4_alone_4 : decode cX4_alone 4 = .ok (.ifCond .ne 6, 3) := by decide +kernel
theorem dX4_alone_7 : decode cX4_alone 7 = .ok (.ldc 129, 2) := by decide +kernel
theorem dX4_alone_9 : decode cX4_alone 9 = .ok (.ireturn, 1) := by decide +kernel
theorem dX4_alone_10 : decode cX4_alone 10 = .ok (.iconst 0, 1) := by decide +kernel
theorem dX4_alone_11 : decode cX4_alone 11 = .ok (.istore_n 1, 1) := by decide +kernel
theorem dX4_alone_12 : decode cX4_alone 12 = .ok (.iconst 0, 1) := by decide +kernel
theorem dX4_alone_13 : decode cX4_alone 13 = .ok (.istore_n 2, 1) := by decide +kernel
theorem dX4_alone_14 : decode cX4_alone 14 = .ok (.iconst 0, 1) := by decide +kernel
theorem dX4_alone_15 : decode cX4_alone 15 = .ok (.istore_n 3, 1) := by decide +kernel
theorem dX4_alone_16 : decode cX4_alone 16 = .ok (.iload_n 3, 1) := by decide +kernel
theorem dX4_alone_17 : decode cX4_alone 17 = .ok (.aload_n 0, 1) := by decide +kernel
theorem dX4_alone_18 : decode cX4_alone 18 = .ok (.getfield 37, 3) := by decide +kernel
theorem dX4_alone_21 : decode cX4_alone 21 = .ok (.getfield 200, 3) := by decide +kernel
theorem dX4_alone_24 : decode cX4_alone 24 = .ok (.if_icmp .ge 53, 3) := by decide +kernel
theorem dX4_alone_27 : decode cX4_alone 27 = .ok (.aload_n 0, 1) := by decide +kernel
theorem dX4_alone_28 : decode cX4_alone 28 = .ok (.getfield 37, 3) := by decide +kernel
theorem dX4_alone_31 : decode cX4_alone 31 = .ok (.getfield 186, 3) := by decide +kernel
theorem dX4_alone_34 : decode cX4_alone 34 = .ok (.iload_n 3, 1) := by decide +kernel
theorem dX4_alone_35 : decode cX4_alone 35 = .ok (.iaload, 1) := by decide +kernel
theorem dX4_alone_36 : decode cX4_alone 36 = .ok (.iload_n 1, 1) := by decide +kernel
theorem dX4_alone_37 : decode cX4_alone 37 = .ok (.if_icmp .le 15, 3) := by decide +kernel
theorem dX4_alone_40 : decode cX4_alone 40 = .ok (.aload_n 0, 1) := by decide +kernel
theorem dX4_alone_41 : decode cX4_alone 41 = .ok (.getfield 37, 3) := by decide +kernel
theorem dX4_alone_44 : decode cX4_alone 44 = .ok (.getfield 186, 3) := by decide +kernel
theorem dX4_alone_47 : decode cX4_alone 47 = .ok (.iload_n 3, 1) := by decide +kernel
theorem dX4_alone_48 : decode cX4_alone 48 = .ok (.iaload, 1) := by decide +kernel
theorem dX4_alone_49 : decode cX4_alone 49 = .ok (.istore_n 1, 1) := by decide +kernel
theorem dX4_alone_50 : decode cX4_alone 50 = .ok (.iconst 0, 1) := by decide +kernel
theorem dX4_alone_51 : decode cX4_alone 51 = .ok (.istore_n 2, 1) := by decide +kernel
theorem dX4_alone_52 : decode cX4_alone 52 = .ok (.aload_n 0, 1) := by decide +kernel
theorem dX4_alone_53 : decode cX4_alone 53 = .ok (.getfield 37, 3) := by decide +kernel
theorem dX4_alone_56 : decode cX4_alone 56 = .ok (.getfield 186, 3) := by decide +kernel
theorem dX4_alone_59 : decode cX4_alone 59 = .ok (.iload_n 3, 1) := by decide +kernel
theorem dX4_alone_60 : decode cX4_alone 60 = .ok (.iaload, 1) := by decide +kernel
theorem dX4_alone_61 : decode cX4_alone 61 = .ok (.iload_n 1, 1) := by decide +kernel
theorem dX4_alone_62 : decode cX4_alone 62 = .ok (.if_icmp .ne 9, 3) := by decide +kernel
theorem dX4_alone_65 : decode cX4_alone 65 = .ok (.iload_n 2, 1) := by decide +kernel
theorem dX4_alone_66 : decode cX4_alone 66 = .ok (.iconst 1, 1) := by decide +kernel
theorem dX4_alone_67 : decode cX4_alone 67 = .ok (.iload_n 3, 1) := by decide +kernel
theorem dX4_alone_68 : decode cX4_alone 68 = .ok (.ishl, 1) := by decide +kernel
theorem dX4_alone_69 : decode cX4_alone 69 = .ok (.ior, 1) := by decide +kernel
theorem dX4_alone_70 : decode cX4_alone 70 = .ok (.istore_n 2, 1) := by decide +kernel
theorem dX4_alone_71 : decode cX4_alone 71 = .ok (.iinc 3 1, 3) := by decide +kernel
theorem dX4_alone_74 : decode cX4_alone 74 = .ok (.goto (-58), 3) := by decide +kernel
theorem dX4_alone_77 : decode cX4_alone 77 = .ok (.iload_n 2, 1) := by decide +kernel
theorem dX4_alone_78 : decode cX4_alone 78 = .ok (.ireturn, 1) := by decide +kernel
theorem dX4_rain_0 : decode cX4_rain 0 = .ok (.aload_n 0, 1) := by decide +kernel
theorem dX4_rain_1 : decode cX4_rain 1 = .ok (.iload_n 1, 1) := by decide +kernel
theorem dX4_rain_2 : decode cX4_rain 2 = .ok (.invokevirtual 150, 3) := by decide +kernel
theorem dX4_rain_5 : decode cX4_rain 5 = .ok (.ifCond .eq 31, 3) := by decide +kernel
theorem dX4_rain_8 : decode cX4_rain 8 = .ok (.iload_n 2, 1) := by decide +kernel
theorem dX4_rain_9 : decode cX4_rain 9 = .ok (.iconst 0, 1) := by decide +kernel
theorem dX4_rain_10 : decode cX4_rain 10 = .ok (.bipush 99, 2) := by decide +kernel
theorem dX4_rain_12 : decode cX4_rain 12 = .ok (.invokestatic 52, 3) := by decide +kernel
theorem dX4_rain_15 : decode cX4_rain 15 = .ok (.ifCond .eq 21, 3) := by decide +kernel
theorem dX4_rain_18 : decode cX4_rain 18 = .ok (.iload_n 3, 1) := by decide +kernel
theorem dX4_rain_19 : decode cX4_rain 19 = .ok (.iconst 0, 1) := by decide +kernel
theorem dX4_rain_20 : decode cX4_rain 20 = .ok (.bipush 10, 2) := by decide +kernel
theorem dX4_rain_22 : decode cX4_rain 22 = .ok (.invokestatic 52, 3) := by decide +kernel
theorem dX4_rain_25 : decode cX4_rain 25 = .ok (.ifCond .eq 11, 3) := by decide +kernel
theorem dX4_rain_28 : decode cX4_rain 28 = .ok (.iload 4, 2) := by decide +kernel
theorem dX4_rain_30 : decode cX4_rain 30 = .ok (.invokestatic 162, 3) := by decide +kernel
theorem dX4_rain_33 : decode cX4_rain 33 = .ok (.ifCond .ne 7, 3) := by decide +kernel
theorem dX4_rain_36 : decode cX4_rain 36 = .ok (.ldc2_w 241, 3) := by decide +kernel
theorem dX4_rain_39 : decode cX4_rain 39 = .ok (.lreturn, 1) := by decide +kernel
theorem dX4_rain_40 : decode cX4_rain 40 = .ok (.aload_n 0, 1) := by decide +kernel
theorem dX4_rain_41 : decode cX4_rain 41 = .ok (.getfield 37, 3) := by decide +kernel
theorem dX4_rain_44 : decode cX4_rain 44 = .ok (.iconst 5, 1) := by decide +kernel
theorem dX4_rain_45 : decode cX4_rain 45 = .ok (.invokevirtual 243, 3) := by decide +kernel
theorem dX4_rain_48 : decode cX4_rain 48 = .ok (.istore 5, 2) := by decide +kernel
theorem dX4_rain_50 : decode cX4_rain 50 = .ok (.lconst 0, 1) := by decide +kernel
theorem dX4_rain_51 : decode cX4_rain 51 = .ok (.lstore 6, 2) := by decide +kernel
theorem dX4_rain_53 : decode cX4_rain 53 = .ok (.iconst 0, 1) := by decide +kernel
theorem dX4_rain_54 : decode cX4_rain 54 = .ok (.istore 8, 2) := by decide +kernel
theorem dX4_rain_56 : decode cX4_rain 56 = .ok (.iload 8, 2) := by decide +kernel
theorem dX4_rain_58 : decode cX4_rain 58 = .ok (.iconst 1, 1) := by decide +kernel
theorem dX4_rain_59 : decode cX4_rain 59 = .ok (.aload_n 0, 1) := by decide +kernel
theorem dX4_rain_60 : decode cX4_rain 60 = .ok (.getfield 37, 3) := by decide +kernel
theorem dX4_rain_63 : decode cX4_rain 63 = .ok (.getfield 122, 3) := by decide +kernel
theorem dX4_rain_66 : decode cX4_rain 66 = .ok (.ishl, 1) := by decide +kernel
theorem dX4_rain_67 : decode cX4_rain 67 = .ok (.if_icmp .ge 43, 3) := by decide +kernel
theorem dX4_rain_70 : decode cX4_rain 70 = .ok (.iload 8, 2) := by decide +kernel
theorem dX4_rain_72 : decode cX4_rain 72 = .ok (.iload 5, 2) := by decide +kernel
theorem dX4_rain_74 : decode cX4_rain 74 = .ok (.iconst (-1), 1) := by decide +kernel
theorem dX4_rain_75 : decode cX4_rain 75 = .ok (.ixor, 1) := by decide +kernel
theorem dX4_rain_76 : decode cX4_rain 76 = .ok (.iand, 1) := by decide +kernel
theorem dX4_rain_77 : decode cX4_rain 77 = .ok (.ifCond .ne 27, 3) := by decide +kernel
theorem dX4_rain_80 : decode cX4_rain 80 = .ok (.aload_n 0, 1) := by decide +kernel
theorem dX4_rain_81 : decode cX4_rain 81 = .ok (.iload_n 1, 1) := by decide +kernel
theorem dX4_rain_82 : decode cX4_rain 82 = .ok (.iload_n 2, 1) := by decide +kernel
theorem dX4_rain_83 : decode cX4_rain 83 = .ok (.iload 8, 2) := by decide +kernel
theorem dX4_rain_85 : decode cX4_rain 85 = .ok (.invokevirtual 246, 3) := by decide +kernel
theorem dX4_rain_88 : decode cX4_rain 88 = .ok (.ifCond .eq 16, 3) := by decide +kernel
theorem dX4_rain_91 : decode cX4_rain 91 = .ok (.lload 6, 2) := by decide +kernel
theorem dX4_rain_93 : decode cX4_rain 93 = .ok (.iload 8, 2) := by decide +kernel
theorem dX4_rain_95 : decode cX4_rain 95 = .ok (.iload 5, 2) := by decide +kernel
theorem dX4_rain_97 : decode cX4_rain 97 = .ok (.iload_n 3, 1) := by decide +kernel
theorem dX4_rain_98 : decode cX4_rain 98 = .ok (.invokestatic 249, 3) := by decide +kernel
theorem dX4_rain_101 : decode cX4_rain 101 = .ok (.ladd, 1) := by decide +kernel
theorem dX4_rain_102 : decode cX4_rain 102 = .ok (.lstore 6, 2) := by decide +kernel
theorem dX4_rain_104 : decode cX4_rain 104 = .ok (.iinc 8 1, 3) := by decide +kernel
theorem dX4_rain_107 : decode cX4_rain 107 = .ok (.goto (-51), 3) := by decide +kernel
theorem dX4_rain_110 : decode cX4_rain 110 = .ok (.ldc2_w 253, 3) := by decide +kernel
theorem dX4_rain_113 : decode cX4_rain 113 = .ok (.iload 5, 2) := by decide +kernel
theorem dX4_rain_115 : decode cX4_rain 115 = .ok (.invokestatic 203, 3) := by decide +kernel
theorem dX4_rain_118 : decode cX4_rain 118 = .ok (.invokestatic 255, 3) := by decide +kernel
theorem dX4_rain_121 : decode cX4_rain 121 = .ok (.lstore 8, 2) := by decide +kernel
theorem dX4_rain_123 : decode cX4_rain 123 = .ok (.lload 6, 2) := by decide +kernel
theorem dX4_rain_125 : decode cX4_rain 125 = .ok (.lload 8, 2) := by decide +kernel
theorem dX4_rain_127 : decode cX4_rain 127 = .ok (.invokestatic 259, 3) := by decide +kernel
theorem dX4_rain_130 : decode cX4_rain 130 = .ok (.lstore 10, 2) := by decide +kernel
theorem dX4_rain_132 : decode cX4_rain 132 = .ok (.iload 4, 2) := by decide +kernel
theorem dX4_rain_134 : decode cX4_rain 134 = .ok (.ifCond .ne 8, 3) := by decide +kernel
theorem dX4_rain_137 : decode cX4_rain 137 = .ok (.lload 6, 2) := by decide +kernel
theorem dX4_rain_139 : decode cX4_rain 139 = .ok (.goto 5, 3) := by decide +kernel
theorem dX4_rain_142 : decode cX4_rain 142 = .ok (.lload 8, 2) := by decide +kernel
theorem dX4_rain_144 : decode cX4_rain 144 = .ok (.lconst 1, 1) := by decide +kernel
theorem dX4_rain_145 : decode cX4_rain 145 = .ok (.lload 10, 2) := by decide +kernel
theorem dX4_rain_147 : decode cX4_rain 147 = .ok (.invokestatic 263, 3) := by decide +kernel
theorem dX4_rain_150 : decode cX4_rain 150 = .ok (.ldiv, 1) := by decide +kernel
theorem dX4_rain_151 : decode cX4_rain 151 = .ok (.lreturn, 1) := by decide +kernel
theorem dX4_drawn_0 : decode cX4_drawn 0 = .ok (.aload_n 0, 1) := by decide +kernel
theorem dX4_drawn_1 : decode cX4_drawn 1 = .ok (.invokevirtual 130, 3) := by decide +kernel
theorem dX4_drawn_4 : decode cX4_drawn 4 = .ok (.ifCond .ne 6, 3) := by decide +kernel
theorem dX4_drawn_7 : decode cX4_drawn 7 = .ok (.ldc 129, 2) := by decide +kernel
theorem dX4_drawn_9 : decode cX4_drawn 9 = .ok (.ireturn, 1) := by decide +kernel
theorem dX4_drawn_10 : decode cX4_drawn 10 = .ok (.iload_n 1, 1) := by decide +kernel
theorem dX4_drawn_11 : decode cX4_drawn 11 = .ok (.iconst 0, 1) := by decide +kernel
theorem dX4_drawn_12 : decode cX4_drawn 12 = .ok (.bipush 60, 2) := by decide +kernel
theorem dX4_drawn_14 : decode cX4_drawn 14 = .ok (.invokestatic 52, 3) := by decide +kernel
theorem dX4_drawn_17 : decode cX4_drawn 17 = .ok (.ifCond .eq 21, 3) := by decide +kernel
theorem dX4_drawn_20 : decode cX4_drawn 20 = .ok (.iload_n 2, 1) := by decide +kernel
theorem dX4_drawn_21 : decode cX4_drawn 21 = .ok (.iconst 1, 1) := by decide +kernel
theorem dX4_drawn_22 : decode cX4_drawn 22 = .ok (.ldc_w 265, 3) := by decide +kernel
theorem dX4_drawn_25 : decode cX4_drawn 25 = .ok (.invokestatic 52, 3) := by decide +kernel
theorem dX4_drawn_28 : decode cX4_drawn 28 = .ok (.ifCond .eq 10, 3) := by decide +kernel
theorem dX4_drawn_31 : decode cX4_drawn 31 = .ok (.iload_n 3, 1) := by decide +kernel
theorem dX4_drawn_32 : decode cX4_drawn 32 = .ok (.invokestatic 162, 3) := by decide +kernel
theorem dX4_drawn_35 : decode cX4_drawn 35 = .ok (.ifCond .ne 6, 3) := by decide +kernel
theorem dX4_drawn_38 : decode cX4_drawn 38 = .ok (.ldc 56, 2) := by decide +kernel
theorem dX4_drawn_40 : decode cX4_drawn 40 = .ok (.ireturn, 1) := by decide +kernel
theorem dX4_drawn_41 : decode cX4_drawn 41 = .ok (.aload_n 0, 1) := by decide +kernel
theorem dX4_drawn_42 : decode cX4_drawn 42 = .ok (.getfield 41, 3) := by decide +kernel
theorem dX4_drawn_45 : decode cX4_drawn 45 = .ok (.aload_n 0, 1) := by decide +kernel
theorem dX4_drawn_46 : decode cX4_drawn 46 = .ok (.getfield 37, 3) := by decide +kernel
theorem dX4_drawn_49 : decode cX4_drawn 49 = .ok (.invokevirtual 115, 3) := by decide +kernel
theorem dX4_drawn_52 : decode cX4_drawn 52 = .ok (.iload_n 2, 1) := by decide +kernel
theorem dX4_drawn_53 : decode cX4_drawn 53 = .ok (.i2l, 1) := by decide +kernel
theorem dX4_drawn_54 : decode cX4_drawn 54 = .ok (.lstore 4, 2) := by decide +kernel
theorem dX4_drawn_56 : decode cX4_drawn 56 = .ok (.iconst 0, 1) := by decide +kernel
theorem dX4_drawn_57 : decode cX4_drawn 57 = .ok (.istore 6, 2) := by decide +kernel
theorem dX4_drawn_59 : decode cX4_drawn 59 = .ok (.iconst 0, 1) := by decide +kernel
theorem dX4_drawn_60 : decode cX4_drawn 60 = .ok (.istore 7, 2) := by decide +kernel
theorem dX4_drawn_62 : decode cX4_drawn 62 = .ok (.iload 7, 2) := by decide +kernel
theorem dX4_drawn_64 : decode cX4_drawn 64 = .ok (.iload_n 1, 1) := by decide +kernel
theorem dX4_drawn_65 : decode cX4_drawn 65 = .ok (.if_icmp .ge 43, 3) := by decide +kernel
theorem dX4_drawn_68 : decode cX4_drawn 68 = .ok (.lload 4, 2) := by decide +kernel
theorem dX4_drawn_70 : decode cX4_drawn 70 = .ok (.ldc2_w 266, 3) := by decide +kernel
theorem dX4_drawn_73 : decode cX4_drawn 73 = .ok (.lmul, 1) := by decide +kernel
theorem dX4_drawn_74 : decode cX4_drawn 74 = .ok (.ldc2_w 268, 3) := by decide +kernel
theorem dX4_drawn_77 : decode cX4_drawn 77 = .ok (.lrem, 1) := by decide +kernel
theorem dX4_drawn_78 : decode cX4_drawn 78 = .ok (.lstore 4, 2) := by decide +kernel
theorem dX4_drawn_80 : decode cX4_drawn 80 = .ok (.aload_n 0, 1) := by decide +kernel
theorem dX4_drawn_81 : decode cX4_drawn 81 = .ok (.getfield 41, 3) := by decide +kernel
theorem dX4_drawn_84 : decode cX4_drawn 84 = .ok (.lload 4, 2) := by decide +kernel
theorem dX4_drawn_86 : decode cX4_drawn 86 = .ok (.invokevirtual 270, 3) := by decide +kernel
theorem dX4_drawn_89 : decode cX4_drawn 89 = .ok (.aload_n 0, 1) := by decide +kernel
theorem dX4_drawn_90 : decode cX4_drawn 90 = .ok (.getfield 41, 3) := by decide +kernel
theorem dX4_drawn_93 : decode cX4_drawn 93 = .ok (.invokevirtual 140, 3) := by decide +kernel
theorem dX4_drawn_96 : decode cX4_drawn 96 = .ok (.ifCond .eq 6, 3) := by decide +kernel
theorem dX4_drawn_99 : decode cX4_drawn 99 = .ok (.iinc 6 1, 3) := by decide +kernel
theorem dX4_drawn_102 : decode cX4_drawn 102 = .ok (.iinc 7 1, 3) := by decide +kernel
theorem dX4_drawn_105 : decode cX4_drawn 105 = .ok (.goto (-43), 3) := by decide +kernel
theorem dX4_drawn_108 : decode cX4_drawn 108 = .ok (.iload_n 3, 1) := by decide +kernel
theorem dX4_drawn_109 : decode cX4_drawn 109 = .ok (.ifCond .ne 13, 3) := by decide +kernel
theorem dX4_drawn_112 : decode cX4_drawn 112 = .ok (.aload_n 0, 1) := by decide +kernel
theorem dX4_drawn_113 : decode cX4_drawn 113 = .ok (.getfield 41, 3) := by decide +kernel
theorem dX4_drawn_116 : decode cX4_drawn 116 = .ok (.invokevirtual 144, 3) := by decide +kernel
theorem dX4_drawn_119 : decode cX4_drawn 119 = .ok (.goto 5, 3) := by decide +kernel
theorem dX4_drawn_122 : decode cX4_drawn 122 = .ok (.iload 6, 2) := by decide +kernel
theorem dX4_drawn_124 : decode cX4_drawn 124 = .ok (.ireturn, 1) := by decide +kernel
theorem dX4_image_0 : decode cX4_image 0 = .ok (.iload_n 1, 1) := by decide +kernel
theorem dX4_image_1 : decode cX4_image 1 = .ok (.iconst 0, 1) := by decide +kernel
theorem dX4_image_2 : decode cX4_image 2 = .ok (.iconst 1, 1) := by decide +kernel
theorem dX4_image_3 : decode cX4_image 3 = .ok (.invokestatic 52, 3) := by decide +kernel
theorem dX4_image_6 : decode cX4_image 6 = .ok (.ifCond .ne 6, 3) := by decide +kernel
theorem dX4_image_9 : decode cX4_image 9 = .ok (.ldc 56, 2) := by decide +kernel
theorem dX4_image_11 : decode cX4_image 11 = .ok (.ireturn, 1) := by decide +kernel
theorem dX4_image_12 : decode cX4_image 12 = .ok (.aload_n 0, 1) := by decide +kernel
theorem dX4_image_13 : decode cX4_image 13 = .ok (.invokevirtual 130, 3) := by decide +kernel
theorem dX4_image_16 : decode cX4_image 16 = .ok (.ifCond .ne 6, 3) := by decide +kernel
theorem dX4_image_19 : decode cX4_image 19 = .ok (.ldc 129, 2) := by decide +kernel
theorem dX4_image_21 : decode cX4_image 21 = .ok (.ireturn, 1) := by decide +kernel
theorem dX4_image_22 : decode cX4_image 22 = .ok (.aload_n 0, 1) := by decide +kernel
theorem dX4_image_23 : decode cX4_image 23 = .ok (.getfield 18, 3) := by decide +kernel
theorem dX4_image_26 : decode cX4_image 26 = .ok (.iload_n 1, 1) := by decide +kernel
theorem dX4_image_27 : decode cX4_image 27 = .ok (.aaload, 1) := by decide +kernel
theorem dX4_image_28 : decode cX4_image 28 = .ok (.aload_n 0, 1) := by decide +kernel
theorem dX4_image_29 : decode cX4_image 29 = .ok (.getfield 37, 3) := by decide +kernel
theorem dX4_image_32 : decode cX4_image 32 = .ok (.invokevirtual 115, 3) := by decide +kernel
theorem dX4_image_35 : decode cX4_image 35 = .ok (.iconst 1, 1) := by decide +kernel
theorem dX4_image_36 : decode cX4_image 36 = .ok (.ireturn, 1) := by decide +kernel
theorem dX4_restore_0 : decode cX4_restore 0 = .ok (.iload_n 1, 1) := by decide +kernel
theorem dX4_restore_1 : decode cX4_restore 1 = .ok (.iconst 0, 1) := by decide +kernel
theorem dX4_restore_2 : decode cX4_restore 2 = .ok (.iconst 1, 1) := by decide +kernel
theorem dX4_restore_3 : decode cX4_restore 3 = .ok (.invokestatic 52, 3) := by decide +kernel
theorem dX4_restore_6 : decode cX4_restore 6 = .ok (.ifCond .ne 6, 3) := by decide +kernel
theorem dX4_restore_9 : decode cX4_restore 9 = .ok (.ldc 56, 2) := by decide +kernel
theorem dX4_restore_11 : decode cX4_restore 11 = .ok (.ireturn, 1) := by decide +kernel
theorem dX4_restore_12 : decode cX4_restore 12 = .ok (.aload_n 0, 1) := by decide +kernel
theorem dX4_restore_13 : decode cX4_restore 13 = .ok (.getfield 18, 3) := by decide +kernel
theorem dX4_restore_16 : decode cX4_restore 16 = .ok (.iload_n 1, 1) := by decide +kernel
theorem dX4_restore_17 : decode cX4_restore 17 = .ok (.aaload, 1) := by decide +kernel
theorem dX4_restore_18 : decode cX4_restore 18 = .ok (.getfield 200, 3) := by decide +kernel
theorem dX4_restore_21 : decode cX4_restore 21 = .ok (.ifCond .ne 6, 3) := by decide +kernel
theorem dX4_restore_24 : decode cX4_restore 24 = .ok (.ldc 129, 2) := by decide +kernel
theorem dX4_restore_26 : decode cX4_restore 26 = .ok (.ireturn, 1) := by decide +kernel
theorem dX4_restore_27 : decode cX4_restore 27 = .ok (.aload_n 0, 1) := by decide +kernel
theorem dX4_restore_28 : decode cX4_restore 28 = .ok (.getfield 37, 3) := by decide +kernel
theorem dX4_restore_31 : decode cX4_restore 31 = .ok (.aload_n 0, 1) := by decide +kernel
theorem dX4_restore_32 : decode cX4_restore 32 = .ok (.getfield 18, 3) := by decide +kernel
theorem dX4_restore_35 : decode cX4_restore 35 = .ok (.iload_n 1, 1) := by decide +kernel
theorem dX4_restore_36 : decode cX4_restore 36 = .ok (.aaload, 1) := by decide +kernel
theorem dX4_restore_37 : decode cX4_restore 37 = .ok (.invokevirtual 115, 3) := by decide +kernel
theorem dX4_restore_40 : decode cX4_restore 40 = .ok (.aload_n 0, 1) := by decide +kernel
theorem dX4_restore_41 : decode cX4_restore 41 = .ok (.getfield 33, 3) := by decide +kernel
theorem dX4_restore_44 : decode cX4_restore 44 = .ok (.invokevirtual 119, 3) := by decide +kernel
theorem dX4_restore_47 : decode cX4_restore 47 = .ok (.iconst 1, 1) := by decide +kernel
theorem dX4_restore_48 : decode cX4_restore 48 = .ok (.ireturn, 1) := by decide +kernel
theorem dX4_kind_0 : decode cX4_kind 0 = .ok (.aload_n 0, 1) := by decide +kernel
theorem dX4_kind_1 : decode cX4_kind 1 = .ok (.iload_n 1, 1) := by decide +kernel
theorem dX4_kind_2 : decode cX4_kind 2 = .ok (.invokevirtual 147, 3) := by decide +kernel
theorem dX4_kind_5 : decode cX4_kind 5 = .ok (.ifCond .eq 15, 3) := by decide +kernel
theorem dX4_kind_8 : decode cX4_kind 8 = .ok (.aload_n 0, 1) := by decide +kernel
theorem dX4_kind_9 : decode cX4_kind 9 = .ok (.getfield 37, 3) := by decide +kernel
theorem dX4_kind_12 : decode cX4_kind 12 = .ok (.getfield 274, 3) := by decide +kernel
theorem dX4_kind_15 : decode cX4_kind 15 = .ok (.iload_n 1, 1) := by decide +kernel
theorem dX4_kind_16 : decode cX4_kind 16 = .ok (.iaload, 1) := by decide +kernel
theorem dX4_kind_17 : decode cX4_kind 17 = .ok (.goto 5, 3) := by decide +kernel
theorem dX4_kind_20 : decode cX4_kind 20 = .ok (.ldc 56, 2) := by decide +kernel
theorem dX4_kind_22 : decode cX4_kind 22 = .ok (.ireturn, 1) := by decide +kernel
theorem dX4_as_0 : decode cX4_as 0 = .ok (.aload_n 0, 1) := by decide +kernel
theorem dX4_as_1 : decode cX4_as 1 = .ok (.iload_n 1, 1) := by decide +kernel
theorem dX4_as_2 : decode cX4_as 2 = .ok (.invokevirtual 147, 3) := by decide +kernel
theorem dX4_as_5 : decode cX4_as 5 = .ok (.ifCond .eq 12, 3) := by decide +kernel
theorem dX4_as_8 : decode cX4_as 8 = .ok (.iload_n 2, 1) := by decide +kernel
theorem dX4_as_9 : decode cX4_as 9 = .ok (.iconst 0, 1) := by decide +kernel
theorem dX4_as_10 : decode cX4_as 10 = .ok (.iconst 5, 1) := by decide +kernel
theorem dX4_as_11 : decode cX4_as 11 = .ok (.invokestatic 52, 3) := by decide +kernel
theorem dX4_as_14 : decode cX4_as 14 = .ok (.ifCond .ne 6, 3) := by decide +kernel
theorem dX4_as_17 : decode cX4_as 17 = .ok (.ldc 56, 2) := by decide +kernel
theorem dX4_as_19 : decode cX4_as 19 = .ok (.ireturn, 1) := by decide +kernel
theorem dX4_as_20 : decode cX4_as 20 = .ok (.aload_n 0, 1) := by decide +kernel
theorem dX4_as_21 : decode cX4_as 21 = .ok (.getfield 37, 3) := by decide +kernel
theorem dX4_as_24 : decode cX4_as 24 = .ok (.getfield 274, 3) := by decide +kernel
theorem dX4_as_27 : decode cX4_as 27 = .ok (.iload_n 1, 1) := by decide +kernel
theorem dX4_as_28 : decode cX4_as 28 = .ok (.iaload, 1) := by decide +kernel
theorem dX4_as_29 : decode cX4_as 29 = .ok (.istore_n 3, 1) := by decide +kernel
theorem dX4_as_30 : decode cX4_as 30 = .ok (.iconst 0, 1) := by decide +kernel
theorem dX4_as_31 : decode cX4_as 31 = .ok (.istore 4, 2) := by decide +kernel
theorem dX4_as_33 : decode cX4_as 33 = .ok (.iload 4, 2) := by decide +kernel
theorem dX4_as_35 : decode cX4_as 35 = .ok (.iconst 5, 1) := by decide +kernel
theorem dX4_as_36 : decode cX4_as 36 = .ok (.if_icmp .gt 20, 3) := by decide +kernel
theorem dX4_as_39 : decode cX4_as 39 = .ok (.iload_n 3, 1) := by decide +kernel
theorem dX4_as_40 : decode cX4_as 40 = .ok (.iload_n 2, 1) := by decide +kernel
theorem dX4_as_41 : decode cX4_as 41 = .ok (.if_icmp .le 15, 3) := by decide +kernel
theorem dX4_as_44 : decode cX4_as 44 = .ok (.getstatic 277, 3) := by decide +kernel
theorem dX4_as_47 : decode cX4_as 47 = .ok (.iload_n 3, 1) := by decide +kernel
theorem dX4_as_48 : decode cX4_as 48 = .ok (.iaload, 1) := by decide +kernel
theorem dX4_as_49 : decode cX4_as 49 = .ok (.istore_n 3, 1) := by decide +kernel
theorem dX4_as_50 : decode cX4_as 50 = .ok (.iinc 4 1, 3) := by decide +kernel
theorem dX4_as_53 : decode cX4_as 53 = .ok (.goto (-20), 3) := by decide +kernel
theorem dX4_as_56 : decode cX4_as 56 = .ok (.iload_n 3, 1) := by decide +kernel
theorem dX4_as_57 : decode cX4_as 57 = .ok (.iload_n 2, 1) := by decide +kernel
theorem dX4_as_58 : decode cX4_as 58 = .ok (.if_icmp .ne 11, 3) := by decide +kernel
theorem dX4_as_61 : decode cX4_as 61 = .ok (.aload_n 0, 1) := by decide +kernel
theorem dX4_as_62 : decode cX4_as 62 = .ok (.iload_n 1, 1) := by decide +kernel
theorem dX4_as_63 : decode cX4_as 63 = .ok (.invokevirtual 65, 3) := by decide +kernel
theorem dX4_as_66 : decode cX4_as 66 = .ok (.goto 8, 3) := by decide +kernel
theorem dX4_as_69 : decode cX4_as 69 = .ok (.aload_n 0, 1) := by decide +kernel
theorem dX4_as_70 : decode cX4_as 70 = .ok (.iconst 3, 1) := by decide +kernel
theorem dX4_as_71 : decode cX4_as 71 = .ok (.invokevirtual 57, 3) := by decide +kernel
theorem dX4_as_74 : decode cX4_as 74 = .ok (.ireturn, 1) := by decide +kernel
theorem dX4_ask_0 : decode cX4_ask 0 = .ok (.aload_n 0, 1) := by decide +kernel
theorem dX4_ask_1 : decode cX4_ask 1 = .ok (.iload_n 1, 1) := by decide +kernel
theorem dX4_ask_2 : decode cX4_ask 2 = .ok (.invokevirtual 147, 3) := by decide +kernel
theorem dX4_ask_5 : decode cX4_ask 5 = .ok (.ifCond .eq 10, 3) := by decide +kernel
theorem dX4_ask_8 : decode cX4_ask 8 = .ok (.iload_n 2, 1) := by decide +kernel
theorem dX4_ask_9 : decode cX4_ask 9 = .ok (.invokestatic 162, 3) := by decide +kernel
theorem dX4_ask_12 : decode cX4_ask 12 = .ok (.ifCond .ne 6, 3) := by decide +kernel
theorem dX4_ask_15 : decode cX4_ask 15 = .ok (.ldc 56, 2) := by decide +kernel
theorem dX4_ask_17 : decode cX4_ask 17 = .ok (.ireturn, 1) := by decide +kernel
theorem dX4_ask_18 : decode cX4_ask 18 = .ok (.aload_n 0, 1) := by decide +kernel
theorem dX4_ask_19 : decode cX4_ask 19 = .ok (.iconst 0, 1) := by decide +kernel
theorem dX4_ask_20 : decode cX4_ask 20 = .ok (.putfield 280, 3) := by decide +kernel
theorem dX4_ask_23 : decode cX4_ask 23 = .ok (.aload_n 0, 1) := by decide +kernel
theorem dX4_ask_24 : decode cX4_ask 24 = .ok (.iload_n 2, 1) := by decide +kernel
theorem dX4_ask_25 : decode cX4_ask 25 = .ok (.ifCond .ne 11, 3) := by decide +kernel
theorem dX4_ask_28 : decode cX4_ask 28 = .ok (.aload_n 0, 1) := by decide +kernel
theorem dX4_ask_29 : decode cX4_ask 29 = .ok (.iload_n 1, 1) := by decide +kernel
theorem dX4_ask_30 : decode cX4_ask 30 = .ok (.invokevirtual 283, 3) := by decide +kernel
theorem dX4_ask_33 : decode cX4_ask 33 = .ok (.goto 8, 3) := by decide +kernel
theorem dX4_ask_36 : decode cX4_ask 36 = .ok (.aload_n 0, 1) := by decide +kernel
theorem dX4_ask_37 : decode cX4_ask 37 = .ok (.iload_n 1, 1) := by decide +kernel
theorem dX4_ask_38 : decode cX4_ask 38 = .ok (.invokevirtual 286, 3) := by decide +kernel
theorem dX4_ask_41 : decode cX4_ask 41 = .ok (.iload_n 1, 1) := by decide +kernel
theorem dX4_ask_42 : decode cX4_ask 42 = .ok (.iconst 0, 1) := by decide +kernel
theorem dX4_ask_43 : decode cX4_ask 43 = .ok (.invokevirtual 289, 3) := by decide +kernel
theorem dX4_ask_46 : decode cX4_ask 46 = .ok (.ireturn, 1) := by decide +kernel
theorem dX4_trace_0 : decode cX4_trace 0 = .ok (.iload_n 1, 1) := by decide +kernel
theorem dX4_trace_1 : decode cX4_trace 1 = .ok (.iconst 0, 1) := by decide +kernel
theorem dX4_trace_2 : decode cX4_trace 2 = .ok (.aload_n 0, 1) := by decide +kernel
theorem dX4_trace_3 : decode cX4_trace 3 = .ok (.getfield 280, 3) := by decide +kernel
theorem dX4_trace_6 : decode cX4_trace 6 = .ok (.iconst 1, 1) := by decide +kernel
theorem dX4_trace_7 : decode cX4_trace 7 = .ok (.isub, 1) := by decide +kernel
theorem dX4_trace_8 : decode cX4_trace 8 = .ok (.invokestatic 52, 3) := by decide +kernel
theorem dX4_trace_11 : decode cX4_trace 11 = .ok (.ifCond .eq 12, 3) := by decide +kernel
theorem dX4_trace_14 : decode cX4_trace 14 = .ok (.aload_n 0, 1) := by decide +kernel
theorem dX4_trace_15 : decode cX4_trace 15 = .ok (.getfield 44, 3) := by decide +kernel
theorem dX4_trace_18 : decode cX4_trace 18 = .ok (.iload_n 1, 1) := by decide +kernel
theorem dX4_trace_19 : decode cX4_trace 19 = .ok (.iaload, 1) := by decide +kernel
theorem dX4_trace_20 : decode cX4_trace 20 = .ok (.goto 5, 3) := by decide +kernel
theorem dX4_trace_23 : decode cX4_trace 23 = .ok (.ldc 199, 2) := by decide +kernel
theorem dX4_trace_25 : decode cX4_trace 25 = .ok (.ireturn, 1) := by decide +kernel
theorem dX4_count_0 : decode cX4_count 0 = .ok (.iload_n 1, 1) := by decide +kernel
theorem dX4_count_1 : decode cX4_count 1 = .ok (.tableswitch 108 0 7 #[47, 52, 60, 68, 76, 84, 92, 100], 47) := by decide +kernel
theorem dX4_count_48 : decode cX4_count 48 = .ok (.aload_n 0, 1) := by decide +kernel
theorem dX4_count_49 : decode cX4_count 49 = .ok (.invokevirtual 293, 3) := by decide +kernel
theorem dX4_count_52 : decode cX4_count 52 = .ok (.ireturn, 1) := by decide +kernel
theorem dX4_count_53 : decode cX4_count 53 = .ok (.aload_n 0, 1) := by decide +kernel
theorem dX4_count_54 : decode cX4_count 54 = .ok (.getfield 37, 3) := by decide +kernel
theorem dX4_count_57 : decode cX4_count 57 = .ok (.getfield 200, 3) := by decide +kernel
theorem dX4_count_60 : decode cX4_count 60 = .ok (.ireturn, 1) := by decide +kernel
theorem dX4_count_61 : decode cX4_count 61 = .ok (.aload_n 0, 1) := by decide +kernel
theorem dX4_count_62 : decode cX4_count 62 = .ok (.getfield 37, 3) := by decide +kernel
theorem dX4_count_65 : decode cX4_count 65 = .ok (.getfield 122, 3) := by decide +kernel
theorem dX4_count_68 : decode cX4_count 68 = .ok (.ireturn, 1) := by decide +kernel
theorem dX4_count_69 : decode cX4_count 69 = .ok (.aload_n 0, 1) := by decide +kernel
theorem dX4_count_70 : decode cX4_count 70 = .ok (.getfield 37, 3) := by decide +kernel
theorem dX4_count_73 : decode cX4_count 73 = .ok (.getfield 134, 3) := by decide +kernel
theorem dX4_count_76 : decode cX4_count 76 = .ok (.ireturn, 1) := by decide +kernel
theorem dX4_count_77 : decode cX4_count 77 = .ok (.aload_n 0, 1) := by decide +kernel
theorem dX4_count_78 : decode cX4_count 78 = .ok (.getfield 37, 3) := by decide +kernel
theorem dX4_count_81 : decode cX4_count 81 = .ok (.invokevirtual 144, 3) := by decide +kernel
theorem dX4_count_84 : decode cX4_count 84 = .ok (.ireturn, 1) := by decide +kernel
theorem dX4_count_85 : decode cX4_count 85 = .ok (.aload_n 0, 1) := by decide +kernel
theorem dX4_count_86 : decode cX4_count 86 = .ok (.getfield 37, 3) := by decide +kernel
theorem dX4_count_89 : decode cX4_count 89 = .ok (.getfield 165, 3) := by decide +kernel
theorem dX4_count_92 : decode cX4_count 92 = .ok (.ireturn, 1) := by decide +kernel
theorem dX4_count_93 : decode cX4_count 93 = .ok (.aload_n 0, 1) := by decide +kernel
theorem dX4_count_94 : decode cX4_count 94 = .ok (.getfield 33, 3) := by decide +kernel
theorem dX4_count_97 : decode cX4_count 97 = .ok (.getfield 128, 3) := by decide +kernel
theorem dX4_count_100 : decode cX4_count 100 = .ok (.ireturn, 1) := by decide +kernel
theorem dX4_count_101 : decode cX4_count 101 = .ok (.aload_n 0, 1) := by decide +kernel
theorem dX4_count_102 : decode cX4_count 102 = .ok (.getfield 26, 3) := by decide +kernel
theorem dX4_count_105 : decode cX4_count 105 = .ok (.getfield 99, 3) := by decide +kernel
theorem dX4_count_108 : decode cX4_count 108 = .ok (.ireturn, 1) := by decide +kernel
theorem dX4_count_109 : decode cX4_count 109 = .ok (.ldc 56, 2) := by decide +kernel
theorem dX4_count_111 : decode cX4_count 111 = .ok (.ireturn, 1) := by decide +kernel
theorem dX4_status_0 : decode cX4_status 0 = .ok (.aload_n 0, 1) := by decide +kernel
theorem dX4_status_1 : decode cX4_status 1 = .ok (.getfield 296, 3) := by decide +kernel
theorem dX4_status_4 : decode cX4_status 4 = .ok (.ireturn, 1) := by decide +kernel
theorem dX4_within_0 : decode cX4_within 0 = .ok (.iload_n 0, 1) := by decide +kernel
theorem dX4_within_1 : decode cX4_within 1 = .ok (.iload_n 1, 1) := by decide +kernel
theorem dX4_within_2 : decode cX4_within 2 = .ok (.if_icmp .lt 12, 3) := by decide +kernel
theorem dX4_within_5 : decode cX4_within 5 = .ok (.iload_n 0, 1) := by decide +kernel
theorem dX4_within_6 : decode cX4_within 6 = .ok (.iload_n 2, 1) := by decide +kernel
theorem dX4_within_7 : decode cX4_within 7 = .ok (.if_icmp .gt 7, 3) := by decide +kernel
theorem dX4_within_10 : decode cX4_within 10 = .ok (.iconst 1, 1) := by decide +kernel
theorem dX4_within_11 : decode cX4_within 11 = .ok (.goto 4, 3) := by decide +kernel
theorem dX4_within_14 : decode cX4_within 14 = .ok (.iconst 0, 1) := by decide +kernel
theorem dX4_within_15 : decode cX4_within 15 = .ok (.ireturn, 1) := by decide +kernel
theorem dX4_isBit_0 : decode cX4_isBit 0 = .ok (.iload_n 0, 1) := by decide +kernel
theorem dX4_isBit_1 : decode cX4_isBit 1 = .ok (.ifCond .eq 8, 3) := by decide +kernel
theorem dX4_isBit_4 : decode cX4_isBit 4 = .ok (.iload_n 0, 1) := by decide +kernel
theorem dX4_isBit_5 : decode cX4_isBit 5 = .ok (.iconst 1, 1) := by decide +kernel
theorem dX4_isBit_6 : decode cX4_isBit 6 = .ok (.if_icmp .ne 7, 3) := by decide +kernel
theorem dX4_isBit_9 : decode cX4_isBit 9 = .ok (.iconst 1, 1) := by decide +kernel
theorem dX4_isBit_10 : decode cX4_isBit 10 = .ok (.goto 4, 3) := by decide +kernel
theorem dX4_isBit_13 : decode cX4_isBit 13 = .ok (.iconst 0, 1) := by decide +kernel
theorem dX4_isBit_14 : decode cX4_isBit 14 = .ok (.ireturn, 1) := by decide +kernel
theorem dX4_bit_0 : decode cX4_bit 0 = .ok (.iload_n 0, 1) := by decide +kernel
theorem dX4_bit_1 : decode cX4_bit 1 = .ok (.iload_n 1, 1) := by decide +kernel
theorem dX4_bit_2 : decode cX4_bit 2 = .ok (.ishr, 1) := by decide +kernel
theorem dX4_bit_3 : decode cX4_bit 3 = .ok (.iconst 1, 1) := by decide +kernel
theorem dX4_bit_4 : decode cX4_bit 4 = .ok (.iand, 1) := by decide +kernel
theorem dX4_bit_5 : decode cX4_bit 5 = .ok (.ireturn, 1) := by decide +kernel
theorem dX4_isRow_0 : decode cX4_isRow 0 = .ok (.iload_n 1, 1) := by decide +kernel
theorem dX4_isRow_1 : decode cX4_isRow 1 = .ok (.iconst 0, 1) := by decide +kernel
theorem dX4_isRow_2 : decode cX4_isRow 2 = .ok (.bipush 7, 2) := by decide +kernel
theorem dX4_isRow_4 : decode cX4_isRow 4 = .ok (.invokestatic 52, 3) := by decide +kernel
theorem dX4_isRow_7 : decode cX4_isRow 7 = .ok (.ireturn, 1) := by decide +kernel
theorem dX4_isMan_0 : decode cX4_isMan 0 = .ok (.iload_n 1, 1) := by decide +kernel
theorem dX4_isMan_1 : decode cX4_isMan 1 = .ok (.iconst 0, 1) := by decide +kernel
theorem dX4_isMan_2 : decode cX4_isMan 2 = .ok (.aload_n 0, 1) := by decide +kernel
theorem dX4_isMan_3 : decode cX4_isMan 3 = .ok (.getfield 37, 3) := by decide +kernel
theorem dX4_isMan_6 : decode cX4_isMan 6 = .ok (.getfield 200, 3) := by decide +kernel
theorem dX4_isMan_9 : decode cX4_isMan 9 = .ok (.iconst 1, 1) := by decide +kernel
theorem dX4_isMan_10 : decode cX4_isMan 10 = .ok (.isub, 1) := by decide +kernel
theorem dX4_isMan_11 : decode cX4_isMan 11 = .ok (.invokestatic 52, 3) := by decide +kernel
theorem dX4_isMan_14 : decode cX4_isMan 14 = .ok (.ireturn, 1) := by decide +kernel
theorem dX4_isLeaver_0 : decode cX4_isLeaver 0 = .ok (.iload_n 1, 1) := by decide +kernel
theorem dX4_isLeaver_1 : decode cX4_isLeaver 1 = .ok (.iconst 0, 1) := by decide +kernel
theorem dX4_isLeaver_2 : decode cX4_isLeaver 2 = .ok (.aload_n 0, 1) := by decide +kernel
theorem dX4_isLeaver_3 : decode cX4_isLeaver 3 = .ok (.getfield 37, 3) := by decide +kernel
theorem dX4_isLeaver_6 : decode cX4_isLeaver 6 = .ok (.getfield 122, 3) := by decide +kernel
theorem dX4_isLeaver_9 : decode cX4_isLeaver 9 = .ok (.iconst 1, 1) := by decide +kernel
theorem dX4_isLeaver_10 : decode cX4_isLeaver 10 = .ok (.isub, 1) := by decide +kernel
theorem dX4_isLeaver_11 : decode cX4_isLeaver 11 = .ok (.invokestatic 52, 3) := by decide +kernel
theorem dX4_isLeaver_14 : decode cX4_isLeaver 14 = .ok (.ireturn, 1) := by decide +kernel
theorem dX4_hasTown_0 : decode cX4_hasTown 0 = .ok (.aload_n 0, 1) := by decide +kernel
theorem dX4_hasTown_1 : decode cX4_hasTown 1 = .ok (.getfield 37, 3) := by decide +kernel
theorem dX4_hasTown_4 : decode cX4_hasTown 4 = .ok (.getfield 200, 3) := by decide +kernel
theorem dX4_hasTown_7 : decode cX4_hasTown 7 = .ok (.ifCond .le 7, 3) := by decide +kernel
theorem dX4_hasTown_10 : decode cX4_hasTown 10 = .ok (.iconst 1, 1) := by decide +kernel
theorem dX4_hasTown_11 : decode cX4_hasTown 11 = .ok (.goto 4, 3) := by decide +kernel
theorem dX4_hasTown_14 : decode cX4_hasTown 14 = .ok (.iconst 0, 1) := by decide +kernel
theorem dX4_hasTown_15 : decode cX4_hasTown 15 = .ok (.ireturn, 1) := by decide +kernel
theorem dX4_found_0 : decode cX4_found 0 = .ok (.aload_n 0, 1) := by decide +kernel
theorem dX4_found_1 : decode cX4_found 1 = .ok (.iload_n 1, 1) := by decide +kernel
theorem dX4_found_2 : decode cX4_found 2 = .ok (.putfield 296, 3) := by decide +kernel
theorem dX4_found_5 : decode cX4_found 5 = .ok (.ldc_w 299, 3) := by decide +kernel
theorem dX4_found_8 : decode cX4_found 8 = .ok (.iload_n 1, 1) := by decide +kernel
theorem dX4_found_9 : decode cX4_found 9 = .ok (.isub, 1) := by decide +kernel
theorem dX4_found_10 : decode cX4_found 10 = .ok (.ireturn, 1) := by decide +kernel
theorem dX4_unfound_0 : decode cX4_unfound 0 = .ok (.aload_n 0, 1) := by decide +kernel
theorem dX4_unfound_1 : decode cX4_unfound 1 = .ok (.iconst 0, 1) := by decide +kernel
theorem dX4_unfound_2 : decode cX4_unfound 2 = .ok (.putfield 296, 3) := by decide +kernel
theorem dX4_unfound_5 : decode cX4_unfound 5 = .ok (.iload_n 1, 1) := by decide +kernel
theorem dX4_unfound_6 : decode cX4_unfound 6 = .ok (.ireturn, 1) := by decide +kernel
theorem dX4_rowsThere_0 : decode cX4_rowsThere 0 = .ok (.iconst 0, 1) := by decide +kernel
theorem dX4_rowsThere_1 : decode cX4_rowsThere 1 = .ok (.istore_n 1, 1) := by decide +kernel
theorem dX4_rowsThere_2 : decode cX4_rowsThere 2 = .ok (.iconst 0, 1) := by decide +kernel
theorem dX4_rowsThere_3 : decode cX4_rowsThere 3 = .ok (.istore_n 2, 1) := by decide +kernel
theorem dX4_rowsThere_4 : decode cX4_rowsThere 4 = .ok (.iload_n 2, 1) := by decide +kernel
theorem dX4_rowsThere_5 : decode cX4_rowsThere 5 = .ok (.bipush 8, 2) := by decide +kernel
theorem dX4_rowsThere_7 : decode cX4_rowsThere 7 = .ok (.if_icmp .ge 24, 3) := by decide +kernel
theorem dX4_rowsThere_10 : decode cX4_rowsThere 10 = .ok (.aload_n 0, 1) := by decide +kernel
theorem dX4_rowsThere_11 : decode cX4_rowsThere 11 = .ok (.getfield 11, 3) := by decide +kernel
theorem dX4_rowsThere_14 : decode cX4_rowsThere 14 = .ok (.iload_n 2, 1) := by decide +kernel
theorem dX4_rowsThere_15 : decode cX4_rowsThere 15 = .ok (.aaload, 1) := by decide +kernel
theorem dX4_rowsThere_16 : decode cX4_rowsThere 16 = .ok (.getfield 68, 3) := by decide +kernel
theorem dX4_rowsThere_19 : decode cX4_rowsThere 19 = .ok (.ifCond .eq 6, 3) := by decide +kernel
theorem dX4_rowsThere_22 : decode cX4_rowsThere 22 = .ok (.iinc 1 1, 3) := by decide +kernel
theorem dX4_rowsThere_25 : decode cX4_rowsThere 25 = .ok (.iinc 2 1, 3) := by decide +kernel
theorem dX4_rowsThere_28 : decode cX4_rowsThere 28 = .ok (.goto (-24), 3) := by decide +kernel
theorem dX4_rowsThere_31 : decode cX4_rowsThere 31 = .ok (.iload_n 1, 1) := by decide +kernel
theorem dX4_rowsThere_32 : decode cX4_rowsThere 32 = .ok (.ireturn, 1) := by decide +kernel
theorem dX4_refusalOfTold_0 : decode cX4_refusalOfTold 0 = .ok (.aload_n 0, 1) := by decide +kernel
theorem dX4_refusalOfTold_1 : decode cX4_refusalOfTold 1 = .ok (.iload_n 1, 1) := by decide +kernel
theorem dX4_refusalOfTold_2 : decode cX4_refusalOfTold 2 = .ok (.invokevirtual 150, 3) := by decide +kernel
theorem dX4_refusalOfTold_5 : decode cX4_refusalOfTold 5 = .ok (.ifCond .eq 22, 3) := by decide +kernel
theorem dX4_refusalOfTold_8 : decode cX4_refusalOfTold 8 = .ok (.aload_n 0, 1) := by decide +kernel
theorem dX4_refusalOfTold_9 : decode cX4_refusalOfTold 9 = .ok (.iload_n 2, 1) := by decide +kernel
theorem dX4_refusalOfTold_10 : decode cX4_refusalOfTold 10 = .ok (.invokevirtual 48, 3) := by decide +kernel
theorem dX4_refusalOfTold_13 : decode cX4_refusalOfTold 13 = .ok (.ifCond .eq 14, 3) := by decide +kernel
theorem dX4_refusalOfTold_16 : decode cX4_refusalOfTold 16 = .ok (.iload 4, 2) := by decide +kernel
theorem dX4_refusalOfTold_18 : decode cX4_refusalOfTold 18 = .ok (.iconst 1, 1) := by decide +kernel
theorem dX4_refusalOfTold_19 : decode cX4_refusalOfTold 19 = .ok (.bipush 12, 2) := by decide +kernel
theorem dX4_refusalOfTold_21 : decode cX4_refusalOfTold 21 = .ok (.invokestatic 52, 3) := by decide +kernel
theorem dX4_refusalOfTold_24 : decode cX4_refusalOfTold 24 = .ok (.ifCond .ne 6, 3) := by decide +kernel
theorem dX4_refusalOfTold_27 : decode cX4_refusalOfTold 27 = .ok (.ldc 56, 2) := by decide +kernel
theorem dX4_refusalOfTold_29 : decode cX4_refusalOfTold 29 = .ok (.ireturn, 1) := by decide +kernel
theorem dX4_refusalOfTold_30 : decode cX4_refusalOfTold 30 = .ok (.aload_n 0, 1) := by decide +kernel
theorem dX4_refusalOfTold_31 : decode cX4_refusalOfTold 31 = .ok (.getfield 11, 3) := by decide +kernel
theorem dX4_refusalOfTold_34 : decode cX4_refusalOfTold 34 = .ok (.iload_n 2, 1) := by decide +kernel
theorem dX4_refusalOfTold_35 : decode cX4_refusalOfTold 35 = .ok (.aaload, 1) := by decide +kernel
theorem dX4_refusalOfTold_36 : decode cX4_refusalOfTold 36 = .ok (.getfield 68, 3) := by decide +kernel
theorem dX4_refusalOfTold_39 : decode cX4_refusalOfTold 39 = .ok (.ifCond .ne 9, 3) := by decide +kernel
theorem dX4_refusalOfTold_42 : decode cX4_refusalOfTold 42 = .ok (.aload_n 0, 1) := by decide +kernel
theorem dX4_refusalOfTold_43 : decode cX4_refusalOfTold 43 = .ok (.iconst 1, 1) := by decide +kernel
theorem dX4_refusalOfTold_44 : decode cX4_refusalOfTold 44 = .ok (.invokevirtual 57, 3) := by decide +kernel
theorem dX4_refusalOfTold_47 : decode cX4_refusalOfTold 47 = .ok (.ireturn, 1) := by decide +kernel
theorem dX4_refusalOfTold_48 : decode cX4_refusalOfTold 48 = .ok (.aload_n 0, 1) := by decide +kernel
theorem dX4_refusalOfTold_49 : decode cX4_refusalOfTold 49 = .ok (.getfield 11, 3) := by decide +kernel
theorem dX4_refusalOfTold_52 : decode cX4_refusalOfTold 52 = .ok (.iload_n 2, 1) := by decide +kernel
theorem dX4_refusalOfTold_53 : decode cX4_refusalOfTold 53 = .ok (.aaload, 1) := by decide +kernel
theorem dX4_refusalOfTold_54 : decode cX4_refusalOfTold 54 = .ok (.iload_n 3, 1) := by decide +kernel
theorem dX4_refusalOfTold_55 : decode cX4_refusalOfTold 55 = .ok (.iload 4, 2) := by decide +kernel
theorem dX4_refusalOfTold_57 : decode cX4_refusalOfTold 57 = .ok (.invokevirtual 72, 3) := by decide +kernel
theorem dX4_refusalOfTold_60 : decode cX4_refusalOfTold 60 = .ok (.ifCond .ne 9, 3) := by decide +kernel
theorem dX4_refusalOfTold_63 : decode cX4_refusalOfTold 63 = .ok (.aload_n 0, 1) := by decide +kernel
theorem dX4_refusalOfTold_64 : decode cX4_refusalOfTold 64 = .ok (.iconst 2, 1) := by decide +kernel
theorem dX4_refusalOfTold_65 : decode cX4_refusalOfTold 65 = .ok (.invokevirtual 57, 3) := by decide +kernel
theorem dX4_refusalOfTold_68 : decode cX4_refusalOfTold 68 = .ok (.ireturn, 1) := by decide +kernel
theorem dX4_refusalOfTold_69 : decode cX4_refusalOfTold 69 = .ok (.aload_n 0, 1) := by decide +kernel
theorem dX4_refusalOfTold_70 : decode cX4_refusalOfTold 70 = .ok (.iconst 0, 1) := by decide +kernel
theorem dX4_refusalOfTold_71 : decode cX4_refusalOfTold 71 = .ok (.invokevirtual 65, 3) := by decide +kernel
theorem dX4_refusalOfTold_74 : decode cX4_refusalOfTold 74 = .ok (.ireturn, 1) := by decide +kernel
theorem dX4_fitting_0 : decode cX4_fitting 0 = .ok (.aload_n 0, 1) := by decide +kernel
theorem dX4_fitting_1 : decode cX4_fitting 1 = .ok (.iload_n 2, 1) := by decide +kernel
theorem dX4_fitting_2 : decode cX4_fitting 2 = .ok (.invokevirtual 147, 3) := by decide +kernel
theorem dX4_fitting_5 : decode cX4_fitting 5 = .ok (.ifCond .ne 6, 3) := by decide +kernel
theorem dX4_fitting_8 : decode cX4_fitting 8 = .ok (.ldc 56, 2) := by decide +kernel
theorem dX4_fitting_10 : decode cX4_fitting 10 = .ok (.ireturn, 1) := by decide +kernel
theorem dX4_fitting_11 : decode cX4_fitting 11 = .ok (.aload_n 0, 1) := by decide +kernel
theorem dX4_fitting_12 : decode cX4_fitting 12 = .ok (.iload_n 3, 1) := by decide +kernel
theorem dX4_fitting_13 : decode cX4_fitting 13 = .ok (.iload 4, 2) := by decide +kernel
theorem dX4_fitting_15 : decode cX4_fitting 15 = .ok (.iload 5, 2) := by decide +kernel
theorem dX4_fitting_17 : decode cX4_fitting 17 = .ok (.iload 6, 2) := by decide +kernel
theorem dX4_fitting_19 : decode cX4_fitting 19 = .ok (.invokevirtual 219, 3) := by decide +kernel
theorem dX4_fitting_22 : decode cX4_fitting 22 = .ok (.istore 7, 2) := by decide +kernel
theorem dX4_fitting_24 : decode cX4_fitting 24 = .ok (.iload 7, 2) := by decide +kernel
theorem dX4_fitting_26 : decode cX4_fitting 26 = .ok (.ifCond .eq 6, 3) := by decide +kernel
theorem dX4_fitting_29 : decode cX4_fitting 29 = .ok (.iload 7, 2) := by decide +kernel
theorem dX4_fitting_31 : decode cX4_fitting 31 = .ok (.ireturn, 1) := by decide +kernel
theorem dX4_fitting_32 : decode cX4_fitting 32 = .ok (.iload_n 1, 1) := by decide +kernel
theorem dX4_fitting_33 : decode cX4_fitting 33 = .ok (.iconst 1, 1) := by decide +kernel
theorem dX4_fitting_34 : decode cX4_fitting 34 = .ok (.if_icmp .ne 7, 3) := by decide +kernel
theorem dX4_fitting_37 : decode cX4_fitting 37 = .ok (.iconst 0, 1) := by decide +kernel
theorem dX4_fitting_38 : decode cX4_fitting 38 = .ok (.goto 4, 3) := by decide +kernel
theorem dX4_fitting_41 : decode cX4_fitting 41 = .ok (.iconst 1, 1) := by decide +kernel
theorem dX4_fitting_42 : decode cX4_fitting 42 = .ok (.istore 8, 2) := by decide +kernel
theorem dX4_fitting_44 : decode cX4_fitting 44 = .ok (.iload_n 1, 1) := by decide +kernel
theorem dX4_fitting_45 : decode cX4_fitting 45 = .ok (.ifCond .ne 7, 3) := by decide +kernel
theorem dX4_fitting_48 : decode cX4_fitting 48 = .ok (.iconst 5, 1) := by decide +kernel
theorem dX4_fitting_49 : decode cX4_fitting 49 = .ok (.goto 22, 3) := by decide +kernel
theorem dX4_fitting_52 : decode cX4_fitting 52 = .ok (.iload_n 1, 1) := by decide +kernel
theorem dX4_fitting_53 : decode cX4_fitting 53 = .ok (.iconst 1, 1) := by decide +kernel
theorem dX4_fitting_54 : decode cX4_fitting 54 = .ok (.if_icmp .ne 15, 3) := by decide +kernel
theorem dX4_fitting_57 : decode cX4_fitting 57 = .ok (.aload_n 0, 1) := by decide +kernel
theorem dX4_fitting_58 : decode cX4_fitting 58 = .ok (.getfield 37, 3) := by decide +kernel
theorem dX4_fitting_61 : decode cX4_fitting 61 = .ok (.getfield 200, 3) := by decide +kernel
theorem dX4_fitting_64 : decode cX4_fitting 64 = .ok (.iconst 1, 1) := by decide +kernel
theorem dX4_fitting_65 : decode cX4_fitting 65 = .ok (.isub, 1) := by decide +kernel
theorem dX4_fitting_66 : decode cX4_fitting 66 = .ok (.goto 5, 3) := by decide +kernel
theorem dX4_fitting_69 : decode cX4_fitting 69 = .ok (.bipush 9, 2) := by decide +kernel
theorem dX4_fitting_71 : decode cX4_fitting 71 = .ok (.istore 9, 2) := by decide +kernel
theorem dX4_fitting_73 : decode cX4_fitting 73 = .ok (.iconst 0, 1) := by decide +kernel
theorem dX4_fitting_74 : decode cX4_fitting 74 = .ok (.istore 10, 2) := by decide +kernel
theorem dX4_fitting_76 : decode cX4_fitting 76 = .ok (.iload 8, 2) := by decide +kernel
theorem dX4_fitting_78 : decode cX4_fitting 78 = .ok (.istore 11, 2) := by decide +kernel
theorem dX4_fitting_80 : decode cX4_fitting 80 = .ok (.iload 11, 2) := by decide +kernel
theorem dX4_fitting_82 : decode cX4_fitting 82 = .ok (.iload 9, 2) := by decide +kernel
theorem dX4_fitting_84 : decode cX4_fitting 84 = .ok (.if_icmp .gt 56, 3) := by decide +kernel
theorem dX4_fitting_87 : decode cX4_fitting 87 = .ok (.aload_n 0, 1) := by decide +kernel
theorem dX4_fitting_88 : decode cX4_fitting 88 = .ok (.getfield 41, 3) := by decide +kernel
theorem dX4_fitting_91 : decode cX4_fitting 91 = .ok (.aload_n 0, 1) := by decide +kernel
theorem dX4_fitting_92 : decode cX4_fitting 92 = .ok (.getfield 37, 3) := by decide +kernel
theorem dX4_fitting_95 : decode cX4_fitting 95 = .ok (.invokevirtual 115, 3) := by decide +kernel
theorem dX4_fitting_98 : decode cX4_fitting 98 = .ok (.aload_n 0, 1) := by decide +kernel
theorem dX4_fitting_99 : decode cX4_fitting 99 = .ok (.iload_n 1, 1) := by decide +kernel
theorem dX4_fitting_100 : decode cX4_fitting 100 = .ok (.iload_n 2, 1) := by decide +kernel
theorem dX4_fitting_101 : decode cX4_fitting 101 = .ok (.iload 11, 2) := by decide +kernel
theorem dX4_fitting_103 : decode cX4_fitting 103 = .ok (.invokevirtual 300, 3) := by decide +kernel
theorem dX4_fitting_106 : decode cX4_fitting 106 = .ok (.aload_n 0, 1) := by decide +kernel
theorem dX4_fitting_107 : decode cX4_fitting 107 = .ok (.iload_n 3, 1) := by decide +kernel
theorem dX4_fitting_108 : decode cX4_fitting 108 = .ok (.aload_n 0, 1) := by decide +kernel
theorem dX4_fitting_109 : decode cX4_fitting 109 = .ok (.getfield 11, 3) := by decide +kernel
theorem dX4_fitting_112 : decode cX4_fitting 112 = .ok (.iload 4, 2) := by decide +kernel
theorem dX4_fitting_114 : decode cX4_fitting 114 = .ok (.aaload, 1) := by decide +kernel
theorem dX4_fitting_115 : decode cX4_fitting 115 = .ok (.iload 5, 2) := by decide +kernel
theorem dX4_fitting_117 : decode cX4_fitting 117 = .ok (.iload 6, 2) := by decide +kernel
theorem dX4_fitting_119 : decode cX4_fitting 119 = .ok (.invokevirtual 223, 3) := by decide +kernel
theorem dX4_fitting_122 : decode cX4_fitting 122 = .ok (.ifCond .eq 12, 3) := by decide +kernel
theorem dX4_fitting_125 : decode cX4_fitting 125 = .ok (.iload 10, 2) := by decide +kernel
theorem dX4_fitting_127 : decode cX4_fitting 127 = .ok (.iconst 1, 1) := by decide +kernel
theorem dX4_fitting_128 : decode cX4_fitting 128 = .ok (.iload 11, 2) := by decide +kernel
theorem dX4_fitting_130 : decode cX4_fitting 130 = .ok (.ishl, 1) := by decide +kernel
theorem dX4_fitting_131 : decode cX4_fitting 131 = .ok (.ior, 1) := by decide +kernel
theorem dX4_fitting_132 : decode cX4_fitting 132 = .ok (.istore 10, 2) := by decide +kernel
theorem dX4_fitting_134 : decode cX4_fitting 134 = .ok (.iinc 11 1, 3) := by decide +kernel
theorem dX4_fitting_137 : decode cX4_fitting 137 = .ok (.goto (-57), 3) := by decide +kernel
theorem dX4_fitting_140 : decode cX4_fitting 140 = .ok (.iload 10, 2) := by decide +kernel
theorem dX4_fitting_142 : decode cX4_fitting 142 = .ok (.ireturn, 1) := by decide +kernel
theorem dX4_changeTrial_0 : decode cX4_changeTrial 0 = .ok (.iload_n 1, 1) := by decide +kernel
theorem dX4_changeTrial_1 : decode cX4_changeTrial 1 = .ok (.ifCond .ne 16, 3) := by decide +kernel
theorem dX4_changeTrial_4 : decode cX4_changeTrial 4 = .ok (.aload_n 0, 1) := by decide +kernel
theorem dX4_changeTrial_5 : decode cX4_changeTrial 5 = .ok (.getfield 41, 3) := by decide +kernel
theorem dX4_changeTrial_8 : decode cX4_changeTrial 8 = .ok (.getfield 274, 3) := by decide +kernel
theorem dX4_changeTrial_11 : decode cX4_changeTrial 11 = .ok (.iload_n 2, 1) := by decide +kernel
theorem dX4_changeTrial_12 : decode cX4_changeTrial 12 = .ok (.iload_n 3, 1) := by decide +kernel
theorem dX4_changeTrial_13 : decode cX4_changeTrial 13 = .ok (.iastore, 1) := by decide +kernel
theorem dX4_changeTrial_14 : decode cX4_changeTrial 14 = .ok (.goto 30, 3) := by decide +kernel
theorem dX4_changeTrial_17 : decode cX4_changeTrial 17 = .ok (.iload_n 1, 1) := by decide +kernel
theorem dX4_changeTrial_18 : decode cX4_changeTrial 18 = .ok (.iconst 1, 1) := by decide +kernel
theorem dX4_changeTrial_19 : decode cX4_changeTrial 19 = .ok (.if_icmp .ne 15, 3) := by decide +kernel
theorem dX4_changeTrial_22 : decode cX4_changeTrial 22 = .ok (.aload_n 0, 1) := by decide +kernel
theorem dX4_changeTrial_23 : decode cX4_changeTrial 23 = .ok (.getfield 41, 3) := by decide +kernel
theorem dX4_changeTrial_26 : decode cX4_changeTrial 26 = .ok (.iload_n 2, 1) := by decide +kernel
theorem dX4_changeTrial_27 : decode cX4_changeTrial 27 = .ok (.iload_n 3, 1) := by decide +kernel
theorem dX4_changeTrial_28 : decode cX4_changeTrial 28 = .ok (.invokevirtual 156, 3) := by decide +kernel
theorem dX4_changeTrial_31 : decode cX4_changeTrial 31 = .ok (.goto 13, 3) := by decide +kernel
theorem dX4_changeTrial_34 : decode cX4_changeTrial 34 = .ok (.aload_n 0, 1) := by decide +kernel
theorem dX4_changeTrial_35 : decode cX4_changeTrial 35 = .ok (.getfield 41, 3) := by decide +kernel
theorem dX4_changeTrial_38 : decode cX4_changeTrial 38 = .ok (.getfield 159, 3) := by decide +kernel
theorem dX4_changeTrial_41 : decode cX4_changeTrial 41 = .ok (.iload_n 2, 1) := by decide +kernel
theorem dX4_changeTrial_42 : decode cX4_changeTrial 42 = .ok (.iload_n 3, 1) := by decide +kernel
theorem dX4_changeTrial_43 : decode cX4_changeTrial 43 = .ok (.iastore, 1) := by decide +kernel
theorem dX4_changeTrial_44 : decode cX4_changeTrial 44 = .ok (.return_, 1) := by decide +kernel
theorem dX4_trialFits_0 : decode cX4_trialFits 0 = .ok (.iconst 0, 1) := by decide +kernel
theorem dX4_trialFits_1 : decode cX4_trialFits 1 = .ok (.istore 5, 2) := by decide +kernel
theorem dX4_trialFits_3 : decode cX4_trialFits 3 = .ok (.iload 5, 2) := by decide +kernel
theorem dX4_trialFits_5 : decode cX4_trialFits 5 = .ok (.iload 4, 2) := by decide +kernel
theorem dX4_trialFits_7 : decode cX4_trialFits 7 = .ok (.if_icmp .ge 40, 3) := by decide +kernel
theorem dX4_trialFits_10 : decode cX4_trialFits 10 = .ok (.aload_n 0, 1) := by decide +kernel
theorem dX4_trialFits_11 : decode cX4_trialFits 11 = .ok (.getfield 41, 3) := by decide +kernel
theorem dX4_trialFits_14 : decode cX4_trialFits 14 = .ok (.invokevirtual 140, 3) := by decide +kernel
theorem dX4_trialFits_17 : decode cX4_trialFits 17 = .ok (.pop, 1) := by decide +kernel
theorem dX4_trialFits_18 : decode cX4_trialFits 18 = .ok (.aload_n 0, 1) := by decide +kernel
theorem dX4_trialFits_19 : decode cX4_trialFits 19 = .ok (.getfield 41, 3) := by decide +kernel
theorem dX4_trialFits_22 : decode cX4_trialFits 22 = .ok (.getfield 186, 3) := by decide +kernel
theorem dX4_trialFits_25 : decode cX4_trialFits 25 = .ok (.iload_n 1, 1) := by decide +kernel
theorem dX4_trialFits_26 : decode cX4_trialFits 26 = .ok (.iaload, 1) := by decide +kernel
theorem dX4_trialFits_27 : decode cX4_trialFits 27 = .ok (.aload_n 2, 1) := by decide +kernel
theorem dX4_trialFits_28 : decode cX4_trialFits 28 = .ok (.getfield 84, 3) := by decide +kernel
theorem dX4_trialFits_31 : decode cX4_trialFits 31 = .ok (.iload_n 3, 1) := by decide +kernel
theorem dX4_trialFits_32 : decode cX4_trialFits 32 = .ok (.iload 5, 2) := by decide +kernel
theorem dX4_trialFits_34 : decode cX4_trialFits 34 = .ok (.iadd, 1) := by decide +kernel
theorem dX4_trialFits_35 : decode cX4_trialFits 35 = .ok (.iaload, 1) := by decide +kernel
theorem dX4_trialFits_36 : decode cX4_trialFits 36 = .ok (.if_icmp .eq 5, 3) := by decide +kernel
theorem dX4_trialFits_39 : decode cX4_trialFits 39 = .ok (.iconst 0, 1) := by decide +kernel
theorem dX4_trialFits_40 : decode cX4_trialFits 40 = .ok (.ireturn, 1) := by decide +kernel
theorem dX4_trialFits_41 : decode cX4_trialFits 41 = .ok (.iinc 5 1, 3) := by decide +kernel
theorem dX4_trialFits_44 : decode cX4_trialFits 44 = .ok (.goto (-41), 3) := by decide +kernel
theorem dX4_trialFits_47 : decode cX4_trialFits 47 = .ok (.iconst 1, 1) := by decide +kernel
theorem dX4_trialFits_48 : decode cX4_trialFits 48 = .ok (.ireturn, 1) := by decide +kernel
theorem dX4_allFeel_0 : decode cX4_allFeel 0 = .ok (.aload_n 0, 1) := by decide +kernel
theorem dX4_allFeel_1 : decode cX4_allFeel 1 = .ok (.getfield 41, 3) := by decide +kernel
theorem dX4_allFeel_4 : decode cX4_allFeel 4 = .ok (.aload_n 0, 1) := by decide +kernel
theorem dX4_allFeel_5 : decode cX4_allFeel 5 = .ok (.getfield 37, 3) := by decide +kernel
theorem dX4_allFeel_8 : decode cX4_allFeel 8 = .ok (.invokevirtual 115, 3) := by decide +kernel
theorem dX4_allFeel_11 : decode cX4_allFeel 11 = .ok (.aload_n 0, 1) := by decide +kernel
theorem dX4_allFeel_12 : decode cX4_allFeel 12 = .ok (.getfield 41, 3) := by decide +kernel
theorem dX4_allFeel_15 : decode cX4_allFeel 15 = .ok (.iload 4, 2) := by decide +kernel
theorem dX4_allFeel_17 : decode cX4_allFeel 17 = .ok (.iconst (-1), 1) := by decide +kernel
theorem dX4_allFeel_18 : decode cX4_allFeel 18 = .ok (.ixor, 1) := by decide +kernel
theorem dX4_allFeel_19 : decode cX4_allFeel 19 = .ok (.putfield 227, 3) := by decide +kernel
theorem dX4_allFeel_22 : decode cX4_allFeel 22 = .ok (.aload_n 0, 1) := by decide +kernel
theorem dX4_allFeel_23 : decode cX4_allFeel 23 = .ok (.getfield 41, 3) := by decide +kernel
theorem dX4_allFeel_26 : decode cX4_allFeel 26 = .ok (.iload_n 2, 1) := by decide +kernel
theorem dX4_allFeel_27 : decode cX4_allFeel 27 = .ok (.invokevirtual 195, 3) := by decide +kernel
theorem dX4_allFeel_30 : decode cX4_allFeel 30 = .ok (.iconst 0, 1) := by decide +kernel
theorem dX4_allFeel_31 : decode cX4_allFeel 31 = .ok (.istore 5, 2) := by decide +kernel
theorem dX4_allFeel_33 : decode cX4_allFeel 33 = .ok (.iload 5, 2) := by decide +kernel
theorem dX4_allFeel_35 : decode cX4_allFeel 35 = .ok (.aload_n 0, 1) := by decide +kernel
theorem dX4_allFeel_36 : decode cX4_allFeel 36 = .ok (.getfield 37, 3) := by decide +kernel
theorem dX4_allFeel_39 : decode cX4_allFeel 39 = .ok (.getfield 200, 3) := by decide +kernel
theorem dX4_allFeel_42 : decode cX4_allFeel 42 = .ok (.if_icmp .ge 35, 3) := by decide +kernel
theorem dX4_allFeel_45 : decode cX4_allFeel 45 = .ok (.iload_n 1, 1) := by decide +kernel
theorem dX4_allFeel_46 : decode cX4_allFeel 46 = .ok (.iload 5, 2) := by decide +kernel
theorem dX4_allFeel_48 : decode cX4_allFeel 48 = .ok (.invokestatic 168, 3) := by decide +kernel
theorem dX4_allFeel_51 : decode cX4_allFeel 51 = .ok (.iconst 1, 1) := by decide +kernel
theorem dX4_allFeel_52 : decode cX4_allFeel 52 = .ok (.if_icmp .ne 19, 3) := by decide +kernel
theorem dX4_allFeel_55 : decode cX4_allFeel 55 = .ok (.aload_n 0, 1) := by decide +kernel
theorem dX4_allFeel_56 : decode cX4_allFeel 56 = .ok (.getfield 41, 3) := by decide +kernel
theorem dX4_allFeel_59 : decode cX4_allFeel 59 = .ok (.getfield 186, 3) := by decide +kernel
theorem dX4_allFeel_62 : decode cX4_allFeel 62 = .ok (.iload 5, 2) := by decide +kernel
theorem dX4_allFeel_64 : decode cX4_allFeel 64 = .ok (.iaload, 1) := by decide +kernel
theorem dX4_allFeel_65 : decode cX4_allFeel 65 = .ok (.iload_n 3, 1) := by decide +kernel
theorem dX4_allFeel_66 : decode cX4_allFeel 66 = .ok (.if_icmp .ge 5, 3) := by decide +kernel
theorem dX4_allFeel_69 : decode cX4_allFeel 69 = .ok (.iconst 0, 1) := by decide +kernel
theorem dX4_allFeel_70 : decode cX4_allFeel 70 = .ok (.ireturn, 1) := by decide +kernel
theorem dX4_allFeel_71 : decode cX4_allFeel 71 = .ok (.iinc 5 1, 3) := by decide +kernel
theorem dX4_allFeel_74 : decode cX4_allFeel 74 = .ok (.goto (-41), 3) := by decide +kernel
theorem dX4_allFeel_77 : decode cX4_allFeel 77 = .ok (.iconst 1, 1) := by decide +kernel
theorem dX4_allFeel_78 : decode cX4_allFeel 78 = .ok (.ireturn, 1) := by decide +kernel
theorem dX4_feltWithout_0 : decode cX4_feltWithout 0 = .ok (.aload_n 0, 1) := by decide +kernel
theorem dX4_feltWithout_1 : decode cX4_feltWithout 1 = .ok (.getfield 41, 3) := by decide +kernel
theorem dX4_feltWithout_4 : decode cX4_feltWithout 4 = .ok (.aload_n 0, 1) := by decide +kernel
theorem dX4_feltWithout_5 : decode cX4_feltWithout 5 = .ok (.getfield 37, 3) := by decide +kernel
theorem dX4_feltWithout_8 : decode cX4_feltWithout 8 = .ok (.invokevirtual 115, 3) := by decide +kernel
theorem dX4_feltWithout_11 : decode cX4_feltWithout 11 = .ok (.aload_n 0, 1) := by decide +kernel
theorem dX4_feltWithout_12 : decode cX4_feltWithout 12 = .ok (.getfield 41, 3) := by decide +kernel
theorem dX4_feltWithout_15 : decode cX4_feltWithout 15 = .ok (.iconst 1, 1) := by decide +kernel
theorem dX4_feltWithout_16 : decode cX4_feltWithout 16 = .ok (.iload_n 1, 1) := by decide +kernel
theorem dX4_feltWithout_17 : decode cX4_feltWithout 17 = .ok (.ishl, 1) := by decide +kernel
theorem dX4_feltWithout_18 : decode cX4_feltWithout 18 = .ok (.putfield 227, 3) := by decide +kernel
theorem dX4_feltWithout_21 : decode cX4_feltWithout 21 = .ok (.aload_n 0, 1) := by decide +kernel
theorem dX4_feltWithout_22 : decode cX4_feltWithout 22 = .ok (.getfield 41, 3) := by decide +kernel
theorem dX4_feltWithout_25 : decode cX4_feltWithout 25 = .ok (.iload_n 2, 1) := by decide +kernel
theorem dX4_feltWithout_26 : decode cX4_feltWithout 26 = .ok (.invokevirtual 195, 3) := by decide +kernel
theorem dX4_feltWithout_29 : decode cX4_feltWithout 29 = .ok (.aload_n 0, 1) := by decide +kernel
theorem dX4_feltWithout_30 : decode cX4_feltWithout 30 = .ok (.getfield 41, 3) := by decide +kernel
theorem dX4_feltWithout_33 : decode cX4_feltWithout 33 = .ok (.invokevirtual 144, 3) := by decide +kernel
theorem dX4_feltWithout_36 : decode cX4_feltWithout 36 = .ok (.ireturn, 1) := by decide +kernel
theorem dX4_feelsWithout_0 : decode cX4_feelsWithout 0 = .ok (.aload_n 0, 1) := by decide +kernel
theorem dX4_feelsWithout_1 : decode cX4_feelsWithout 1 = .ok (.getfield 41, 3) := by decide +kernel
theorem dX4_feelsWithout_4 : decode cX4_feelsWithout 4 = .ok (.aload_n 0, 1) := by decide +kernel
theorem dX4_feelsWithout_5 : decode cX4_feelsWithout 5 = .ok (.getfield 37, 3) := by decide +kernel
theorem dX4_feelsWithout_8 : decode cX4_feelsWithout 8 = .ok (.invokevirtual 115, 3) := by decide +kernel
theorem dX4_feelsWithout_11 : decode cX4_feelsWithout 11 = .ok (.aload_n 0, 1) := by decide +kernel
theorem dX4_feelsWithout_12 : decode cX4_feelsWithout 12 = .ok (.getfield 41, 3) := by decide +kernel
theorem dX4_feelsWithout_15 : decode cX4_feelsWithout 15 = .ok (.iload_n 3, 1) := by decide +kernel
theorem dX4_feelsWithout_16 : decode cX4_feelsWithout 16 = .ok (.putfield 227, 3) := by decide +kernel
theorem dX4_feelsWithout_19 : decode cX4_feelsWithout 19 = .ok (.aload_n 0, 1) := by decide +kernel
theorem dX4_feelsWithout_20 : decode cX4_feelsWithout 20 = .ok (.getfield 41, 3) := by decide +kernel
theorem dX4_feelsWithout_23 : decode cX4_feelsWithout 23 = .ok (.invokevirtual 140, 3) := by decide +kernel
theorem dX4_feelsWithout_26 : decode cX4_feelsWithout 26 = .ok (.pop, 1) := by decide +kernel
theorem dX4_feelsWithout_27 : decode cX4_feelsWithout 27 = .ok (.aload_n 0, 1) := by decide +kernel
theorem dX4_feelsWithout_28 : decode cX4_feelsWithout 28 = .ok (.getfield 41, 3) := by decide +kernel
theorem dX4_feelsWithout_31 : decode cX4_feelsWithout 31 = .ok (.getfield 186, 3) := by decide +kernel
theorem dX4_feelsWithout_34 : decode cX4_feelsWithout 34 = .ok (.iload_n 1, 1) := by decide +kernel
theorem dX4_feelsWithout_35 : decode cX4_feelsWithout 35 = .ok (.iaload, 1) := by decide +kernel
theorem dX4_feelsWithout_36 : decode cX4_feelsWithout 36 = .ok (.iload_n 2, 1) := by decide +kernel
theorem dX4_feelsWithout_37 : decode cX4_feelsWithout 37 = .ok (.if_icmp .lt 7, 3) := by decide +kernel
theorem dX4_feelsWithout_40 : decode cX4_feelsWithout 40 = .ok (.iconst 1, 1) := by decide +kernel
theorem dX4_feelsWithout_41 : decode cX4_feelsWithout 41 = .ok (.goto 4, 3) := by decide +kernel
theorem dX4_feelsWithout_44 : decode cX4_feelsWithout 44 = .ok (.iconst 0, 1) := by decide +kernel
theorem dX4_feelsWithout_45 : decode cX4_feelsWithout 45 = .ok (.ireturn, 1) := by decide +kernel
theorem dX4_isFree_0 : decode cX4_isFree 0 = .ok (.aload_n 0, 1) := by decide +kernel
theorem dX4_isFree_1 : decode cX4_isFree 1 = .ok (.getfield 37, 3) := by decide +kernel
theorem dX4_isFree_4 : decode cX4_isFree 4 = .ok (.getfield 165, 3) := by decide +kernel
theorem dX4_isFree_7 : decode cX4_isFree 7 = .ok (.iload_n 1, 1) := by decide +kernel
theorem dX4_isFree_8 : decode cX4_isFree 8 = .ok (.invokestatic 168, 3) := by decide +kernel
theorem dX4_isFree_11 : decode cX4_isFree 11 = .ok (.ifCond .ne 18, 3) := by decide +kernel
theorem dX4_isFree_14 : decode cX4_isFree 14 = .ok (.aload_n 0, 1) := by decide +kernel
theorem dX4_isFree_15 : decode cX4_isFree 15 = .ok (.getfield 37, 3) := by decide +kernel
theorem dX4_isFree_18 : decode cX4_isFree 18 = .ok (.iload_n 1, 1) := by decide +kernel
theorem dX4_isFree_19 : decode cX4_isFree 19 = .ok (.invokevirtual 189, 3) := by decide +kernel
theorem dX4_isFree_22 : decode cX4_isFree 22 = .ok (.ifCond .ne 7, 3) := by decide +kernel
theorem dX4_isFree_25 : decode cX4_isFree 25 = .ok (.iconst 1, 1) := by decide +kernel
theorem dX4_isFree_26 : decode cX4_isFree 26 = .ok (.goto 4, 3) := by decide +kernel
theorem dX4_isFree_29 : decode cX4_isFree 29 = .ok (.iconst 0, 1) := by decide +kernel
theorem dX4_isFree_30 : decode cX4_isFree 30 = .ok (.ireturn, 1) := by decide +kernel
theorem dX4_cases_0 : decode cX4_cases 0 = .ok (.iload_n 0, 1) := by decide +kernel
theorem dX4_cases_1 : decode cX4_cases 1 = .ok (.invokestatic 203, 3) := by decide +kernel
theorem dX4_cases_4 : decode cX4_cases 4 = .ok (.istore_n 3, 1) := by decide +kernel
theorem dX4_cases_5 : decode cX4_cases 5 = .ok (.iload_n 2, 1) := by decide +kernel
theorem dX4_cases_6 : decode cX4_cases 6 = .ok (.i2l, 1) := by decide +kernel
theorem dX4_cases_7 : decode cX4_cases 7 = .ok (.iload_n 3, 1) := by decide +kernel
theorem dX4_cases_8 : decode cX4_cases 8 = .ok (.invokestatic 255, 3) := by decide +kernel
theorem dX4_cases_11 : decode cX4_cases 11 = .ok (.bipush 10, 2) := by decide +kernel
theorem dX4_cases_13 : decode cX4_cases 13 = .ok (.iload_n 2, 1) := by decide +kernel
theorem dX4_cases_14 : decode cX4_cases 14 = .ok (.isub, 1) := by decide +kernel
theorem dX4_cases_15 : decode cX4_cases 15 = .ok (.i2l, 1) := by decide +kernel
theorem dX4_cases_16 : decode cX4_cases 16 = .ok (.iload_n 1, 1) := by decide +kernel
theorem dX4_cases_17 : decode cX4_cases 17 = .ok (.invokestatic 203, 3) := by decide +kernel
theorem dX4_cases_20 : decode cX4_cases 20 = .ok (.iload_n 3, 1) := by decide +kernel
theorem dX4_cases_21 : decode cX4_cases 21 = .ok (.isub, 1) := by decide +kernel
theorem dX4_cases_22 : decode cX4_cases 22 = .ok (.invokestatic 255, 3) := by decide +kernel
theorem dX4_cases_25 : decode cX4_cases 25 = .ok (.lmul, 1) := by decide +kernel
theorem dX4_cases_26 : decode cX4_cases 26 = .ok (.lreturn, 1) := by decide +kernel
theorem dX4_power_0 : decode cX4_power 0 = .ok (.lconst 1, 1) := by decide +kernel
theorem dX4_power_1 : decode cX4_power 1 = .ok (.lstore_n 3, 1) := by decide +kernel
theorem dX4_power_2 : decode cX4_power 2 = .ok (.iconst 0, 1) := by decide +kernel
theorem dX4_power_3 : decode cX4_power 3 = .ok (.istore 5, 2) := by decide +kernel
theorem dX4_power_5 : decode cX4_power 5 = .ok (.iload 5, 2) := by decide +kernel
theorem dX4_power_7 : decode cX4_power 7 = .ok (.iload_n 2, 1) := by decide +kernel
theorem dX4_power_8 : decode cX4_power 8 = .ok (.if_icmp .ge 13, 3) := by decide +kernel
theorem dX4_power_11 : decode cX4_power 11 = .ok (.lload_n 3, 1) := by decide +kernel
theorem dX4_power_12 : decode cX4_power 12 = .ok (.lload_n 0, 1) := by decide +kernel
theorem dX4_power_13 : decode cX4_power 13 = .ok (.lmul, 1) := by decide +kernel
theorem dX4_power_14 : decode cX4_power 14 = .ok (.lstore_n 3, 1) := by decide +kernel
theorem dX4_power_15 : decode cX4_power 15 = .ok (.iinc 5 1, 3) := by decide +kernel
theorem dX4_power_18 : decode cX4_power 18 = .ok (.goto (-13), 3) := by decide +kernel
theorem dX4_power_21 : decode cX4_power 21 = .ok (.lload_n 3, 1) := by decide +kernel
theorem dX4_power_22 : decode cX4_power 22 = .ok (.lreturn, 1) := by decide +kernel
theorem dX4_commonDivisor_0 : decode cX4_commonDivisor 0 = .ok (.iconst 0, 1) := by decide +kernel
theorem dX4_commonDivisor_1 : decode cX4_commonDivisor 1 = .ok (.istore 4, 2) := by decide +kernel
theorem dX4_commonDivisor_3 : decode cX4_commonDivisor 3 = .ok (.iload 4, 2) := by decide +kernel
theorem dX4_commonDivisor_5 : decode cX4_commonDivisor 5 = .ok (.bipush 100, 2) := by decide +kernel
theorem dX4_commonDivisor_7 : decode cX4_commonDivisor 7 = .ok (.if_icmp .ge 25, 3) := by decide +kernel
theorem dX4_commonDivisor_10 : decode cX4_commonDivisor 10 = .ok (.lload_n 2, 1) := by decide +kernel
theorem dX4_commonDivisor_11 : decode cX4_commonDivisor 11 = .ok (.lconst 0, 1) := by decide +kernel
theorem dX4_commonDivisor_12 : decode cX4_commonDivisor 12 = .ok (.lcmp, 1) := by decide +kernel
theorem dX4_commonDivisor_13 : decode cX4_commonDivisor 13 = .ok (.ifCond .eq 19, 3) := by decide +kernel
theorem dX4_commonDivisor_16 : decode cX4_commonDivisor 16 = .ok (.lload_n 0, 1) := by decide +kernel
theorem dX4_commonDivisor_17 : decode cX4_commonDivisor 17 = .ok (.lload_n 2, 1) := by decide +kernel
theorem dX4_commonDivisor_18 : decode cX4_commonDivisor 18 = .ok (.lrem, 1) := by decide +kernel
theorem dX4_commonDivisor_19 : decode cX4_commonDivisor 19 = .ok (.lstore 5, 2) := by decide +kernel
theorem dX4_commonDivisor_21 : decode cX4_commonDivisor 21 = .ok (.lload_n 2, 1) := by decide +kernel
theorem dX4_commonDivisor_22 : decode cX4_commonDivisor 22 = .ok (.lstore_n 0, 1) := by decide +kernel
theorem dX4_commonDivisor_23 : decode cX4_commonDivisor 23 = .ok (.lload 5, 2) := by decide +kernel
theorem dX4_commonDivisor_25 : decode cX4_commonDivisor 25 = .ok (.lstore_n 2, 1) := by decide +kernel
theorem dX4_commonDivisor_26 : decode cX4_commonDivisor 26 = .ok (.iinc 4 1, 3) := by decide +kernel
theorem dX4_commonDivisor_29 : decode cX4_commonDivisor 29 = .ok (.goto (-26), 3) := by decide +kernel
theorem dX4_commonDivisor_32 : decode cX4_commonDivisor 32 = .ok (.lload_n 0, 1) := by decide +kernel
theorem dX4_commonDivisor_33 : decode cX4_commonDivisor 33 = .ok (.lreturn, 1) := by decide +kernel
theorem dX4_nearestBody_0 : decode cX4_nearestBody 0 = .ok (.iload_n 1, 1) := by decide +kernel
theorem dX4_nearestBody_1 : decode cX4_nearestBody 1 = .ok (.istore_n 2, 1) := by decide +kernel
theorem dX4_nearestBody_2 : decode cX4_nearestBody 2 = .ok (.iconst 0, 1) := by decide +kernel
theorem dX4_nearestBody_3 : decode cX4_nearestBody 3 = .ok (.istore_n 3, 1) := by decide +kernel
theorem dX4_nearestBody_4 : decode cX4_nearestBody 4 = .ok (.iload_n 3, 1) := by decide +kernel
theorem dX4_nearestBody_5 : decode cX4_nearestBody 5 = .ok (.iconst 5, 1) := by decide +kernel
theorem dX4_nearestBody_6 : decode cX4_nearestBody 6 = .ok (.if_icmp .gt 25, 3) := by decide +kernel
theorem dX4_nearestBody_9 : decode cX4_nearestBody 9 = .ok (.iload_n 2, 1) := by decide +kernel
theorem dX4_nearestBody_10 : decode cX4_nearestBody 10 = .ok (.ifCond .le 21, 3) := by decide +kernel
theorem dX4_nearestBody_13 : decode cX4_nearestBody 13 = .ok (.aload_n 0, 1) := by decide +kernel
theorem dX4_nearestBody_14 : decode cX4_nearestBody 14 = .ok (.iload_n 2, 1) := by decide +kernel
theorem dX4_nearestBody_15 : decode cX4_nearestBody 15 = .ok (.iaload, 1) := by decide +kernel
theorem dX4_nearestBody_16 : decode cX4_nearestBody 16 = .ok (.ifCond .ne 15, 3) := by decide +kernel
theorem dX4_nearestBody_19 : decode cX4_nearestBody 19 = .ok (.getstatic 277, 3) := by decide +kernel
theorem dX4_nearestBody_22 : decode cX4_nearestBody 22 = .ok (.iload_n 2, 1) := by decide +kernel
theorem dX4_nearestBody_23 : decode cX4_nearestBody 23 = .ok (.iaload, 1) := by decide +kernel
theorem dX4_nearestBody_24 : decode cX4_nearestBody 24 = .ok (.istore_n 2, 1) := by decide +kernel
theorem dX4_nearestBody_25 : decode cX4_nearestBody 25 = .ok (.iinc 3 1, 3) := by decide +kernel
theorem dX4_nearestBody_28 : decode cX4_nearestBody 28 = .ok (.goto (-24), 3) := by decide +kernel
theorem dX4_nearestBody_31 : decode cX4_nearestBody 31 = .ok (.aload_n 0, 1) := by decide +kernel
theorem dX4_nearestBody_32 : decode cX4_nearestBody 32 = .ok (.iload_n 2, 1) := by decide +kernel
theorem dX4_nearestBody_33 : decode cX4_nearestBody 33 = .ok (.iaload, 1) := by decide +kernel
theorem dX4_nearestBody_34 : decode cX4_nearestBody 34 = .ok (.ireturn, 1) := by decide +kernel
theorem dX4_sizeBody_0 : decode cX4_sizeBody 0 = .ok (.getstatic 304, 3) := by decide +kernel
theorem dX4_sizeBody_3 : decode cX4_sizeBody 3 = .ok (.aload_n 0, 1) := by decide +kernel
theorem dX4_sizeBody_4 : decode cX4_sizeBody 4 = .ok (.getfield 37, 3) := by decide +kernel
theorem dX4_sizeBody_7 : decode cX4_sizeBody 7 = .ok (.getfield 274, 3) := by decide +kernel
theorem dX4_sizeBody_10 : decode cX4_sizeBody 10 = .ok (.iload_n 1, 1) := by decide +kernel
theorem dX4_sizeBody_11 : decode cX4_sizeBody 11 = .ok (.iaload, 1) := by decide +kernel
theorem dX4_sizeBody_12 : decode cX4_sizeBody 12 = .ok (.invokestatic 307, 3) := by decide +kernel
theorem dX4_sizeBody_15 : decode cX4_sizeBody 15 = .ok (.ireturn, 1) := by decide +kernel
theorem dX4_markBody_0 : decode cX4_markBody 0 = .ok (.getstatic 311, 3) := by decide +kernel
theorem dX4_markBody_3 : decode cX4_markBody 3 = .ok (.aload_n 0, 1) := by decide +kernel
theorem dX4_markBody_4 : decode cX4_markBody 4 = .ok (.getfield 37, 3) := by decide +kernel
theorem dX4_markBody_7 : decode cX4_markBody 7 = .ok (.getfield 274, 3) := by decide +kernel
theorem dX4_markBody_10 : decode cX4_markBody 10 = .ok (.iload_n 1, 1) := by decide +kernel
theorem dX4_markBody_11 : decode cX4_markBody 11 = .ok (.iaload, 1) := by decide +kernel
theorem dX4_markBody_12 : decode cX4_markBody 12 = .ok (.invokestatic 307, 3) := by decide +kernel
theorem dX4_markBody_15 : decode cX4_markBody 15 = .ok (.ireturn, 1) := by decide +kernel
theorem dX4_leaveInTrace_0 : decode cX4_leaveInTrace 0 = .ok (.aload_n 0, 1) := by decide +kernel
theorem dX4_leaveInTrace_1 : decode cX4_leaveInTrace 1 = .ok (.getfield 280, 3) := by decide +kernel
theorem dX4_leaveInTrace_4 : decode cX4_leaveInTrace 4 = .ok (.bipush 16, 2) := by decide +kernel
theorem dX4_leaveInTrace_6 : decode cX4_leaveInTrace 6 = .ok (.if_icmp .ge 23, 3) := by decide +kernel
theorem dX4_leaveInTrace_9 : decode cX4_leaveInTrace 9 = .ok (.aload_n 0, 1) := by decide +kernel
theorem dX4_leaveInTrace_10 : decode cX4_leaveInTrace 10 = .ok (.getfield 44, 3) := by decide +kernel
theorem dX4_leaveInTrace_13 : decode cX4_leaveInTrace 13 = .ok (.aload_n 0, 1) := by decide +kernel
theorem dX4_leaveInTrace_14 : decode cX4_leaveInTrace 14 = .ok (.getfield 280, 3) := by decide +kernel
theorem dX4_leaveInTrace_17 : decode cX4_leaveInTrace 17 = .ok (.iload_n 1, 1) := by decide +kernel
theorem dX4_leaveInTrace_18 : decode cX4_leaveInTrace 18 = .ok (.iastore, 1) := by decide +kernel
theorem dX4_leaveInTrace_19 : decode cX4_leaveInTrace 19 = .ok (.aload_n 0, 1) := by decide +kernel
theorem dX4_leaveInTrace_20 : decode cX4_leaveInTrace 20 = .ok (.dup, 1) := by decide +kernel
theorem dX4_leaveInTrace_21 : decode cX4_leaveInTrace 21 = .ok (.getfield 280, 3) := by decide +kernel
theorem dX4_leaveInTrace_24 : decode cX4_leaveInTrace 24 = .ok (.iconst 1, 1) := by decide +kernel
theorem dX4_leaveInTrace_25 : decode cX4_leaveInTrace 25 = .ok (.iadd, 1) := by decide +kernel
theorem dX4_leaveInTrace_26 : decode cX4_leaveInTrace 26 = .ok (.putfield 280, 3) := by decide +kernel
theorem dX4_leaveInTrace_29 : decode cX4_leaveInTrace 29 = .ok (.return_, 1) := by decide +kernel
theorem dX4_body_0 : decode cX4_body 0 = .ok (.iload_n 3, 1) := by decide +kernel
theorem dX4_body_1 : decode cX4_body 1 = .ok (.bipush 12, 2) := by decide +kernel
theorem dX4_body_3 : decode cX4_body 3 = .ok (.if_icmp .le 5, 3) := by decide +kernel
theorem dX4_body_6 : decode cX4_body 6 = .ok (.iconst 0, 1) := by decide +kernel
theorem dX4_body_7 : decode cX4_body 7 = .ok (.ireturn, 1) := by decide +kernel
theorem dX4_body_8 : decode cX4_body 8 = .ok (.aload_n 0, 1) := by decide +kernel
theorem dX4_body_9 : decode cX4_body 9 = .ok (.iload_n 1, 1) := by decide +kernel
theorem dX4_body_10 : decode cX4_body 10 = .ok (.invokevirtual 314, 3) := by decide +kernel
theorem dX4_body_13 : decode cX4_body 13 = .ok (.iload_n 3, 1) := by decide +kernel
theorem dX4_body_14 : decode cX4_body 14 = .ok (.iconst 1, 1) := by decide +kernel
theorem dX4_body_15 : decode cX4_body 15 = .ok (.iadd, 1) := by decide +kernel
theorem dX4_body_16 : decode cX4_body 16 = .ok (.istore 4, 2) := by decide +kernel
theorem dX4_body_18 : decode cX4_body 18 = .ok (.iload_n 1, 1) := by decide +kernel
theorem dX4_body_19 : decode cX4_body 19 = .ok (.tableswitch 212 10 24 #[73, 83, 106, 117, 130, 212, 212, 212, 212, 212, 142, 144, 163, 177, 200], 73) := by decide +kernel
theorem dX4_body_92 : decode cX4_body 92 = .ok (.aload_n 0, 1) := by decide +kernel
theorem dX4_body_93 : decode cX4_body 93 = .ok (.getfield 37, 3) := by decide +kernel
theorem dX4_body_96 : decode cX4_body 96 = .ok (.getfield 159, 3) := by decide +kernel
theorem dX4_body_99 : decode cX4_body 99 = .ok (.iload_n 2, 1) := by decide +kernel
theorem dX4_body_100 : decode cX4_body 100 = .ok (.iaload, 1) := by decide +kernel
theorem dX4_body_101 : decode cX4_body 101 = .ok (.ireturn, 1) := by decide +kernel
theorem dX4_body_102 : decode cX4_body 102 = .ok (.aload_n 0, 1) := by decide +kernel
theorem dX4_body_103 : decode cX4_body 103 = .ok (.bipush 10, 2) := by decide +kernel
theorem dX4_body_105 : decode cX4_body 105 = .ok (.iload_n 2, 1) := by decide +kernel
theorem dX4_body_106 : decode cX4_body 106 = .ok (.iload 4, 2) := by decide +kernel
theorem dX4_body_108 : decode cX4_body 108 = .ok (.invokevirtual 289, 3) := by decide +kernel
theorem dX4_body_111 : decode cX4_body 111 = .ok (.aload_n 0, 1) := by decide +kernel
theorem dX4_body_112 : decode cX4_body 112 = .ok (.aload_n 0, 1) := by decide +kernel
theorem dX4_body_113 : decode cX4_body 113 = .ok (.iload_n 2, 1) := by decide +kernel
theorem dX4_body_114 : decode cX4_body 114 = .ok (.invokevirtual 286, 3) := by decide +kernel
theorem dX4_body_117 : decode cX4_body 117 = .ok (.iload_n 2, 1) := by decide +kernel
theorem dX4_body_118 : decode cX4_body 118 = .ok (.iload 4, 2) := by decide +kernel
theorem dX4_body_120 : decode cX4_body 120 = .ok (.invokevirtual 289, 3) := by decide +kernel
theorem dX4_body_123 : decode cX4_body 123 = .ok (.iadd, 1) := by decide +kernel
theorem dX4_body_124 : decode cX4_body 124 = .ok (.ireturn, 1) := by decide +kernel
theorem dX4_body_125 : decode cX4_body 125 = .ok (.aload_n 0, 1) := by decide +kernel
theorem dX4_body_126 : decode cX4_body 126 = .ok (.bipush 11, 2) := by decide +kernel
theorem dX4_body_128 : decode cX4_body 128 = .ok (.iload_n 2, 1) := by decide +kernel
theorem dX4_body_129 : decode cX4_body 129 = .ok (.iload 4, 2) := by decide +kernel
theorem dX4_body_131 : decode cX4_body 131 = .ok (.invokevirtual 289, 3) := by decide +kernel
theorem dX4_body_134 : decode cX4_body 134 = .ok (.ineg, 1) := by decide +kernel
theorem dX4_body_135 : decode cX4_body 135 = .ok (.ireturn, 1) := by decide +kernel
theorem dX4_body_136 : decode cX4_body 136 = .ok (.aload_n 0, 1) := by decide +kernel
theorem dX4_body_137 : decode cX4_body 137 = .ok (.bipush 10, 2) := by decide +kernel
theorem dX4_body_139 : decode cX4_body 139 = .ok (.iload_n 2, 1) := by decide +kernel
theorem dX4_body_140 : decode cX4_body 140 = .ok (.iload 4, 2) := by decide +kernel
theorem dX4_body_142 : decode cX4_body 142 = .ok (.invokevirtual 289, 3) := by decide +kernel
theorem dX4_body_145 : decode cX4_body 145 = .ok (.bipush 100, 2) := by decide +kernel
theorem dX4_body_147 : decode cX4_body 147 = .ok (.isub, 1) := by decide +kernel
theorem dX4_body_148 : decode cX4_body 148 = .ok (.ireturn, 1) := by decide +kernel
theorem dX4_body_149 : decode cX4_body 149 = .ok (.iconst 2, 1) := by decide +kernel
theorem dX4_body_150 : decode cX4_body 150 = .ok (.aload_n 0, 1) := by decide +kernel
theorem dX4_body_151 : decode cX4_body 151 = .ok (.bipush 13, 2) := by decide +kernel
theorem dX4_body_153 : decode cX4_body 153 = .ok (.iload_n 2, 1) := by decide +kernel
theorem dX4_body_154 : decode cX4_body 154 = .ok (.iload 4, 2) := by decide +kernel
theorem dX4_body_156 : decode cX4_body 156 = .ok (.invokevirtual 289, 3) := by decide +kernel
theorem dX4_body_159 : decode cX4_body 159 = .ok (.imul, 1) := by decide +kernel
theorem dX4_body_160 : decode cX4_body 160 = .ok (.ireturn, 1) := by decide +kernel
theorem dX4_body_161 : decode cX4_body 161 = .ok (.iload_n 2, 1) := by decide +kernel
theorem dX4_body_162 : decode cX4_body 162 = .ok (.ireturn, 1) := by decide +kernel
theorem dX4_body_163 : decode cX4_body 163 = .ok (.aload_n 0, 1) := by decide +kernel
theorem dX4_body_164 : decode cX4_body 164 = .ok (.bipush 20, 2) := by decide +kernel
theorem dX4_body_166 : decode cX4_body 166 = .ok (.iload_n 2, 1) := by decide +kernel
theorem dX4_body_167 : decode cX4_body 167 = .ok (.iload 4, 2) := by decide +kernel
theorem dX4_body_169 : decode cX4_body 169 = .ok (.invokevirtual 289, 3) := by decide +kernel
theorem dX4_body_172 : decode cX4_body 172 = .ok (.aload_n 0, 1) := by decide +kernel
theorem dX4_body_173 : decode cX4_body 173 = .ok (.getfield 37, 3) := by decide +kernel
theorem dX4_body_176 : decode cX4_body 176 = .ok (.iload_n 2, 1) := by decide +kernel
theorem dX4_body_177 : decode cX4_body 177 = .ok (.invokevirtual 180, 3) := by decide +kernel
theorem dX4_body_180 : decode cX4_body 180 = .ok (.iadd, 1) := by decide +kernel
theorem dX4_body_181 : decode cX4_body 181 = .ok (.ireturn, 1) := by decide +kernel
theorem dX4_body_182 : decode cX4_body 182 = .ok (.aload_n 0, 1) := by decide +kernel
theorem dX4_body_183 : decode cX4_body 183 = .ok (.bipush 21, 2) := by decide +kernel
theorem dX4_body_185 : decode cX4_body 185 = .ok (.iload_n 2, 1) := by decide +kernel
theorem dX4_body_186 : decode cX4_body 186 = .ok (.iload 4, 2) := by decide +kernel
theorem dX4_body_188 : decode cX4_body 188 = .ok (.invokevirtual 289, 3) := by decide +kernel
theorem dX4_body_191 : decode cX4_body 191 = .ok (.sipush 1000, 3) := by decide +kernel
theorem dX4_body_194 : decode cX4_body 194 = .ok (.isub, 1) := by decide +kernel
theorem dX4_body_195 : decode cX4_body 195 = .ok (.ireturn, 1) := by decide +kernel
theorem dX4_body_196 : decode cX4_body 196 = .ok (.aload_n 0, 1) := by decide +kernel
theorem dX4_body_197 : decode cX4_body 197 = .ok (.bipush 20, 2) := by decide +kernel
theorem dX4_body_199 : decode cX4_body 199 = .ok (.iload_n 2, 1) := by decide +kernel
theorem dX4_body_200 : decode cX4_body 200 = .ok (.iload 4, 2) := by decide +kernel
theorem dX4_body_202 : decode cX4_body 202 = .ok (.invokevirtual 289, 3) := by decide +kernel
theorem dX4_body_205 : decode cX4_body 205 = .ok (.aload_n 0, 1) := by decide +kernel
theorem dX4_body_206 : decode cX4_body 206 = .ok (.aload_n 0, 1) := by decide +kernel
theorem dX4_body_207 : decode cX4_body 207 = .ok (.iload_n 2, 1) := by decide +kernel
theorem dX4_body_208 : decode cX4_body 208 = .ok (.invokevirtual 283, 3) := by decide +kernel
theorem dX4_body_211 : decode cX4_body 211 = .ok (.iload_n 2, 1) := by decide +kernel
theorem dX4_body_212 : decode cX4_body 212 = .ok (.iload 4, 2) := by decide +kernel
theorem dX4_body_214 : decode cX4_body 214 = .ok (.invokevirtual 289, 3) := by decide +kernel
theorem dX4_body_217 : decode cX4_body 217 = .ok (.isub, 1) := by decide +kernel
theorem dX4_body_218 : decode cX4_body 218 = .ok (.ireturn, 1) := by decide +kernel
theorem dX4_body_219 : decode cX4_body 219 = .ok (.iconst 2, 1) := by decide +kernel
theorem dX4_body_220 : decode cX4_body 220 = .ok (.aload_n 0, 1) := by decide +kernel
theorem dX4_body_221 : decode cX4_body 221 = .ok (.bipush 21, 2) := by decide +kernel
theorem dX4_body_223 : decode cX4_body 223 = .ok (.iload_n 2, 1) := by decide +kernel
theorem dX4_body_224 : decode cX4_body 224 = .ok (.iload 4, 2) := by decide +kernel
theorem dX4_body_226 : decode cX4_body 226 = .ok (.invokevirtual 289, 3) := by decide +kernel
theorem dX4_body_229 : decode cX4_body 229 = .ok (.imul, 1) := by decide +kernel
theorem dX4_body_230 : decode cX4_body 230 = .ok (.ireturn, 1) := by decide +kernel
theorem dX4_body_231 : decode cX4_body 231 = .ok (.iconst 0, 1) := by decide +kernel
theorem dX4_body_232 : decode cX4_body 232 = .ok (.ireturn, 1) := by decide +kernel
