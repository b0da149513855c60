theorem dX0_init_0 : decode cX0_init 0 = .ok (.aload_n 0, 1) := by decide +kernel
theorem dX0_init_1 : decode cX0_init 1 = .ok (.invokespecial 3, 3) := by decide +kernel
theorem dX0_init_4 : decode cX0_init 4 = .ok (.aload_n 0, 1) := by decide +kernel
theorem dX0_init_5 : decode cX0_init 5 = .ok (.bipush 24, 2) := by decide +kernel
theorem dX0_init_7 : decode cX0_init 7 = .ok (.anewarray 9, 3) := by decide +kernel
theorem dX0_init_10 : decode cX0_init 10 = .ok (.putfield 11, 3) := by decide +kernel
theorem dX0_init_13 : decode cX0_init 13 = .ok (.iconst 0, 1) := by decide +kernel
theorem dX0_init_14 : decode cX0_init 14 = .ok (.istore_n 1, 1) := by decide +kernel
theorem dX0_init_15 : decode cX0_init 15 = .ok (.iload_n 1, 1) := by decide +kernel
theorem dX0_init_16 : decode cX0_init 16 = .ok (.bipush 24, 2) := by decide +kernel
theorem dX0_init_18 : decode cX0_init 18 = .ok (.if_icmp .ge 22, 3) := by decide +kernel
theorem dX0_init_21 : decode cX0_init 21 = .ok (.aload_n 0, 1) := by decide +kernel
theorem dX0_init_22 : decode cX0_init 22 = .ok (.getfield 11, 3) := by decide +kernel
theorem dX0_init_25 : decode cX0_init 25 = .ok (.iload_n 1, 1) := by decide +kernel
theorem dX0_init_26 : decode cX0_init 26 = .ok (.new 9, 3) := by decide +kernel
theorem dX0_init_29 : decode cX0_init 29 = .ok (.dup, 1) := by decide +kernel
theorem dX0_init_30 : decode cX0_init 30 = .ok (.invokespecial 17, 3) := by decide +kernel
theorem dX0_init_33 : decode cX0_init 33 = .ok (.aastore, 1) := by decide +kernel
theorem dX0_init_34 : decode cX0_init 34 = .ok (.iinc 1 1, 3) := by decide +kernel
theorem dX0_init_37 : decode cX0_init 37 = .ok (.goto (-22), 3) := by decide +kernel
theorem dX0_init_40 : decode cX0_init 40 = .ok (.return_, 1) := by decide +kernel
theorem dX0_forget_0 : decode cX0_forget 0 = .ok (.aload_n 0, 1) := by decide +kernel
theorem dX0_forget_1 : decode cX0_forget 1 = .ok (.iconst 0, 1) := by decide +kernel
theorem dX0_forget_2 : decode cX0_forget 2 = .ok (.putfield 18, 3) := by decide +kernel
theorem dX0_forget_5 : decode cX0_forget 5 = .ok (.return_, 1) := by decide +kernel
theorem dX0_keep_0 : decode cX0_keep 0 = .ok (.aload_n 0, 1) := by decide +kernel
theorem dX0_keep_1 : decode cX0_keep 1 = .ok (.getfield 11, 3) := by decide +kernel
theorem dX0_keep_4 : decode cX0_keep 4 = .ok (.aload_n 0, 1) := by decide +kernel
theorem dX0_keep_5 : decode cX0_keep 5 = .ok (.getfield 22, 3) := by decide +kernel
theorem dX0_keep_8 : decode cX0_keep 8 = .ok (.aload_n 0, 1) := by decide +kernel
theorem dX0_keep_9 : decode cX0_keep 9 = .ok (.getfield 18, 3) := by decide +kernel
theorem dX0_keep_12 : decode cX0_keep 12 = .ok (.iadd, 1) := by decide +kernel
theorem dX0_keep_13 : decode cX0_keep 13 = .ok (.bipush 24, 2) := by decide +kernel
theorem dX0_keep_15 : decode cX0_keep 15 = .ok (.irem, 1) := by decide +kernel
theorem dX0_keep_16 : decode cX0_keep 16 = .ok (.aaload, 1) := by decide +kernel
theorem dX0_keep_17 : decode cX0_keep 17 = .ok (.aload_n 1, 1) := by decide +kernel
theorem dX0_keep_18 : decode cX0_keep 18 = .ok (.invokevirtual 25, 3) := by decide +kernel
theorem dX0_keep_21 : decode cX0_keep 21 = .ok (.aload_n 0, 1) := by decide +kernel
theorem dX0_keep_22 : decode cX0_keep 22 = .ok (.getfield 18, 3) := by decide +kernel
theorem dX0_keep_25 : decode cX0_keep 25 = .ok (.bipush 24, 2) := by decide +kernel
theorem dX0_keep_27 : decode cX0_keep 27 = .ok (.if_icmp .ge 16, 3) := by decide +kernel
theorem dX0_keep_30 : decode cX0_keep 30 = .ok (.aload_n 0, 1) := by decide +kernel
theorem dX0_keep_31 : decode cX0_keep 31 = .ok (.dup, 1) := by decide +kernel
theorem dX0_keep_32 : decode cX0_keep 32 = .ok (.getfield 18, 3) := by decide +kernel
theorem dX0_keep_35 : decode cX0_keep 35 = .ok (.iconst 1, 1) := by decide +kernel
theorem dX0_keep_36 : decode cX0_keep 36 = .ok (.iadd, 1) := by decide +kernel
theorem dX0_keep_37 : decode cX0_keep 37 = .ok (.putfield 18, 3) := by decide +kernel
theorem dX0_keep_40 : decode cX0_keep 40 = .ok (.goto 16, 3) := by decide +kernel
theorem dX0_keep_43 : decode cX0_keep 43 = .ok (.aload_n 0, 1) := by decide +kernel
theorem dX0_keep_44 : decode cX0_keep 44 = .ok (.aload_n 0, 1) := by decide +kernel
theorem dX0_keep_45 : decode cX0_keep 45 = .ok (.getfield 22, 3) := by decide +kernel
theorem dX0_keep_48 : decode cX0_keep 48 = .ok (.iconst 1, 1) := by decide +kernel
theorem dX0_keep_49 : decode cX0_keep 49 = .ok (.iadd, 1) := by decide +kernel
theorem dX0_keep_50 : decode cX0_keep 50 = .ok (.bipush 24, 2) := by decide +kernel
theorem dX0_keep_52 : decode cX0_keep 52 = .ok (.irem, 1) := by decide +kernel
theorem dX0_keep_53 : decode cX0_keep 53 = .ok (.putfield 22, 3) := by decide +kernel
theorem dX0_keep_56 : decode cX0_keep 56 = .ok (.return_, 1) := by decide +kernel
theorem dX0_takeBack_0 : decode cX0_takeBack 0 = .ok (.aload_n 0, 1) := by decide +kernel
theorem dX0_takeBack_1 : decode cX0_takeBack 1 = .ok (.getfield 18, 3) := by decide +kernel
theorem dX0_takeBack_4 : decode cX0_takeBack 4 = .ok (.ifCond .ne 5, 3) := by decide +kernel
theorem dX0_takeBack_7 : decode cX0_takeBack 7 = .ok (.iconst 0, 1) := by decide +kernel
theorem dX0_takeBack_8 : decode cX0_takeBack 8 = .ok (.ireturn, 1) := by decide +kernel
theorem dX0_takeBack_9 : decode cX0_takeBack 9 = .ok (.aload_n 0, 1) := by decide +kernel
theorem dX0_takeBack_10 : decode cX0_takeBack 10 = .ok (.dup, 1) := by decide +kernel
theorem dX0_takeBack_11 : decode cX0_takeBack 11 = .ok (.getfield 18, 3) := by decide +kernel
theorem dX0_takeBack_14 : decode cX0_takeBack 14 = .ok (.iconst 1, 1) := by decide +kernel
theorem dX0_takeBack_15 : decode cX0_takeBack 15 = .ok (.isub, 1) := by decide +kernel
theorem dX0_takeBack_16 : decode cX0_takeBack 16 = .ok (.putfield 18, 3) := by decide +kernel
theorem dX0_takeBack_19 : decode cX0_takeBack 19 = .ok (.aload_n 1, 1) := by decide +kernel
theorem dX0_takeBack_20 : decode cX0_takeBack 20 = .ok (.aload_n 0, 1) := by decide +kernel
theorem dX0_takeBack_21 : decode cX0_takeBack 21 = .ok (.getfield 11, 3) := by decide +kernel
theorem dX0_takeBack_24 : decode cX0_takeBack 24 = .ok (.aload_n 0, 1) := by decide +kernel
theorem dX0_takeBack_25 : decode cX0_takeBack 25 = .ok (.getfield 22, 3) := by decide +kernel
theorem dX0_takeBack_28 : decode cX0_takeBack 28 = .ok (.aload_n 0, 1) := by decide +kernel
theorem dX0_takeBack_29 : decode cX0_takeBack 29 = .ok (.getfield 18, 3) := by decide +kernel
theorem dX0_takeBack_32 : decode cX0_takeBack 32 = .ok (.iadd, 1) := by decide +kernel
theorem dX0_takeBack_33 : decode cX0_takeBack 33 = .ok (.bipush 24, 2) := by decide +kernel
theorem dX0_takeBack_35 : decode cX0_takeBack 35 = .ok (.irem, 1) := by decide +kernel
theorem dX0_takeBack_36 : decode cX0_takeBack 36 = .ok (.aaload, 1) := by decide +kernel
theorem dX0_takeBack_37 : decode cX0_takeBack 37 = .ok (.invokevirtual 25, 3) := by decide +kernel
theorem dX0_takeBack_40 : decode cX0_takeBack 40 = .ok (.iconst 1, 1) := by decide +kernel
theorem dX0_takeBack_41 : decode cX0_takeBack 41 = .ok (.ireturn, 1) := by decide +kernel
theorem dX1_init_0 : decode cX1_init 0 = .ok (.aload_n 0, 1) := by decide +kernel
theorem dX1_init_1 : decode cX1_init 1 = .ok (.invokespecial 3, 3) := by decide +kernel
theorem dX1_init_4 : decode cX1_init 4 = .ok (.aload_n 0, 1) := by decide +kernel
theorem dX1_init_5 : decode cX1_init 5 = .ok (.bipush 120, 2) := by decide +kernel
theorem dX1_init_7 : decode cX1_init 7 = .ok (.newarray .int, 2) := by decide +kernel
theorem dX1_init_9 : decode cX1_init 9 = .ok (.putfield 9, 3) := by decide +kernel
theorem dX1_init_12 : decode cX1_init 12 = .ok (.return_, 1) := by decide +kernel
theorem dX1_add_0 : decode cX1_add 0 = .ok (.aload_n 0, 1) := by decide +kernel
theorem dX1_add_1 : decode cX1_add 1 = .ok (.getfield 15, 3) := by decide +kernel
theorem dX1_add_4 : decode cX1_add 4 = .ok (.bipush 120, 2) := by decide +kernel
theorem dX1_add_6 : decode cX1_add 6 = .ok (.if_icmp .lt 5, 3) := by decide +kernel
theorem dX1_add_9 : decode cX1_add 9 = .ok (.iconst 0, 1) := by decide +kernel
theorem dX1_add_10 : decode cX1_add 10 = .ok (.ireturn, 1) := by decide +kernel
theorem dX1_add_11 : decode cX1_add 11 = .ok (.aload_n 0, 1) := by decide +kernel
theorem dX1_add_12 : decode cX1_add 12 = .ok (.getfield 9, 3) := by decide +kernel
theorem dX1_add_15 : decode cX1_add 15 = .ok (.aload_n 0, 1) := by decide +kernel
theorem dX1_add_16 : decode cX1_add 16 = .ok (.getfield 15, 3) := by decide +kernel
theorem dX1_add_19 : decode cX1_add 19 = .ok (.iload_n 1, 1) := by decide +kernel
theorem dX1_add_20 : decode cX1_add 20 = .ok (.iastore, 1) := by decide +kernel
theorem dX1_add_21 : decode cX1_add 21 = .ok (.aload_n 0, 1) := by decide +kernel
theorem dX1_add_22 : decode cX1_add 22 = .ok (.dup, 1) := by decide +kernel
theorem dX1_add_23 : decode cX1_add 23 = .ok (.getfield 15, 3) := by decide +kernel
theorem dX1_add_26 : decode cX1_add 26 = .ok (.iconst 1, 1) := by decide +kernel
theorem dX1_add_27 : decode cX1_add 27 = .ok (.iadd, 1) := by decide +kernel
theorem dX1_add_28 : decode cX1_add 28 = .ok (.putfield 15, 3) := by decide +kernel
theorem dX1_add_31 : decode cX1_add 31 = .ok (.iconst 1, 1) := by decide +kernel
theorem dX1_add_32 : decode cX1_add 32 = .ok (.ireturn, 1) := by decide +kernel
theorem dX1_read_0 : decode cX1_read 0 = .ok (.aload_n 1, 1) := by decide +kernel
theorem dX1_read_1 : decode cX1_read 1 = .ok (.invokevirtual 19, 3) := by decide +kernel
theorem dX1_read_4 : decode cX1_read 4 = .ok (.aload_n 0, 1) := by decide +kernel
theorem dX1_read_5 : decode cX1_read 5 = .ok (.iconst 0, 1) := by decide +kernel
theorem dX1_read_6 : decode cX1_read 6 = .ok (.putfield 24, 3) := by decide +kernel
theorem dX1_read_9 : decode cX1_read 9 = .ok (.aload_n 0, 1) := by decide +kernel
theorem dX1_read_10 : decode cX1_read 10 = .ok (.invokevirtual 27, 3) := by decide +kernel
theorem dX1_read_13 : decode cX1_read 13 = .ok (.aload_n 0, 1) := by decide +kernel
theorem dX1_read_14 : decode cX1_read 14 = .ok (.aload_n 1, 1) := by decide +kernel
theorem dX1_read_15 : decode cX1_read 15 = .ok (.invokevirtual 30, 3) := by decide +kernel
theorem dX1_read_18 : decode cX1_read 18 = .ok (.ifCond .eq 23, 3) := by decide +kernel
theorem dX1_read_21 : decode cX1_read 21 = .ok (.aload_n 0, 1) := by decide +kernel
theorem dX1_read_22 : decode cX1_read 22 = .ok (.aload_n 1, 1) := by decide +kernel
theorem dX1_read_23 : decode cX1_read 23 = .ok (.invokevirtual 34, 3) := by decide +kernel
theorem dX1_read_26 : decode cX1_read 26 = .ok (.ifCond .eq 15, 3) := by decide +kernel
theorem dX1_read_29 : decode cX1_read 29 = .ok (.aload_n 0, 1) := by decide +kernel
theorem dX1_read_30 : decode cX1_read 30 = .ok (.aload_n 1, 1) := by decide +kernel
theorem dX1_read_31 : decode cX1_read 31 = .ok (.invokevirtual 37, 3) := by decide +kernel
theorem dX1_read_34 : decode cX1_read 34 = .ok (.ifCond .eq 7, 3) := by decide +kernel
theorem dX1_read_37 : decode cX1_read 37 = .ok (.iconst 1, 1) := by decide +kernel
theorem dX1_read_38 : decode cX1_read 38 = .ok (.goto 4, 3) := by decide +kernel
theorem dX1_read_41 : decode cX1_read 41 = .ok (.iconst 0, 1) := by decide +kernel
theorem dX1_read_42 : decode cX1_read 42 = .ok (.istore_n 2, 1) := by decide +kernel
theorem dX1_read_43 : decode cX1_read 43 = .ok (.aload_n 0, 1) := by decide +kernel
theorem dX1_read_44 : decode cX1_read 44 = .ok (.iconst 0, 1) := by decide +kernel
theorem dX1_read_45 : decode cX1_read 45 = .ok (.putfield 15, 3) := by decide +kernel
theorem dX1_read_48 : decode cX1_read 48 = .ok (.iload_n 2, 1) := by decide +kernel
theorem dX1_read_49 : decode cX1_read 49 = .ok (.ireturn, 1) := by decide +kernel
theorem dX1_readLaw_0 : decode cX1_readLaw 0 = .ok (.aload_n 0, 1) := by decide +kernel
theorem dX1_readLaw_1 : decode cX1_readLaw 1 = .ok (.bipush 100, 2) := by decide +kernel
theorem dX1_readLaw_3 : decode cX1_readLaw 3 = .ok (.invokevirtual 40, 3) := by decide +kernel
theorem dX1_readLaw_6 : decode cX1_readLaw 6 = .ok (.ifCond .ne 5, 3) := by decide +kernel
theorem dX1_readLaw_9 : decode cX1_readLaw 9 = .ok (.iconst 0, 1) := by decide +kernel
theorem dX1_readLaw_10 : decode cX1_readLaw 10 = .ok (.ireturn, 1) := by decide +kernel
theorem dX1_readLaw_11 : decode cX1_readLaw 11 = .ok (.aload_n 1, 1) := by decide +kernel
theorem dX1_readLaw_12 : decode cX1_readLaw 12 = .ok (.aload_n 0, 1) := by decide +kernel
theorem dX1_readLaw_13 : decode cX1_readLaw 13 = .ok (.iconst 1, 1) := by decide +kernel
theorem dX1_readLaw_14 : decode cX1_readLaw 14 = .ok (.bipush 9, 2) := by decide +kernel
theorem dX1_readLaw_16 : decode cX1_readLaw 16 = .ok (.invokevirtual 44, 3) := by decide +kernel
theorem dX1_readLaw_19 : decode cX1_readLaw 19 = .ok (.putfield 48, 3) := by decide +kernel
theorem dX1_readLaw_22 : decode cX1_readLaw 22 = .ok (.aload_n 1, 1) := by decide +kernel
theorem dX1_readLaw_23 : decode cX1_readLaw 23 = .ok (.getfield 48, 3) := by decide +kernel
theorem dX1_readLaw_26 : decode cX1_readLaw 26 = .ok (.ifCond .lt 12, 3) := by decide +kernel
theorem dX1_readLaw_29 : decode cX1_readLaw 29 = .ok (.aload_n 0, 1) := by decide +kernel
theorem dX1_readLaw_30 : decode cX1_readLaw 30 = .ok (.bipush 44, 2) := by decide +kernel
theorem dX1_readLaw_32 : decode cX1_readLaw 32 = .ok (.invokevirtual 40, 3) := by decide +kernel
theorem dX1_readLaw_35 : decode cX1_readLaw 35 = .ok (.ifCond .ne 5, 3) := by decide +kernel
theorem dX1_readLaw_38 : decode cX1_readLaw 38 = .ok (.iconst 0, 1) := by decide +kernel
theorem dX1_readLaw_39 : decode cX1_readLaw 39 = .ok (.ireturn, 1) := by decide +kernel
theorem dX1_readLaw_40 : decode cX1_readLaw 40 = .ok (.aload_n 1, 1) := by decide +kernel
theorem dX1_readLaw_41 : decode cX1_readLaw 41 = .ok (.aload_n 0, 1) := by decide +kernel
theorem dX1_readLaw_42 : decode cX1_readLaw 42 = .ok (.iconst 0, 1) := by decide +kernel
theorem dX1_readLaw_43 : decode cX1_readLaw 43 = .ok (.bipush 9, 2) := by decide +kernel
theorem dX1_readLaw_45 : decode cX1_readLaw 45 = .ok (.invokevirtual 44, 3) := by decide +kernel
theorem dX1_readLaw_48 : decode cX1_readLaw 48 = .ok (.putfield 51, 3) := by decide +kernel
theorem dX1_readLaw_51 : decode cX1_readLaw 51 = .ok (.aload_n 1, 1) := by decide +kernel
theorem dX1_readLaw_52 : decode cX1_readLaw 52 = .ok (.getfield 51, 3) := by decide +kernel
theorem dX1_readLaw_55 : decode cX1_readLaw 55 = .ok (.ifCond .lt 16, 3) := by decide +kernel
theorem dX1_readLaw_58 : decode cX1_readLaw 58 = .ok (.aload_n 0, 1) := by decide +kernel
theorem dX1_readLaw_59 : decode cX1_readLaw 59 = .ok (.bipush 59, 2) := by decide +kernel
theorem dX1_readLaw_61 : decode cX1_readLaw 61 = .ok (.invokevirtual 40, 3) := by decide +kernel
theorem dX1_readLaw_64 : decode cX1_readLaw 64 = .ok (.ifCond .eq 7, 3) := by decide +kernel
theorem dX1_readLaw_67 : decode cX1_readLaw 67 = .ok (.iconst 1, 1) := by decide +kernel
theorem dX1_readLaw_68 : decode cX1_readLaw 68 = .ok (.goto 4, 3) := by decide +kernel
theorem dX1_readLaw_71 : decode cX1_readLaw 71 = .ok (.iconst 0, 1) := by decide +kernel
theorem dX1_readLaw_72 : decode cX1_readLaw 72 = .ok (.ireturn, 1) := by decide +kernel
theorem dX1_readMen_0 : decode cX1_readMen 0 = .ok (.iconst 0, 1) := by decide +kernel
theorem dX1_readMen_1 : decode cX1_readMen 1 = .ok (.istore_n 2, 1) := by decide +kernel
theorem dX1_readMen_2 : decode cX1_readMen 2 = .ok (.iload_n 2, 1) := by decide +kernel
theorem dX1_readMen_3 : decode cX1_readMen 3 = .ok (.iconst 5, 1) := by decide +kernel
theorem dX1_readMen_4 : decode cX1_readMen 4 = .ok (.if_icmp .gt 56, 3) := by decide +kernel
theorem dX1_readMen_7 : decode cX1_readMen 7 = .ok (.iload_n 2, 1) := by decide +kernel
theorem dX1_readMen_8 : decode cX1_readMen 8 = .ok (.ifCond .le 14, 3) := by decide +kernel
theorem dX1_readMen_11 : decode cX1_readMen 11 = .ok (.aload_n 0, 1) := by decide +kernel
theorem dX1_readMen_12 : decode cX1_readMen 12 = .ok (.getfield 54, 3) := by decide +kernel
theorem dX1_readMen_15 : decode cX1_readMen 15 = .ok (.bipush 109, 2) := by decide +kernel
theorem dX1_readMen_17 : decode cX1_readMen 17 = .ok (.if_icmp .eq 5, 3) := by decide +kernel
theorem dX1_readMen_20 : decode cX1_readMen 20 = .ok (.iconst 1, 1) := by decide +kernel
theorem dX1_readMen_21 : decode cX1_readMen 21 = .ok (.ireturn, 1) := by decide +kernel
theorem dX1_readMen_22 : decode cX1_readMen 22 = .ok (.iload_n 2, 1) := by decide +kernel
theorem dX1_readMen_23 : decode cX1_readMen 23 = .ok (.iconst 5, 1) := by decide +kernel
theorem dX1_readMen_24 : decode cX1_readMen 24 = .ok (.if_icmp .ne 9, 3) := by decide +kernel
theorem dX1_readMen_27 : decode cX1_readMen 27 = .ok (.aload_n 0, 1) := by decide +kernel
theorem dX1_readMen_28 : decode cX1_readMen 28 = .ok (.iconst 3, 1) := by decide +kernel
theorem dX1_readMen_29 : decode cX1_readMen 29 = .ok (.invokevirtual 57, 3) := by decide +kernel
theorem dX1_readMen_32 : decode cX1_readMen 32 = .ok (.ireturn, 1) := by decide +kernel
theorem dX1_readMen_33 : decode cX1_readMen 33 = .ok (.aload_n 0, 1) := by decide +kernel
theorem dX1_readMen_34 : decode cX1_readMen 34 = .ok (.aload_n 1, 1) := by decide +kernel
theorem dX1_readMen_35 : decode cX1_readMen 35 = .ok (.iload_n 2, 1) := by decide +kernel
theorem dX1_readMen_36 : decode cX1_readMen 36 = .ok (.invokevirtual 60, 3) := by decide +kernel
theorem dX1_readMen_39 : decode cX1_readMen 39 = .ok (.ifCond .ne 5, 3) := by decide +kernel
theorem dX1_readMen_42 : decode cX1_readMen 42 = .ok (.iconst 0, 1) := by decide +kernel
theorem dX1_readMen_43 : decode cX1_readMen 43 = .ok (.ireturn, 1) := by decide +kernel
theorem dX1_readMen_44 : decode cX1_readMen 44 = .ok (.aload_n 1, 1) := by decide +kernel
theorem dX1_readMen_45 : decode cX1_readMen 45 = .ok (.dup, 1) := by decide +kernel
theorem dX1_readMen_46 : decode cX1_readMen 46 = .ok (.getfield 64, 3) := by decide +kernel
theorem dX1_readMen_49 : decode cX1_readMen 49 = .ok (.iconst 1, 1) := by decide +kernel
theorem dX1_readMen_50 : decode cX1_readMen 50 = .ok (.iadd, 1) := by decide +kernel
theorem dX1_readMen_51 : decode cX1_readMen 51 = .ok (.putfield 64, 3) := by decide +kernel
theorem dX1_readMen_54 : decode cX1_readMen 54 = .ok (.iinc 2 1, 3) := by decide +kernel
theorem dX1_readMen_57 : decode cX1_readMen 57 = .ok (.goto (-55), 3) := by decide +kernel
theorem dX1_readMen_60 : decode cX1_readMen 60 = .ok (.iconst 0, 1) := by decide +kernel
theorem dX1_readMen_61 : decode cX1_readMen 61 = .ok (.ireturn, 1) := by decide +kernel
theorem dX1_readMan_0 : decode cX1_readMan 0 = .ok (.aload_n 0, 1) := by decide +kernel
theorem dX1_readMan_1 : decode cX1_readMan 1 = .ok (.bipush 109, 2) := by decide +kernel
theorem dX1_readMan_3 : decode cX1_readMan 3 = .ok (.invokevirtual 40, 3) := by decide +kernel
theorem dX1_readMan_6 : decode cX1_readMan 6 = .ok (.ifCond .ne 5, 3) := by decide +kernel
theorem dX1_readMan_9 : decode cX1_readMan 9 = .ok (.iconst 0, 1) := by decide +kernel
theorem dX1_readMan_10 : decode cX1_readMan 10 = .ok (.ireturn, 1) := by decide +kernel
theorem dX1_readMan_11 : decode cX1_readMan 11 = .ok (.aload_n 1, 1) := by decide +kernel
theorem dX1_readMan_12 : decode cX1_readMan 12 = .ok (.getfield 67, 3) := by decide +kernel
theorem dX1_readMan_15 : decode cX1_readMan 15 = .ok (.iload_n 2, 1) := by decide +kernel
theorem dX1_readMan_16 : decode cX1_readMan 16 = .ok (.aload_n 0, 1) := by decide +kernel
theorem dX1_readMan_17 : decode cX1_readMan 17 = .ok (.iconst 0, 1) := by decide +kernel
theorem dX1_readMan_18 : decode cX1_readMan 18 = .ok (.bipush 60, 2) := by decide +kernel
theorem dX1_readMan_20 : decode cX1_readMan 20 = .ok (.invokevirtual 44, 3) := by decide +kernel
theorem dX1_readMan_23 : decode cX1_readMan 23 = .ok (.iastore, 1) := by decide +kernel
theorem dX1_readMan_24 : decode cX1_readMan 24 = .ok (.aload_n 1, 1) := by decide +kernel
theorem dX1_readMan_25 : decode cX1_readMan 25 = .ok (.getfield 67, 3) := by decide +kernel
theorem dX1_readMan_28 : decode cX1_readMan 28 = .ok (.iload_n 2, 1) := by decide +kernel
theorem dX1_readMan_29 : decode cX1_readMan 29 = .ok (.iaload, 1) := by decide +kernel
theorem dX1_readMan_30 : decode cX1_readMan 30 = .ok (.ifCond .lt 12, 3) := by decide +kernel
theorem dX1_readMan_33 : decode cX1_readMan 33 = .ok (.aload_n 0, 1) := by decide +kernel
theorem dX1_readMan_34 : decode cX1_readMan 34 = .ok (.bipush 44, 2) := by decide +kernel
theorem dX1_readMan_36 : decode cX1_readMan 36 = .ok (.invokevirtual 40, 3) := by decide +kernel
theorem dX1_readMan_39 : decode cX1_readMan 39 = .ok (.ifCond .ne 5, 3) := by decide +kernel
theorem dX1_readMan_42 : decode cX1_readMan 42 = .ok (.iconst 0, 1) := by decide +kernel
theorem dX1_readMan_43 : decode cX1_readMan 43 = .ok (.ireturn, 1) := by decide +kernel
theorem dX1_readMan_44 : decode cX1_readMan 44 = .ok (.aload_n 1, 1) := by decide +kernel
theorem dX1_readMan_45 : decode cX1_readMan 45 = .ok (.getfield 70, 3) := by decide +kernel
theorem dX1_readMan_48 : decode cX1_readMan 48 = .ok (.iload_n 2, 1) := by decide +kernel
theorem dX1_readMan_49 : decode cX1_readMan 49 = .ok (.aload_n 0, 1) := by decide +kernel
theorem dX1_readMan_50 : decode cX1_readMan 50 = .ok (.iconst 0, 1) := by decide +kernel
theorem dX1_readMan_51 : decode cX1_readMan 51 = .ok (.bipush 9, 2) := by decide +kernel
theorem dX1_readMan_53 : decode cX1_readMan 53 = .ok (.invokevirtual 44, 3) := by decide +kernel
theorem dX1_readMan_56 : decode cX1_readMan 56 = .ok (.iastore, 1) := by decide +kernel
theorem dX1_readMan_57 : decode cX1_readMan 57 = .ok (.aload_n 1, 1) := by decide +kernel
theorem dX1_readMan_58 : decode cX1_readMan 58 = .ok (.getfield 70, 3) := by decide +kernel
theorem dX1_readMan_61 : decode cX1_readMan 61 = .ok (.iload_n 2, 1) := by decide +kernel
theorem dX1_readMan_62 : decode cX1_readMan 62 = .ok (.iaload, 1) := by decide +kernel
theorem dX1_readMan_63 : decode cX1_readMan 63 = .ok (.ifCond .lt 16, 3) := by decide +kernel
theorem dX1_readMan_66 : decode cX1_readMan 66 = .ok (.aload_n 0, 1) := by decide +kernel
theorem dX1_readMan_67 : decode cX1_readMan 67 = .ok (.bipush 59, 2) := by decide +kernel
theorem dX1_readMan_69 : decode cX1_readMan 69 = .ok (.invokevirtual 40, 3) := by decide +kernel
theorem dX1_readMan_72 : decode cX1_readMan 72 = .ok (.ifCond .eq 7, 3) := by decide +kernel
theorem dX1_readMan_75 : decode cX1_readMan 75 = .ok (.iconst 1, 1) := by decide +kernel
theorem dX1_readMan_76 : decode cX1_readMan 76 = .ok (.goto 4, 3) := by decide +kernel
theorem dX1_readMan_79 : decode cX1_readMan 79 = .ok (.iconst 0, 1) := by decide +kernel
theorem dX1_readMan_80 : decode cX1_readMan 80 = .ok (.ireturn, 1) := by decide +kernel
theorem dX1_readLeavers_0 : decode cX1_readLeavers 0 = .ok (.iconst 0, 1) := by decide +kernel
theorem dX1_readLeavers_1 : decode cX1_readLeavers 1 = .ok (.istore_n 2, 1) := by decide +kernel
theorem dX1_readLeavers_2 : decode cX1_readLeavers 2 = .ok (.iload_n 2, 1) := by decide +kernel
theorem dX1_readLeavers_3 : decode cX1_readLeavers 3 = .ok (.bipush 6, 2) := by decide +kernel
theorem dX1_readLeavers_5 : decode cX1_readLeavers 5 = .ok (.if_icmp .gt 72, 3) := by decide +kernel
theorem dX1_readLeavers_8 : decode cX1_readLeavers 8 = .ok (.iload_n 2, 1) := by decide +kernel
theorem dX1_readLeavers_9 : decode cX1_readLeavers 9 = .ok (.ifCond .le 13, 3) := by decide +kernel
theorem dX1_readLeavers_12 : decode cX1_readLeavers 12 = .ok (.aload_n 0, 1) := by decide +kernel
theorem dX1_readLeavers_13 : decode cX1_readLeavers 13 = .ok (.getfield 54, 3) := by decide +kernel
theorem dX1_readLeavers_16 : decode cX1_readLeavers 16 = .ok (.iconst (-1), 1) := by decide +kernel
theorem dX1_readLeavers_17 : decode cX1_readLeavers 17 = .ok (.if_icmp .ne 5, 3) := by decide +kernel
theorem dX1_readLeavers_20 : decode cX1_readLeavers 20 = .ok (.iconst 1, 1) := by decide +kernel
theorem dX1_readLeavers_21 : decode cX1_readLeavers 21 = .ok (.ireturn, 1) := by decide +kernel
theorem dX1_readLeavers_22 : decode cX1_readLeavers 22 = .ok (.aload_n 0, 1) := by decide +kernel
theorem dX1_readLeavers_23 : decode cX1_readLeavers 23 = .ok (.getfield 54, 3) := by decide +kernel
theorem dX1_readLeavers_26 : decode cX1_readLeavers 26 = .ok (.invokestatic 73, 3) := by decide +kernel
theorem dX1_readLeavers_29 : decode cX1_readLeavers 29 = .ok (.ifCond .ne 9, 3) := by decide +kernel
theorem dX1_readLeavers_32 : decode cX1_readLeavers 32 = .ok (.aload_n 0, 1) := by decide +kernel
theorem dX1_readLeavers_33 : decode cX1_readLeavers 33 = .ok (.iconst 1, 1) := by decide +kernel
theorem dX1_readLeavers_34 : decode cX1_readLeavers 34 = .ok (.invokevirtual 57, 3) := by decide +kernel
theorem dX1_readLeavers_37 : decode cX1_readLeavers 37 = .ok (.ireturn, 1) := by decide +kernel
theorem dX1_readLeavers_38 : decode cX1_readLeavers 38 = .ok (.iload_n 2, 1) := by decide +kernel
theorem dX1_readLeavers_39 : decode cX1_readLeavers 39 = .ok (.bipush 6, 2) := by decide +kernel
theorem dX1_readLeavers_41 : decode cX1_readLeavers 41 = .ok (.if_icmp .ne 9, 3) := by decide +kernel
theorem dX1_readLeavers_44 : decode cX1_readLeavers 44 = .ok (.aload_n 0, 1) := by decide +kernel
theorem dX1_readLeavers_45 : decode cX1_readLeavers 45 = .ok (.iconst 3, 1) := by decide +kernel
theorem dX1_readLeavers_46 : decode cX1_readLeavers 46 = .ok (.invokevirtual 57, 3) := by decide +kernel
theorem dX1_readLeavers_49 : decode cX1_readLeavers 49 = .ok (.ireturn, 1) := by decide +kernel
theorem dX1_readLeavers_50 : decode cX1_readLeavers 50 = .ok (.aload_n 0, 1) := by decide +kernel
theorem dX1_readLeavers_51 : decode cX1_readLeavers 51 = .ok (.aload_n 1, 1) := by decide +kernel
theorem dX1_readLeavers_52 : decode cX1_readLeavers 52 = .ok (.iload_n 2, 1) := by decide +kernel
theorem dX1_readLeavers_53 : decode cX1_readLeavers 53 = .ok (.invokevirtual 77, 3) := by decide +kernel
theorem dX1_readLeavers_56 : decode cX1_readLeavers 56 = .ok (.ifCond .ne 5, 3) := by decide +kernel
theorem dX1_readLeavers_59 : decode cX1_readLeavers 59 = .ok (.iconst 0, 1) := by decide +kernel
theorem dX1_readLeavers_60 : decode cX1_readLeavers 60 = .ok (.ireturn, 1) := by decide +kernel
theorem dX1_readLeavers_61 : decode cX1_readLeavers 61 = .ok (.aload_n 1, 1) := by decide +kernel
theorem dX1_readLeavers_62 : decode cX1_readLeavers 62 = .ok (.dup, 1) := by decide +kernel
theorem dX1_readLeavers_63 : decode cX1_readLeavers 63 = .ok (.getfield 80, 3) := by decide +kernel
theorem dX1_readLeavers_66 : decode cX1_readLeavers 66 = .ok (.iconst 1, 1) := by decide +kernel
theorem dX1_readLeavers_67 : decode cX1_readLeavers 67 = .ok (.iadd, 1) := by decide +kernel
theorem dX1_readLeavers_68 : decode cX1_readLeavers 68 = .ok (.putfield 80, 3) := by decide +kernel
theorem dX1_readLeavers_71 : decode cX1_readLeavers 71 = .ok (.iinc 2 1, 3) := by decide +kernel
theorem dX1_readLeavers_74 : decode cX1_readLeavers 74 = .ok (.goto (-72), 3) := by decide +kernel
theorem dX1_readLeavers_77 : decode cX1_readLeavers 77 = .ok (.iconst 0, 1) := by decide +kernel
theorem dX1_readLeavers_78 : decode cX1_readLeavers 78 = .ok (.ireturn, 1) := by decide +kernel
theorem dX1_readLeaver_0 : decode cX1_readLeaver 0 = .ok (.aload_n 1, 1) := by decide +kernel
theorem dX1_readLeaver_1 : decode cX1_readLeaver 1 = .ok (.getfield 83, 3) := by decide +kernel
theorem dX1_readLeaver_4 : decode cX1_readLeaver 4 = .ok (.iload_n 2, 1) := by decide +kernel
theorem dX1_readLeaver_5 : decode cX1_readLeaver 5 = .ok (.aload_n 0, 1) := by decide +kernel
theorem dX1_readLeaver_6 : decode cX1_readLeaver 6 = .ok (.getfield 54, 3) := by decide +kernel
theorem dX1_readLeaver_9 : decode cX1_readLeaver 9 = .ok (.invokestatic 73, 3) := by decide +kernel
theorem dX1_readLeaver_12 : decode cX1_readLeaver 12 = .ok (.iastore, 1) := by decide +kernel
theorem dX1_readLeaver_13 : decode cX1_readLeaver 13 = .ok (.aload_n 0, 1) := by decide +kernel
theorem dX1_readLeaver_14 : decode cX1_readLeaver 14 = .ok (.invokevirtual 27, 3) := by decide +kernel
theorem dX1_readLeaver_17 : decode cX1_readLeaver 17 = .ok (.aload_n 1, 1) := by decide +kernel
theorem dX1_readLeaver_18 : decode cX1_readLeaver 18 = .ok (.getfield 86, 3) := by decide +kernel
theorem dX1_readLeaver_21 : decode cX1_readLeaver 21 = .ok (.iload_n 2, 1) := by decide +kernel
theorem dX1_readLeaver_22 : decode cX1_readLeaver 22 = .ok (.aload_n 0, 1) := by decide +kernel
theorem dX1_readLeaver_23 : decode cX1_readLeaver 23 = .ok (.iconst 0, 1) := by decide +kernel
theorem dX1_readLeaver_24 : decode cX1_readLeaver 24 = .ok (.aload_n 1, 1) := by decide +kernel
theorem dX1_readLeaver_25 : decode cX1_readLeaver 25 = .ok (.getfield 64, 3) := by decide +kernel
theorem dX1_readLeaver_28 : decode cX1_readLeaver 28 = .ok (.iconst 1, 1) := by decide +kernel
theorem dX1_readLeaver_29 : decode cX1_readLeaver 29 = .ok (.isub, 1) := by decide +kernel
theorem dX1_readLeaver_30 : decode cX1_readLeaver 30 = .ok (.invokevirtual 44, 3) := by decide +kernel
theorem dX1_readLeaver_33 : decode cX1_readLeaver 33 = .ok (.iastore, 1) := by decide +kernel
theorem dX1_readLeaver_34 : decode cX1_readLeaver 34 = .ok (.aload_n 1, 1) := by decide +kernel
theorem dX1_readLeaver_35 : decode cX1_readLeaver 35 = .ok (.getfield 86, 3) := by decide +kernel
theorem dX1_readLeaver_38 : decode cX1_readLeaver 38 = .ok (.iload_n 2, 1) := by decide +kernel
theorem dX1_readLeaver_39 : decode cX1_readLeaver 39 = .ok (.iaload, 1) := by decide +kernel
theorem dX1_readLeaver_40 : decode cX1_readLeaver 40 = .ok (.ifCond .lt 12, 3) := by decide +kernel
theorem dX1_readLeaver_43 : decode cX1_readLeaver 43 = .ok (.aload_n 0, 1) := by decide +kernel
theorem dX1_readLeaver_44 : decode cX1_readLeaver 44 = .ok (.bipush 44, 2) := by decide +kernel
theorem dX1_readLeaver_46 : decode cX1_readLeaver 46 = .ok (.invokevirtual 40, 3) := by decide +kernel
theorem dX1_readLeaver_49 : decode cX1_readLeaver 49 = .ok (.ifCond .ne 5, 3) := by decide +kernel
theorem dX1_readLeaver_52 : decode cX1_readLeaver 52 = .ok (.iconst 0, 1) := by decide +kernel
theorem dX1_readLeaver_53 : decode cX1_readLeaver 53 = .ok (.ireturn, 1) := by decide +kernel
theorem dX1_readLeaver_54 : decode cX1_readLeaver 54 = .ok (.aload_n 1, 1) := by decide +kernel
theorem dX1_readLeaver_55 : decode cX1_readLeaver 55 = .ok (.getfield 89, 3) := by decide +kernel
theorem dX1_readLeaver_58 : decode cX1_readLeaver 58 = .ok (.iload_n 2, 1) := by decide +kernel
theorem dX1_readLeaver_59 : decode cX1_readLeaver 59 = .ok (.aload_n 0, 1) := by decide +kernel
theorem dX1_readLeaver_60 : decode cX1_readLeaver 60 = .ok (.iconst 1, 1) := by decide +kernel
theorem dX1_readLeaver_61 : decode cX1_readLeaver 61 = .ok (.bipush 9, 2) := by decide +kernel
theorem dX1_readLeaver_63 : decode cX1_readLeaver 63 = .ok (.invokevirtual 44, 3) := by decide +kernel
theorem dX1_readLeaver_66 : decode cX1_readLeaver 66 = .ok (.iastore, 1) := by decide +kernel
theorem dX1_readLeaver_67 : decode cX1_readLeaver 67 = .ok (.aload_n 1, 1) := by decide +kernel
theorem dX1_readLeaver_68 : decode cX1_readLeaver 68 = .ok (.getfield 89, 3) := by decide +kernel
theorem dX1_readLeaver_71 : decode cX1_readLeaver 71 = .ok (.iload_n 2, 1) := by decide +kernel
theorem dX1_readLeaver_72 : decode cX1_readLeaver 72 = .ok (.iaload, 1) := by decide +kernel
theorem dX1_readLeaver_73 : decode cX1_readLeaver 73 = .ok (.ifCond .lt 12, 3) := by decide +kernel
theorem dX1_readLeaver_76 : decode cX1_readLeaver 76 = .ok (.aload_n 0, 1) := by decide +kernel
theorem dX1_readLeaver_77 : decode cX1_readLeaver 77 = .ok (.bipush 44, 2) := by decide +kernel
theorem dX1_readLeaver_79 : decode cX1_readLeaver 79 = .ok (.invokevirtual 40, 3) := by decide +kernel
theorem dX1_readLeaver_82 : decode cX1_readLeaver 82 = .ok (.ifCond .ne 5, 3) := by decide +kernel
theorem dX1_readLeaver_85 : decode cX1_readLeaver 85 = .ok (.iconst 0, 1) := by decide +kernel
theorem dX1_readLeaver_86 : decode cX1_readLeaver 86 = .ok (.ireturn, 1) := by decide +kernel
theorem dX1_readLeaver_87 : decode cX1_readLeaver 87 = .ok (.aload_n 1, 1) := by decide +kernel
theorem dX1_readLeaver_88 : decode cX1_readLeaver 88 = .ok (.getfield 92, 3) := by decide +kernel
theorem dX1_readLeaver_91 : decode cX1_readLeaver 91 = .ok (.iload_n 2, 1) := by decide +kernel
theorem dX1_readLeaver_92 : decode cX1_readLeaver 92 = .ok (.aload_n 0, 1) := by decide +kernel
theorem dX1_readLeaver_93 : decode cX1_readLeaver 93 = .ok (.iconst 0, 1) := by decide +kernel
theorem dX1_readLeaver_94 : decode cX1_readLeaver 94 = .ok (.iconst 4, 1) := by decide +kernel
theorem dX1_readLeaver_95 : decode cX1_readLeaver 95 = .ok (.invokevirtual 44, 3) := by decide +kernel
theorem dX1_readLeaver_98 : decode cX1_readLeaver 98 = .ok (.iastore, 1) := by decide +kernel
theorem dX1_readLeaver_99 : decode cX1_readLeaver 99 = .ok (.aload_n 1, 1) := by decide +kernel
theorem dX1_readLeaver_100 : decode cX1_readLeaver 100 = .ok (.getfield 92, 3) := by decide +kernel
theorem dX1_readLeaver_103 : decode cX1_readLeaver 103 = .ok (.iload_n 2, 1) := by decide +kernel
theorem dX1_readLeaver_104 : decode cX1_readLeaver 104 = .ok (.iaload, 1) := by decide +kernel
theorem dX1_readLeaver_105 : decode cX1_readLeaver 105 = .ok (.ifCond .lt 16, 3) := by decide +kernel
theorem dX1_readLeaver_108 : decode cX1_readLeaver 108 = .ok (.aload_n 0, 1) := by decide +kernel
theorem dX1_readLeaver_109 : decode cX1_readLeaver 109 = .ok (.bipush 59, 2) := by decide +kernel
theorem dX1_readLeaver_111 : decode cX1_readLeaver 111 = .ok (.invokevirtual 40, 3) := by decide +kernel
theorem dX1_readLeaver_114 : decode cX1_readLeaver 114 = .ok (.ifCond .eq 7, 3) := by decide +kernel
theorem dX1_readLeaver_117 : decode cX1_readLeaver 117 = .ok (.iconst 1, 1) := by decide +kernel
theorem dX1_readLeaver_118 : decode cX1_readLeaver 118 = .ok (.goto 4, 3) := by decide +kernel
theorem dX1_readLeaver_121 : decode cX1_readLeaver 121 = .ok (.iconst 0, 1) := by decide +kernel
theorem dX1_readLeaver_122 : decode cX1_readLeaver 122 = .ok (.ireturn, 1) := by decide +kernel
theorem dX1_kindOfSort_0 : decode cX1_kindOfSort 0 = .ok (.iload_n 0, 1) := by decide +kernel
theorem dX1_kindOfSort_1 : decode cX1_kindOfSort 1 = .ok (.lookupswitch 61 #[(102, 53), (105, 57), (112, 51), (115, 55), (119, 59)], 51) := by decide +kernel
theorem dX1_kindOfSort_52 : decode cX1_kindOfSort 52 = .ok (.iconst 1, 1) := by decide +kernel
theorem dX1_kindOfSort_53 : decode cX1_kindOfSort 53 = .ok (.ireturn, 1) := by decide +kernel
theorem dX1_kindOfSort_54 : decode cX1_kindOfSort 54 = .ok (.iconst 2, 1) := by decide +kernel
theorem dX1_kindOfSort_55 : decode cX1_kindOfSort 55 = .ok (.ireturn, 1) := by decide +kernel
theorem dX1_kindOfSort_56 : decode cX1_kindOfSort 56 = .ok (.iconst 3, 1) := by decide +kernel
theorem dX1_kindOfSort_57 : decode cX1_kindOfSort 57 = .ok (.ireturn, 1) := by decide +kernel
theorem dX1_kindOfSort_58 : decode cX1_kindOfSort 58 = .ok (.iconst 4, 1) := by decide +kernel
theorem dX1_kindOfSort_59 : decode cX1_kindOfSort 59 = .ok (.ireturn, 1) := by decide +kernel
theorem dX1_kindOfSort_60 : decode cX1_kindOfSort 60 = .ok (.iconst 5, 1) := by decide +kernel
theorem dX1_kindOfSort_61 : decode cX1_kindOfSort 61 = .ok (.ireturn, 1) := by decide +kernel
theorem dX1_kindOfSort_62 : decode cX1_kindOfSort 62 = .ok (.iconst 0, 1) := by decide +kernel
theorem dX1_kindOfSort_63 : decode cX1_kindOfSort 63 = .ok (.ireturn, 1) := by decide +kernel
theorem dX1_failBy_0 : decode cX1_failBy 0 = .ok (.aload_n 0, 1) := by decide +kernel
theorem dX1_failBy_1 : decode cX1_failBy 1 = .ok (.iload_n 1, 1) := by decide +kernel
theorem dX1_failBy_2 : decode cX1_failBy 2 = .ok (.putfield 95, 3) := by decide +kernel
theorem dX1_failBy_5 : decode cX1_failBy 5 = .ok (.aload_n 0, 1) := by decide +kernel
theorem dX1_failBy_6 : decode cX1_failBy 6 = .ok (.aload_n 0, 1) := by decide +kernel
theorem dX1_failBy_7 : decode cX1_failBy 7 = .ok (.getfield 98, 3) := by decide +kernel
theorem dX1_failBy_10 : decode cX1_failBy 10 = .ok (.putfield 101, 3) := by decide +kernel
theorem dX1_failBy_13 : decode cX1_failBy 13 = .ok (.iconst 0, 1) := by decide +kernel
theorem dX1_failBy_14 : decode cX1_failBy 14 = .ok (.ireturn, 1) := by decide +kernel
theorem dX1_take_0 : decode cX1_take 0 = .ok (.aload_n 0, 1) := by decide +kernel
theorem dX1_take_1 : decode cX1_take 1 = .ok (.getfield 54, 3) := by decide +kernel
theorem dX1_take_4 : decode cX1_take 4 = .ok (.iload_n 1, 1) := by decide +kernel
theorem dX1_take_5 : decode cX1_take 5 = .ok (.if_icmp .eq 9, 3) := by decide +kernel
theorem dX1_take_8 : decode cX1_take 8 = .ok (.aload_n 0, 1) := by decide +kernel
theorem dX1_take_9 : decode cX1_take 9 = .ok (.iconst 1, 1) := by decide +kernel
theorem dX1_take_10 : decode cX1_take 10 = .ok (.invokevirtual 57, 3) := by decide +kernel
theorem dX1_take_13 : decode cX1_take 13 = .ok (.ireturn, 1) := by decide +kernel
theorem dX1_take_14 : decode cX1_take 14 = .ok (.aload_n 0, 1) := by decide +kernel
theorem dX1_take_15 : decode cX1_take 15 = .ok (.invokevirtual 27, 3) := by decide +kernel
theorem dX1_take_18 : decode cX1_take 18 = .ok (.iconst 1, 1) := by decide +kernel
theorem dX1_take_19 : decode cX1_take 19 = .ok (.ireturn, 1) := by decide +kernel
theorem dX1_takeNumber_0 : decode cX1_takeNumber 0 = .ok (.aload_n 0, 1) := by decide +kernel
theorem dX1_takeNumber_1 : decode cX1_takeNumber 1 = .ok (.getfield 54, 3) := by decide +kernel
theorem dX1_takeNumber_4 : decode cX1_takeNumber 4 = .ok (.bipush (-2), 2) := by decide +kernel
theorem dX1_takeNumber_6 : decode cX1_takeNumber 6 = .ok (.if_icmp .eq 11, 3) := by decide +kernel
theorem dX1_takeNumber_9 : decode cX1_takeNumber 9 = .ok (.aload_n 0, 1) := by decide +kernel
theorem dX1_takeNumber_10 : decode cX1_takeNumber 10 = .ok (.iconst 1, 1) := by decide +kernel
theorem dX1_takeNumber_11 : decode cX1_takeNumber 11 = .ok (.invokevirtual 57, 3) := by decide +kernel
theorem dX1_takeNumber_14 : decode cX1_takeNumber 14 = .ok (.pop, 1) := by decide +kernel
theorem dX1_takeNumber_15 : decode cX1_takeNumber 15 = .ok (.iconst (-1), 1) := by decide +kernel
theorem dX1_takeNumber_16 : decode cX1_takeNumber 16 = .ok (.ireturn, 1) := by decide +kernel
theorem dX1_takeNumber_17 : decode cX1_takeNumber 17 = .ok (.aload_n 0, 1) := by decide +kernel
theorem dX1_takeNumber_18 : decode cX1_takeNumber 18 = .ok (.getfield 104, 3) := by decide +kernel
theorem dX1_takeNumber_21 : decode cX1_takeNumber 21 = .ok (.iload_n 1, 1) := by decide +kernel
theorem dX1_takeNumber_22 : decode cX1_takeNumber 22 = .ok (.iload_n 2, 1) := by decide +kernel
theorem dX1_takeNumber_23 : decode cX1_takeNumber 23 = .ok (.invokestatic 107, 3) := by decide +kernel
theorem dX1_takeNumber_26 : decode cX1_takeNumber 26 = .ok (.ifCond .ne 11, 3) := by decide +kernel
theorem dX1_takeNumber_29 : decode cX1_takeNumber 29 = .ok (.aload_n 0, 1) := by decide +kernel
theorem dX1_takeNumber_30 : decode cX1_takeNumber 30 = .ok (.iconst 2, 1) := by decide +kernel
theorem dX1_takeNumber_31 : decode cX1_takeNumber 31 = .ok (.invokevirtual 57, 3) := by decide +kernel
theorem dX1_takeNumber_34 : decode cX1_takeNumber 34 = .ok (.pop, 1) := by decide +kernel
theorem dX1_takeNumber_35 : decode cX1_takeNumber 35 = .ok (.iconst (-1), 1) := by decide +kernel
theorem dX1_takeNumber_36 : decode cX1_takeNumber 36 = .ok (.ireturn, 1) := by decide +kernel
theorem dX1_takeNumber_37 : decode cX1_takeNumber 37 = .ok (.aload_n 0, 1) := by decide +kernel
theorem dX1_takeNumber_38 : decode cX1_takeNumber 38 = .ok (.getfield 104, 3) := by decide +kernel
theorem dX1_takeNumber_41 : decode cX1_takeNumber 41 = .ok (.istore_n 3, 1) := by decide +kernel
theorem dX1_takeNumber_42 : decode cX1_takeNumber 42 = .ok (.aload_n 0, 1) := by decide +kernel
theorem dX1_takeNumber_43 : decode cX1_takeNumber 43 = .ok (.invokevirtual 27, 3) := by decide +kernel
theorem dX1_takeNumber_46 : decode cX1_takeNumber 46 = .ok (.iload_n 3, 1) := by decide +kernel
theorem dX1_takeNumber_47 : decode cX1_takeNumber 47 = .ok (.ireturn, 1) := by decide +kernel
theorem dX1_advance_0 : decode cX1_advance 0 = .ok (.aload_n 0, 1) := by decide +kernel
theorem dX1_advance_1 : decode cX1_advance 1 = .ok (.aload_n 0, 1) := by decide +kernel
theorem dX1_advance_2 : decode cX1_advance 2 = .ok (.getfield 24, 3) := by decide +kernel
theorem dX1_advance_5 : decode cX1_advance 5 = .ok (.putfield 98, 3) := by decide +kernel
theorem dX1_advance_8 : decode cX1_advance 8 = .ok (.aload_n 0, 1) := by decide +kernel
theorem dX1_advance_9 : decode cX1_advance 9 = .ok (.getfield 98, 3) := by decide +kernel
theorem dX1_advance_12 : decode cX1_advance 12 = .ok (.aload_n 0, 1) := by decide +kernel
theorem dX1_advance_13 : decode cX1_advance 13 = .ok (.getfield 15, 3) := by decide +kernel
theorem dX1_advance_16 : decode cX1_advance 16 = .ok (.if_icmp .lt 9, 3) := by decide +kernel
theorem dX1_advance_19 : decode cX1_advance 19 = .ok (.aload_n 0, 1) := by decide +kernel
theorem dX1_advance_20 : decode cX1_advance 20 = .ok (.iconst (-1), 1) := by decide +kernel
theorem dX1_advance_21 : decode cX1_advance 21 = .ok (.putfield 54, 3) := by decide +kernel
theorem dX1_advance_24 : decode cX1_advance 24 = .ok (.return_, 1) := by decide +kernel
theorem dX1_advance_25 : decode cX1_advance 25 = .ok (.aload_n 0, 1) := by decide +kernel
theorem dX1_advance_26 : decode cX1_advance 26 = .ok (.aload_n 0, 1) := by decide +kernel
theorem dX1_advance_27 : decode cX1_advance 27 = .ok (.getfield 9, 3) := by decide +kernel
theorem dX1_advance_30 : decode cX1_advance 30 = .ok (.aload_n 0, 1) := by decide +kernel
theorem dX1_advance_31 : decode cX1_advance 31 = .ok (.getfield 98, 3) := by decide +kernel
theorem dX1_advance_34 : decode cX1_advance 34 = .ok (.iaload, 1) := by decide +kernel
theorem dX1_advance_35 : decode cX1_advance 35 = .ok (.putfield 54, 3) := by decide +kernel
theorem dX1_advance_38 : decode cX1_advance 38 = .ok (.aload_n 0, 1) := by decide +kernel
theorem dX1_advance_39 : decode cX1_advance 39 = .ok (.aload_n 0, 1) := by decide +kernel
theorem dX1_advance_40 : decode cX1_advance 40 = .ok (.getfield 98, 3) := by decide +kernel
theorem dX1_advance_43 : decode cX1_advance 43 = .ok (.iconst 1, 1) := by decide +kernel
theorem dX1_advance_44 : decode cX1_advance 44 = .ok (.iadd, 1) := by decide +kernel
theorem dX1_advance_45 : decode cX1_advance 45 = .ok (.putfield 24, 3) := by decide +kernel
theorem dX1_advance_48 : decode cX1_advance 48 = .ok (.aload_n 0, 1) := by decide +kernel
theorem dX1_advance_49 : decode cX1_advance 49 = .ok (.getfield 54, 3) := by decide +kernel
theorem dX1_advance_52 : decode cX1_advance 52 = .ok (.invokestatic 111, 3) := by decide +kernel
theorem dX1_advance_55 : decode cX1_advance 55 = .ok (.ifCond .ne 4, 3) := by decide +kernel
theorem dX1_advance_58 : decode cX1_advance 58 = .ok (.return_, 1) := by decide +kernel
theorem dX1_advance_59 : decode cX1_advance 59 = .ok (.aload_n 0, 1) := by decide +kernel
theorem dX1_advance_60 : decode cX1_advance 60 = .ok (.aload_n 0, 1) := by decide +kernel
theorem dX1_advance_61 : decode cX1_advance 61 = .ok (.getfield 54, 3) := by decide +kernel
theorem dX1_advance_64 : decode cX1_advance 64 = .ok (.bipush 48, 2) := by decide +kernel
theorem dX1_advance_66 : decode cX1_advance 66 = .ok (.isub, 1) := by decide +kernel
theorem dX1_advance_67 : decode cX1_advance 67 = .ok (.putfield 104, 3) := by decide +kernel
theorem dX1_advance_70 : decode cX1_advance 70 = .ok (.aload_n 0, 1) := by decide +kernel
theorem dX1_advance_71 : decode cX1_advance 71 = .ok (.getfield 24, 3) := by decide +kernel
theorem dX1_advance_74 : decode cX1_advance 74 = .ok (.aload_n 0, 1) := by decide +kernel
theorem dX1_advance_75 : decode cX1_advance 75 = .ok (.getfield 15, 3) := by decide +kernel
theorem dX1_advance_78 : decode cX1_advance 78 = .ok (.if_icmp .ge 59, 3) := by decide +kernel
theorem dX1_advance_81 : decode cX1_advance 81 = .ok (.aload_n 0, 1) := by decide +kernel
theorem dX1_advance_82 : decode cX1_advance 82 = .ok (.getfield 9, 3) := by decide +kernel
theorem dX1_advance_85 : decode cX1_advance 85 = .ok (.aload_n 0, 1) := by decide +kernel
theorem dX1_advance_86 : decode cX1_advance 86 = .ok (.getfield 24, 3) := by decide +kernel
theorem dX1_advance_89 : decode cX1_advance 89 = .ok (.iaload, 1) := by decide +kernel
theorem dX1_advance_90 : decode cX1_advance 90 = .ok (.invokestatic 111, 3) := by decide +kernel
theorem dX1_advance_93 : decode cX1_advance 93 = .ok (.ifCond .eq 44, 3) := by decide +kernel
theorem dX1_advance_96 : decode cX1_advance 96 = .ok (.aload_n 0, 1) := by decide +kernel
theorem dX1_advance_97 : decode cX1_advance 97 = .ok (.bipush 10, 2) := by decide +kernel
theorem dX1_advance_99 : decode cX1_advance 99 = .ok (.aload_n 0, 1) := by decide +kernel
theorem dX1_advance_100 : decode cX1_advance 100 = .ok (.getfield 104, 3) := by decide +kernel
theorem dX1_advance_103 : decode cX1_advance 103 = .ok (.imul, 1) := by decide +kernel
theorem dX1_advance_104 : decode cX1_advance 104 = .ok (.aload_n 0, 1) := by decide +kernel
theorem dX1_advance_105 : decode cX1_advance 105 = .ok (.getfield 9, 3) := by decide +kernel
theorem dX1_advance_108 : decode cX1_advance 108 = .ok (.aload_n 0, 1) := by decide +kernel
theorem dX1_advance_109 : decode cX1_advance 109 = .ok (.getfield 24, 3) := by decide +kernel
theorem dX1_advance_112 : decode cX1_advance 112 = .ok (.iaload, 1) := by decide +kernel
theorem dX1_advance_113 : decode cX1_advance 113 = .ok (.iadd, 1) := by decide +kernel
theorem dX1_advance_114 : decode cX1_advance 114 = .ok (.bipush 48, 2) := by decide +kernel
theorem dX1_advance_116 : decode cX1_advance 116 = .ok (.isub, 1) := by decide +kernel
theorem dX1_advance_117 : decode cX1_advance 117 = .ok (.sipush 1000, 3) := by decide +kernel
theorem dX1_advance_120 : decode cX1_advance 120 = .ok (.irem, 1) := by decide +kernel
theorem dX1_advance_121 : decode cX1_advance 121 = .ok (.putfield 104, 3) := by decide +kernel
theorem dX1_advance_124 : decode cX1_advance 124 = .ok (.aload_n 0, 1) := by decide +kernel
theorem dX1_advance_125 : decode cX1_advance 125 = .ok (.dup, 1) := by decide +kernel
theorem dX1_advance_126 : decode cX1_advance 126 = .ok (.getfield 24, 3) := by decide +kernel
theorem dX1_advance_129 : decode cX1_advance 129 = .ok (.iconst 1, 1) := by decide +kernel
theorem dX1_advance_130 : decode cX1_advance 130 = .ok (.iadd, 1) := by decide +kernel
theorem dX1_advance_131 : decode cX1_advance 131 = .ok (.putfield 24, 3) := by decide +kernel
theorem dX1_advance_134 : decode cX1_advance 134 = .ok (.goto (-64), 3) := by decide +kernel
theorem dX1_advance_137 : decode cX1_advance 137 = .ok (.aload_n 0, 1) := by decide +kernel
theorem dX1_advance_138 : decode cX1_advance 138 = .ok (.aload_n 0, 1) := by decide +kernel
theorem dX1_advance_139 : decode cX1_advance 139 = .ok (.getfield 24, 3) := by decide +kernel
theorem dX1_advance_142 : decode cX1_advance 142 = .ok (.aload_n 0, 1) := by decide +kernel
theorem dX1_advance_143 : decode cX1_advance 143 = .ok (.getfield 98, 3) := by decide +kernel
theorem dX1_advance_146 : decode cX1_advance 146 = .ok (.isub, 1) := by decide +kernel
theorem dX1_advance_147 : decode cX1_advance 147 = .ok (.iconst 2, 1) := by decide +kernel
theorem dX1_advance_148 : decode cX1_advance 148 = .ok (.if_icmp .le 8, 3) := by decide +kernel
theorem dX1_advance_151 : decode cX1_advance 151 = .ok (.bipush (-3), 2) := by decide +kernel
theorem dX1_advance_153 : decode cX1_advance 153 = .ok (.goto 5, 3) := by decide +kernel
theorem dX1_advance_156 : decode cX1_advance 156 = .ok (.bipush (-2), 2) := by decide +kernel
theorem dX1_advance_158 : decode cX1_advance 158 = .ok (.putfield 54, 3) := by decide +kernel
theorem dX1_advance_161 : decode cX1_advance 161 = .ok (.return_, 1) := by decide +kernel
theorem dX1_isFigure_0 : decode cX1_isFigure 0 = .ok (.iload_n 0, 1) := by decide +kernel
theorem dX1_isFigure_1 : decode cX1_isFigure 1 = .ok (.bipush 48, 2) := by decide +kernel
theorem dX1_isFigure_3 : decode cX1_isFigure 3 = .ok (.if_icmp .lt 13, 3) := by decide +kernel
theorem dX1_isFigure_6 : decode cX1_isFigure 6 = .ok (.iload_n 0, 1) := by decide +kernel
theorem dX1_isFigure_7 : decode cX1_isFigure 7 = .ok (.bipush 57, 2) := by decide +kernel
theorem dX1_isFigure_9 : decode cX1_isFigure 9 = .ok (.if_icmp .gt 7, 3) := by decide +kernel
theorem dX1_isFigure_12 : decode cX1_isFigure 12 = .ok (.iconst 1, 1) := by decide +kernel
theorem dX1_isFigure_13 : decode cX1_isFigure 13 = .ok (.goto 4, 3) := by decide +kernel
theorem dX1_isFigure_16 : decode cX1_isFigure 16 = .ok (.iconst 0, 1) := by decide +kernel
theorem dX1_isFigure_17 : decode cX1_isFigure 17 = .ok (.ireturn, 1) := by decide +kernel
theorem dX2_init_0 : decode cX2_init 0 = .ok (.aload_n 0, 1) := by decide +kernel
theorem dX2_init_1 : decode cX2_init 1 = .ok (.invokespecial 3, 3) := by decide +kernel
theorem dX2_init_4 : decode cX2_init 4 = .ok (.aload_n 0, 1) := by decide +kernel
theorem dX2_init_5 : decode cX2_init 5 = .ok (.bipush 40, 2) := by decide +kernel
theorem dX2_init_7 : decode cX2_init 7 = .ok (.newarray .int, 2) := by decide +kernel
theorem dX2_init_9 : decode cX2_init 9 = .ok (.putfield 9, 3) := by decide +kernel
theorem dX2_init_12 : decode cX2_init 12 = .ok (.return_, 1) := by decide +kernel
theorem dX2_make_0 : decode cX2_make 0 = .ok (.iconst 0, 1) := by decide +kernel
theorem dX2_make_1 : decode cX2_make 1 = .ok (.istore_n 3, 1) := by decide +kernel
theorem dX2_make_2 : decode cX2_make 2 = .ok (.iload_n 3, 1) := by decide +kernel
theorem dX2_make_3 : decode cX2_make 3 = .ok (.bipush 40, 2) := by decide +kernel
theorem dX2_make_5 : decode cX2_make 5 = .ok (.if_icmp .ge 16, 3) := by decide +kernel
theorem dX2_make_8 : decode cX2_make 8 = .ok (.aload_n 0, 1) := by decide +kernel
theorem dX2_make_9 : decode cX2_make 9 = .ok (.getfield 9, 3) := by decide +kernel
theorem dX2_make_12 : decode cX2_make 12 = .ok (.iload_n 3, 1) := by decide +kernel
theorem dX2_make_13 : decode cX2_make 13 = .ok (.iconst 0, 1) := by decide +kernel
theorem dX2_make_14 : decode cX2_make 14 = .ok (.iastore, 1) := by decide +kernel
theorem dX2_make_15 : decode cX2_make 15 = .ok (.iinc 3 1, 3) := by decide +kernel
theorem dX2_make_18 : decode cX2_make 18 = .ok (.goto (-16), 3) := by decide +kernel
theorem dX2_make_21 : decode cX2_make 21 = .ok (.aload_n 0, 1) := by decide +kernel
theorem dX2_make_22 : decode cX2_make 22 = .ok (.iconst 1, 1) := by decide +kernel
theorem dX2_make_23 : decode cX2_make 23 = .ok (.putfield 15, 3) := by decide +kernel
theorem dX2_make_26 : decode cX2_make 26 = .ok (.aload_n 0, 1) := by decide +kernel
theorem dX2_make_27 : decode cX2_make 27 = .ok (.iload_n 1, 1) := by decide +kernel
theorem dX2_make_28 : decode cX2_make 28 = .ok (.putfield 19, 3) := by decide +kernel
theorem dX2_make_31 : decode cX2_make 31 = .ok (.aload_n 0, 1) := by decide +kernel
theorem dX2_make_32 : decode cX2_make 32 = .ok (.iload_n 2, 1) := by decide +kernel
theorem dX2_make_33 : decode cX2_make 33 = .ok (.putfield 23, 3) := by decide +kernel
theorem dX2_make_36 : decode cX2_make 36 = .ok (.return_, 1) := by decide +kernel
theorem dX2_holds_0 : decode cX2_holds 0 = .ok (.iload_n 1, 1) := by decide +kernel
theorem dX2_holds_1 : decode cX2_holds 1 = .ok (.ifCond .lt 21, 3) := by decide +kernel
theorem dX2_holds_4 : decode cX2_holds 4 = .ok (.iload_n 2, 1) := by decide +kernel
theorem dX2_holds_5 : decode cX2_holds 5 = .ok (.ifCond .lt 17, 3) := by decide +kernel
theorem dX2_holds_8 : decode cX2_holds 8 = .ok (.iload_n 1, 1) := by decide +kernel
theorem dX2_holds_9 : decode cX2_holds 9 = .ok (.aload_n 0, 1) := by decide +kernel
theorem dX2_holds_10 : decode cX2_holds 10 = .ok (.getfield 23, 3) := by decide +kernel
theorem dX2_holds_13 : decode cX2_holds 13 = .ok (.iload_n 2, 1) := by decide +kernel
theorem dX2_holds_14 : decode cX2_holds 14 = .ok (.isub, 1) := by decide +kernel
theorem dX2_holds_15 : decode cX2_holds 15 = .ok (.if_icmp .gt 7, 3) := by decide +kernel
theorem dX2_holds_18 : decode cX2_holds 18 = .ok (.iconst 1, 1) := by decide +kernel
theorem dX2_holds_19 : decode cX2_holds 19 = .ok (.goto 4, 3) := by decide +kernel
theorem dX2_holds_22 : decode cX2_holds 22 = .ok (.iconst 0, 1) := by decide +kernel
theorem dX2_holds_23 : decode cX2_holds 23 = .ok (.ireturn, 1) := by decide +kernel
theorem dX2_put_0 : decode cX2_put 0 = .ok (.aload_n 0, 1) := by decide +kernel
theorem dX2_put_1 : decode cX2_put 1 = .ok (.getfield 9, 3) := by decide +kernel
theorem dX2_put_4 : decode cX2_put 4 = .ok (.iload_n 1, 1) := by decide +kernel
theorem dX2_put_5 : decode cX2_put 5 = .ok (.aload_n 0, 1) := by decide +kernel
theorem dX2_put_6 : decode cX2_put 6 = .ok (.getfield 19, 3) := by decide +kernel
theorem dX2_put_9 : decode cX2_put 9 = .ok (.ifCond .ne 8, 3) := by decide +kernel
theorem dX2_put_12 : decode cX2_put 12 = .ok (.iload_n 2, 1) := by decide +kernel
theorem dX2_put_13 : decode cX2_put 13 = .ok (.i2b, 1) := by decide +kernel
theorem dX2_put_14 : decode cX2_put 14 = .ok (.goto 17, 3) := by decide +kernel
theorem dX2_put_17 : decode cX2_put 17 = .ok (.aload_n 0, 1) := by decide +kernel
theorem dX2_put_18 : decode cX2_put 18 = .ok (.getfield 19, 3) := by decide +kernel
theorem dX2_put_21 : decode cX2_put 21 = .ok (.iconst 1, 1) := by decide +kernel
theorem dX2_put_22 : decode cX2_put 22 = .ok (.if_icmp .ne 8, 3) := by decide +kernel
theorem dX2_put_25 : decode cX2_put 25 = .ok (.iload_n 2, 1) := by decide +kernel
theorem dX2_put_26 : decode cX2_put 26 = .ok (.i2s, 1) := by decide +kernel
theorem dX2_put_27 : decode cX2_put 27 = .ok (.goto 4, 3) := by decide +kernel
theorem dX2_put_30 : decode cX2_put 30 = .ok (.iload_n 2, 1) := by decide +kernel
theorem dX2_put_31 : decode cX2_put 31 = .ok (.iastore, 1) := by decide +kernel
theorem dX2_put_32 : decode cX2_put 32 = .ok (.aload_n 0, 1) := by decide +kernel
theorem dX2_put_33 : decode cX2_put 33 = .ok (.getfield 9, 3) := by decide +kernel
theorem dX2_put_36 : decode cX2_put 36 = .ok (.iload_n 1, 1) := by decide +kernel
theorem dX2_put_37 : decode cX2_put 37 = .ok (.iaload, 1) := by decide +kernel
theorem dX2_put_38 : decode cX2_put 38 = .ok (.ireturn, 1) := by decide +kernel
theorem dX3_init_0 : decode cX3_init 0 = .ok (.aload_n 0, 1) := by decide +kernel
theorem dX3_init_1 : decode cX3_init 1 = .ok (.invokespecial 3, 3) := by decide +kernel
theorem dX3_init_4 : decode cX3_init 4 = .ok (.aload_n 0, 1) := by decide +kernel
theorem dX3_init_5 : decode cX3_init 5 = .ok (.iconst 5, 1) := by decide +kernel
theorem dX3_init_6 : decode cX3_init 6 = .ok (.newarray .int, 2) := by decide +kernel
theorem dX3_init_8 : decode cX3_init 8 = .ok (.putfield 9, 3) := by decide +kernel
theorem dX3_init_11 : decode cX3_init 11 = .ok (.aload_n 0, 1) := by decide +kernel
theorem dX3_init_12 : decode cX3_init 12 = .ok (.iconst 5, 1) := by decide +kernel
theorem dX3_init_13 : decode cX3_init 13 = .ok (.newarray .int, 2) := by decide +kernel
theorem dX3_init_15 : decode cX3_init 15 = .ok (.putfield 15, 3) := by decide +kernel
theorem dX3_init_18 : decode cX3_init 18 = .ok (.aload_n 0, 1) := by decide +kernel
theorem dX3_init_19 : decode cX3_init 19 = .ok (.bipush 6, 2) := by decide +kernel
theorem dX3_init_21 : decode cX3_init 21 = .ok (.newarray .int, 2) := by decide +kernel
theorem dX3_init_23 : decode cX3_init 23 = .ok (.putfield 18, 3) := by decide +kernel
theorem dX3_init_26 : decode cX3_init 26 = .ok (.aload_n 0, 1) := by decide +kernel
theorem dX3_init_27 : decode cX3_init 27 = .ok (.bipush 6, 2) := by decide +kernel
theorem dX3_init_29 : decode cX3_init 29 = .ok (.newarray .int, 2) := by decide +kernel
theorem dX3_init_31 : decode cX3_init 31 = .ok (.putfield 21, 3) := by decide +kernel
theorem dX3_init_34 : decode cX3_init 34 = .ok (.aload_n 0, 1) := by decide +kernel
theorem dX3_init_35 : decode cX3_init 35 = .ok (.bipush 6, 2) := by decide +kernel
theorem dX3_init_37 : decode cX3_init 37 = .ok (.newarray .int, 2) := by decide +kernel
theorem dX3_init_39 : decode cX3_init 39 = .ok (.putfield 24, 3) := by decide +kernel
theorem dX3_init_42 : decode cX3_init 42 = .ok (.aload_n 0, 1) := by decide +kernel
theorem dX3_init_43 : decode cX3_init 43 = .ok (.bipush 6, 2) := by decide +kernel
theorem dX3_init_45 : decode cX3_init 45 = .ok (.newarray .int, 2) := by decide +kernel
theorem dX3_init_47 : decode cX3_init 47 = .ok (.putfield 27, 3) := by decide +kernel
theorem dX3_init_50 : decode cX3_init 50 = .ok (.aload_n 0, 1) := by decide +kernel
theorem dX3_init_51 : decode cX3_init 51 = .ok (.bipush 30, 2) := by decide +kernel
theorem dX3_init_53 : decode cX3_init 53 = .ok (.newarray .int, 2) := by decide +kernel
theorem dX3_init_55 : decode cX3_init 55 = .ok (.putfield 30, 3) := by decide +kernel
theorem dX3_init_58 : decode cX3_init 58 = .ok (.aload_n 0, 1) := by decide +kernel
theorem dX3_init_59 : decode cX3_init 59 = .ok (.iconst 5, 1) := by decide +kernel
theorem dX3_init_60 : decode cX3_init 60 = .ok (.newarray .int, 2) := by decide +kernel
theorem dX3_init_62 : decode cX3_init 62 = .ok (.putfield 33, 3) := by decide +kernel
theorem dX3_init_65 : decode cX3_init 65 = .ok (.return_, 1) := by decide +kernel
theorem dX3_clear_0 : decode cX3_clear 0 = .ok (.aload_n 0, 1) := by decide +kernel
theorem dX3_clear_1 : decode cX3_clear 1 = .ok (.iconst 0, 1) := by decide +kernel
theorem dX3_clear_2 : decode cX3_clear 2 = .ok (.putfield 36, 3) := by decide +kernel
theorem dX3_clear_5 : decode cX3_clear 5 = .ok (.aload_n 0, 1) := by decide +kernel
theorem dX3_clear_6 : decode cX3_clear 6 = .ok (.iconst 0, 1) := by decide +kernel
theorem dX3_clear_7 : decode cX3_clear 7 = .ok (.putfield 40, 3) := by decide +kernel
theorem dX3_clear_10 : decode cX3_clear 10 = .ok (.aload_n 0, 1) := by decide +kernel
theorem dX3_clear_11 : decode cX3_clear 11 = .ok (.iconst 0, 1) := by decide +kernel
theorem dX3_clear_12 : decode cX3_clear 12 = .ok (.putfield 43, 3) := by decide +kernel
theorem dX3_clear_15 : decode cX3_clear 15 = .ok (.aload_n 0, 1) := by decide +kernel
theorem dX3_clear_16 : decode cX3_clear 16 = .ok (.iconst 0, 1) := by decide +kernel
theorem dX3_clear_17 : decode cX3_clear 17 = .ok (.putfield 46, 3) := by decide +kernel
theorem dX3_clear_20 : decode cX3_clear 20 = .ok (.aload_n 0, 1) := by decide +kernel
theorem dX3_clear_21 : decode cX3_clear 21 = .ok (.iconst 0, 1) := by decide +kernel
theorem dX3_clear_22 : decode cX3_clear 22 = .ok (.putfield 49, 3) := by decide +kernel
theorem dX3_clear_25 : decode cX3_clear 25 = .ok (.iconst 0, 1) := by decide +kernel
theorem dX3_clear_26 : decode cX3_clear 26 = .ok (.istore_n 1, 1) := by decide +kernel
theorem dX3_clear_27 : decode cX3_clear 27 = .ok (.iload_n 1, 1) := by decide +kernel
theorem dX3_clear_28 : decode cX3_clear 28 = .ok (.aload_n 0, 1) := by decide +kernel
theorem dX3_clear_29 : decode cX3_clear 29 = .ok (.getfield 30, 3) := by decide +kernel
theorem dX3_clear_32 : decode cX3_clear 32 = .ok (.arraylength, 1) := by decide +kernel
theorem dX3_clear_33 : decode cX3_clear 33 = .ok (.if_icmp .ge 16, 3) := by decide +kernel
theorem dX3_clear_36 : decode cX3_clear 36 = .ok (.aload_n 0, 1) := by decide +kernel
theorem dX3_clear_37 : decode cX3_clear 37 = .ok (.getfield 30, 3) := by decide +kernel
theorem dX3_clear_40 : decode cX3_clear 40 = .ok (.iload_n 1, 1) := by decide +kernel
theorem dX3_clear_41 : decode cX3_clear 41 = .ok (.iconst 0, 1) := by decide +kernel
theorem dX3_clear_42 : decode cX3_clear 42 = .ok (.iastore, 1) := by decide +kernel
theorem dX3_clear_43 : decode cX3_clear 43 = .ok (.iinc 1 1, 3) := by decide +kernel
theorem dX3_clear_46 : decode cX3_clear 46 = .ok (.goto (-19), 3) := by decide +kernel
theorem dX3_clear_49 : decode cX3_clear 49 = .ok (.return_, 1) := by decide +kernel
theorem dX3_copyFrom_0 : decode cX3_copyFrom 0 = .ok (.aload_n 0, 1) := by decide +kernel
theorem dX3_copyFrom_1 : decode cX3_copyFrom 1 = .ok (.aload_n 1, 1) := by decide +kernel
theorem dX3_copyFrom_2 : decode cX3_copyFrom 2 = .ok (.getfield 36, 3) := by decide +kernel
theorem dX3_copyFrom_5 : decode cX3_copyFrom 5 = .ok (.putfield 36, 3) := by decide +kernel
theorem dX3_copyFrom_8 : decode cX3_copyFrom 8 = .ok (.aload_n 0, 1) := by decide +kernel
theorem dX3_copyFrom_9 : decode cX3_copyFrom 9 = .ok (.aload_n 1, 1) := by decide +kernel
theorem dX3_copyFrom_10 : decode cX3_copyFrom 10 = .ok (.getfield 40, 3) := by decide +kernel
theorem dX3_copyFrom_13 : decode cX3_copyFrom 13 = .ok (.putfield 40, 3) := by decide +kernel
theorem dX3_copyFrom_16 : decode cX3_copyFrom 16 = .ok (.aload_n 0, 1) := by decide +kernel
theorem dX3_copyFrom_17 : decode cX3_copyFrom 17 = .ok (.aload_n 1, 1) := by decide +kernel
theorem dX3_copyFrom_18 : decode cX3_copyFrom 18 = .ok (.getfield 52, 3) := by decide +kernel
theorem dX3_copyFrom_21 : decode cX3_copyFrom 21 = .ok (.putfield 52, 3) := by decide +kernel
theorem dX3_copyFrom_24 : decode cX3_copyFrom 24 = .ok (.aload_n 0, 1) := by decide +kernel
theorem dX3_copyFrom_25 : decode cX3_copyFrom 25 = .ok (.aload_n 1, 1) := by decide +kernel
theorem dX3_copyFrom_26 : decode cX3_copyFrom 26 = .ok (.getfield 55, 3) := by decide +kernel
theorem dX3_copyFrom_29 : decode cX3_copyFrom 29 = .ok (.putfield 55, 3) := by decide +kernel
theorem dX3_copyFrom_32 : decode cX3_copyFrom 32 = .ok (.aload_n 0, 1) := by decide +kernel
theorem dX3_copyFrom_33 : decode cX3_copyFrom 33 = .ok (.aload_n 1, 1) := by decide +kernel
theorem dX3_copyFrom_34 : decode cX3_copyFrom 34 = .ok (.getfield 43, 3) := by decide +kernel
theorem dX3_copyFrom_37 : decode cX3_copyFrom 37 = .ok (.putfield 43, 3) := by decide +kernel
theorem dX3_copyFrom_40 : decode cX3_copyFrom 40 = .ok (.aload_n 0, 1) := by decide +kernel
theorem dX3_copyFrom_41 : decode cX3_copyFrom 41 = .ok (.aload_n 1, 1) := by decide +kernel
theorem dX3_copyFrom_42 : decode cX3_copyFrom 42 = .ok (.getfield 46, 3) := by decide +kernel
theorem dX3_copyFrom_45 : decode cX3_copyFrom 45 = .ok (.putfield 46, 3) := by decide +kernel
theorem dX3_copyFrom_48 : decode cX3_copyFrom 48 = .ok (.aload_n 0, 1) := by decide +kernel
theorem dX3_copyFrom_49 : decode cX3_copyFrom 49 = .ok (.aload_n 1, 1) := by decide +kernel
theorem dX3_copyFrom_50 : decode cX3_copyFrom 50 = .ok (.getfield 49, 3) := by decide +kernel
theorem dX3_copyFrom_53 : decode cX3_copyFrom 53 = .ok (.putfield 49, 3) := by decide +kernel
theorem dX3_copyFrom_56 : decode cX3_copyFrom 56 = .ok (.aload_n 1, 1) := by decide +kernel
theorem dX3_copyFrom_57 : decode cX3_copyFrom 57 = .ok (.getfield 9, 3) := by decide +kernel
theorem dX3_copyFrom_60 : decode cX3_copyFrom 60 = .ok (.iconst 0, 1) := by decide +kernel
theorem dX3_copyFrom_61 : decode cX3_copyFrom 61 = .ok (.aload_n 0, 1) := by decide +kernel
theorem dX3_copyFrom_62 : decode cX3_copyFrom 62 = .ok (.getfield 9, 3) := by decide +kernel
theorem dX3_copyFrom_65 : decode cX3_copyFrom 65 = .ok (.iconst 0, 1) := by decide +kernel
theorem dX3_copyFrom_66 : decode cX3_copyFrom 66 = .ok (.iconst 5, 1) := by decide +kernel
theorem dX3_copyFrom_67 : decode cX3_copyFrom 67 = .ok (.invokestatic 58, 3) := by decide +kernel
theorem dX3_copyFrom_70 : decode cX3_copyFrom 70 = .ok (.aload_n 1, 1) := by decide +kernel
theorem dX3_copyFrom_71 : decode cX3_copyFrom 71 = .ok (.getfield 15, 3) := by decide +kernel
theorem dX3_copyFrom_74 : decode cX3_copyFrom 74 = .ok (.iconst 0, 1) := by decide +kernel
theorem dX3_copyFrom_75 : decode cX3_copyFrom 75 = .ok (.aload_n 0, 1) := by decide +kernel
theorem dX3_copyFrom_76 : decode cX3_copyFrom 76 = .ok (.getfield 15, 3) := by decide +kernel
theorem dX3_copyFrom_79 : decode cX3_copyFrom 79 = .ok (.iconst 0, 1) := by decide +kernel
theorem dX3_copyFrom_80 : decode cX3_copyFrom 80 = .ok (.iconst 5, 1) := by decide +kernel
theorem dX3_copyFrom_81 : decode cX3_copyFrom 81 = .ok (.invokestatic 58, 3) := by decide +kernel
theorem dX3_copyFrom_84 : decode cX3_copyFrom 84 = .ok (.aload_n 1, 1) := by decide +kernel
theorem dX3_copyFrom_85 : decode cX3_copyFrom 85 = .ok (.getfield 18, 3) := by decide +kernel
theorem dX3_copyFrom_88 : decode cX3_copyFrom 88 = .ok (.iconst 0, 1) := by decide +kernel
theorem dX3_copyFrom_89 : decode cX3_copyFrom 89 = .ok (.aload_n 0, 1) := by decide +kernel
theorem dX3_copyFrom_90 : decode cX3_copyFrom 90 = .ok (.getfield 18, 3) := by decide +kernel
theorem dX3_copyFrom_93 : decode cX3_copyFrom 93 = .ok (.iconst 0, 1) := by decide +kernel
theorem dX3_copyFrom_94 : decode cX3_copyFrom 94 = .ok (.bipush 6, 2) := by decide +kernel
theorem dX3_copyFrom_96 : decode cX3_copyFrom 96 = .ok (.invokestatic 58, 3) := by decide +kernel
theorem dX3_copyFrom_99 : decode cX3_copyFrom 99 = .ok (.aload_n 1, 1) := by decide +kernel
theorem dX3_copyFrom_100 : decode cX3_copyFrom 100 = .ok (.getfield 21, 3) := by decide +kernel
theorem dX3_copyFrom_103 : decode cX3_copyFrom 103 = .ok (.iconst 0, 1) := by decide +kernel
theorem dX3_copyFrom_104 : decode cX3_copyFrom 104 = .ok (.aload_n 0, 1) := by decide +kernel
theorem dX3_copyFrom_105 : decode cX3_copyFrom 105 = .ok (.getfield 21, 3) := by decide +kernel
theorem dX3_copyFrom_108 : decode cX3_copyFrom 108 = .ok (.iconst 0, 1) := by decide +kernel
theorem dX3_copyFrom_109 : decode cX3_copyFrom 109 = .ok (.bipush 6, 2) := by decide +kernel
theorem dX3_copyFrom_111 : decode cX3_copyFrom 111 = .ok (.invokestatic 58, 3) := by decide +kernel
theorem dX3_copyFrom_114 : decode cX3_copyFrom 114 = .ok (.aload_n 1, 1) := by decide +kernel
theorem dX3_copyFrom_115 : decode cX3_copyFrom 115 = .ok (.getfield 24, 3) := by decide +kernel
theorem dX3_copyFrom_118 : decode cX3_copyFrom 118 = .ok (.iconst 0, 1) := by decide +kernel
theorem dX3_copyFrom_119 : decode cX3_copyFrom 119 = .ok (.aload_n 0, 1) := by decide +kernel
theorem dX3_copyFrom_120 : decode cX3_copyFrom 120 = .ok (.getfield 24, 3) := by decide +kernel
theorem dX3_copyFrom_123 : decode cX3_copyFrom 123 = .ok (.iconst 0, 1) := by decide +kernel
theorem dX3_copyFrom_124 : decode cX3_copyFrom 124 = .ok (.bipush 6, 2) := by decide +kernel
theorem dX3_copyFrom_126 : decode cX3_copyFrom 126 = .ok (.invokestatic 58, 3) := by decide +kernel
theorem dX3_copyFrom_129 : decode cX3_copyFrom 129 = .ok (.aload_n 1, 1) := by decide +kernel
theorem dX3_copyFrom_130 : decode cX3_copyFrom 130 = .ok (.getfield 27, 3) := by decide +kernel
theorem dX3_copyFrom_133 : decode cX3_copyFrom 133 = .ok (.iconst 0, 1) := by decide +kernel
theorem dX3_copyFrom_134 : decode cX3_copyFrom 134 = .ok (.aload_n 0, 1) := by decide +kernel
theorem dX3_copyFrom_135 : decode cX3_copyFrom 135 = .ok (.getfield 27, 3) := by decide +kernel
theorem dX3_copyFrom_138 : decode cX3_copyFrom 138 = .ok (.iconst 0, 1) := by decide +kernel
theorem dX3_copyFrom_139 : decode cX3_copyFrom 139 = .ok (.bipush 6, 2) := by decide +kernel
theorem dX3_copyFrom_141 : decode cX3_copyFrom 141 = .ok (.invokestatic 58, 3) := by decide +kernel
theorem dX3_copyFrom_144 : decode cX3_copyFrom 144 = .ok (.aload_n 1, 1) := by decide +kernel
theorem dX3_copyFrom_145 : decode cX3_copyFrom 145 = .ok (.getfield 30, 3) := by decide +kernel
theorem dX3_copyFrom_148 : decode cX3_copyFrom 148 = .ok (.iconst 0, 1) := by decide +kernel
theorem dX3_copyFrom_149 : decode cX3_copyFrom 149 = .ok (.aload_n 0, 1) := by decide +kernel
theorem dX3_copyFrom_150 : decode cX3_copyFrom 150 = .ok (.getfield 30, 3) := by decide +kernel
theorem dX3_copyFrom_153 : decode cX3_copyFrom 153 = .ok (.iconst 0, 1) := by decide +kernel
theorem dX3_copyFrom_154 : decode cX3_copyFrom 154 = .ok (.bipush 30, 2) := by decide +kernel
theorem dX3_copyFrom_156 : decode cX3_copyFrom 156 = .ok (.invokestatic 58, 3) := by decide +kernel
theorem dX3_copyFrom_159 : decode cX3_copyFrom 159 = .ok (.return_, 1) := by decide +kernel
theorem dX3_houseToday_0 : decode cX3_houseToday 0 = .ok (.aload_n 0, 1) := by decide +kernel
theorem dX3_houseToday_1 : decode cX3_houseToday 1 = .ok (.getfield 36, 3) := by decide +kernel
theorem dX3_houseToday_4 : decode cX3_houseToday 4 = .ok (.ifCond .le 29, 3) := by decide +kernel
theorem dX3_houseToday_7 : decode cX3_houseToday 7 = .ok (.aload_n 0, 1) := by decide +kernel
theorem dX3_houseToday_8 : decode cX3_houseToday 8 = .ok (.getfield 21, 3) := by decide +kernel
theorem dX3_houseToday_11 : decode cX3_houseToday 11 = .ok (.iload_n 1, 1) := by decide +kernel
theorem dX3_houseToday_12 : decode cX3_houseToday 12 = .ok (.iaload, 1) := by decide +kernel
theorem dX3_houseToday_13 : decode cX3_houseToday 13 = .ok (.aload_n 0, 1) := by decide +kernel
theorem dX3_houseToday_14 : decode cX3_houseToday 14 = .ok (.getfield 27, 3) := by decide +kernel
theorem dX3_houseToday_17 : decode cX3_houseToday 17 = .ok (.iload_n 1, 1) := by decide +kernel
theorem dX3_houseToday_18 : decode cX3_houseToday 18 = .ok (.iaload, 1) := by decide +kernel
theorem dX3_houseToday_19 : decode cX3_houseToday 19 = .ok (.aload_n 0, 1) := by decide +kernel
theorem dX3_houseToday_20 : decode cX3_houseToday 20 = .ok (.getfield 43, 3) := by decide +kernel
theorem dX3_houseToday_23 : decode cX3_houseToday 23 = .ok (.imul, 1) := by decide +kernel
theorem dX3_houseToday_24 : decode cX3_houseToday 24 = .ok (.iadd, 1) := by decide +kernel
theorem dX3_houseToday_25 : decode cX3_houseToday 25 = .ok (.aload_n 0, 1) := by decide +kernel
theorem dX3_houseToday_26 : decode cX3_houseToday 26 = .ok (.getfield 36, 3) := by decide +kernel
theorem dX3_houseToday_29 : decode cX3_houseToday 29 = .ok (.irem, 1) := by decide +kernel
theorem dX3_houseToday_30 : decode cX3_houseToday 30 = .ok (.goto 4, 3) := by decide +kernel
theorem dX3_houseToday_33 : decode cX3_houseToday 33 = .ok (.iconst 0, 1) := by decide +kernel
theorem dX3_houseToday_34 : decode cX3_houseToday 34 = .ok (.ireturn, 1) := by decide +kernel
theorem dX3_timesAway_0 : decode cX3_timesAway 0 = .ok (.aload_n 0, 1) := by decide +kernel
theorem dX3_timesAway_1 : decode cX3_timesAway 1 = .ok (.getfield 30, 3) := by decide +kernel
theorem dX3_timesAway_4 : decode cX3_timesAway 4 = .ok (.iload_n 1, 1) := by decide +kernel
theorem dX3_timesAway_5 : decode cX3_timesAway 5 = .ok (.iconst 5, 1) := by decide +kernel
theorem dX3_timesAway_6 : decode cX3_timesAway 6 = .ok (.imul, 1) := by decide +kernel
theorem dX3_timesAway_7 : decode cX3_timesAway 7 = .ok (.iload_n 2, 1) := by decide +kernel
theorem dX3_timesAway_8 : decode cX3_timesAway 8 = .ok (.iadd, 1) := by decide +kernel
theorem dX3_timesAway_9 : decode cX3_timesAway 9 = .ok (.iaload, 1) := by decide +kernel
theorem dX3_timesAway_10 : decode cX3_timesAway 10 = .ok (.ireturn, 1) := by decide +kernel
theorem dX3_makesToday_0 : decode cX3_makesToday 0 = .ok (.aload_n 0, 1) := by decide +kernel
theorem dX3_makesToday_1 : decode cX3_makesToday 1 = .ok (.getfield 18, 3) := by decide +kernel
theorem dX3_makesToday_4 : decode cX3_makesToday 4 = .ok (.iload_n 1, 1) := by decide +kernel
theorem dX3_makesToday_5 : decode cX3_makesToday 5 = .ok (.iaload, 1) := by decide +kernel
theorem dX3_makesToday_6 : decode cX3_makesToday 6 = .ok (.tableswitch 97 1 5 #[34, 41, 64, 97, 73], 34) := by decide +kernel
theorem dX3_makesToday_40 : decode cX3_makesToday 40 = .ok (.aload_n 0, 1) := by decide +kernel
theorem dX3_makesToday_41 : decode cX3_makesToday 41 = .ok (.getfield 24, 3) := by decide +kernel
theorem dX3_makesToday_44 : decode cX3_makesToday 44 = .ok (.iload_n 1, 1) := by decide +kernel
theorem dX3_makesToday_45 : decode cX3_makesToday 45 = .ok (.iaload, 1) := by decide +kernel
theorem dX3_makesToday_46 : decode cX3_makesToday 46 = .ok (.ireturn, 1) := by decide +kernel
theorem dX3_makesToday_47 : decode cX3_makesToday 47 = .ok (.aload_n 0, 1) := by decide +kernel
theorem dX3_makesToday_48 : decode cX3_makesToday 48 = .ok (.getfield 24, 3) := by decide +kernel
theorem dX3_makesToday_51 : decode cX3_makesToday 51 = .ok (.iload_n 1, 1) := by decide +kernel
theorem dX3_makesToday_52 : decode cX3_makesToday 52 = .ok (.iaload, 1) := by decide +kernel
theorem dX3_makesToday_53 : decode cX3_makesToday 53 = .ok (.bipush 9, 2) := by decide +kernel
theorem dX3_makesToday_55 : decode cX3_makesToday 55 = .ok (.aload_n 0, 1) := by decide +kernel
theorem dX3_makesToday_56 : decode cX3_makesToday 56 = .ok (.iload_n 1, 1) := by decide +kernel
theorem dX3_makesToday_57 : decode cX3_makesToday 57 = .ok (.aload_n 0, 1) := by decide +kernel
theorem dX3_makesToday_58 : decode cX3_makesToday 58 = .ok (.iload_n 1, 1) := by decide +kernel
theorem dX3_makesToday_59 : decode cX3_makesToday 59 = .ok (.invokevirtual 64, 3) := by decide +kernel
theorem dX3_makesToday_62 : decode cX3_makesToday 62 = .ok (.invokevirtual 68, 3) := by decide +kernel
theorem dX3_makesToday_65 : decode cX3_makesToday 65 = .ok (.invokestatic 72, 3) := by decide +kernel
theorem dX3_makesToday_68 : decode cX3_makesToday 68 = .ok (.iadd, 1) := by decide +kernel
theorem dX3_makesToday_69 : decode cX3_makesToday 69 = .ok (.ireturn, 1) := by decide +kernel
theorem dX3_makesToday_70 : decode cX3_makesToday 70 = .ok (.aload_n 0, 1) := by decide +kernel
theorem dX3_makesToday_71 : decode cX3_makesToday 71 = .ok (.getfield 24, 3) := by decide +kernel
theorem dX3_makesToday_74 : decode cX3_makesToday 74 = .ok (.iload_n 1, 1) := by decide +kernel
theorem dX3_makesToday_75 : decode cX3_makesToday 75 = .ok (.iaload, 1) := by decide +kernel
theorem dX3_makesToday_76 : decode cX3_makesToday 76 = .ok (.iconst 2, 1) := by decide +kernel
theorem dX3_makesToday_77 : decode cX3_makesToday 77 = .ok (.idiv, 1) := by decide +kernel
theorem dX3_makesToday_78 : decode cX3_makesToday 78 = .ok (.ireturn, 1) := by decide +kernel
theorem dX3_makesToday_79 : decode cX3_makesToday 79 = .ok (.aload_n 0, 1) := by decide +kernel
theorem dX3_makesToday_80 : decode cX3_makesToday 80 = .ok (.invokevirtual 77, 3) := by decide +kernel
theorem dX3_makesToday_83 : decode cX3_makesToday 83 = .ok (.ifCond .eq 14, 3) := by decide +kernel
theorem dX3_makesToday_86 : decode cX3_makesToday 86 = .ok (.iconst 2, 1) := by decide +kernel
theorem dX3_makesToday_87 : decode cX3_makesToday 87 = .ok (.aload_n 0, 1) := by decide +kernel
theorem dX3_makesToday_88 : decode cX3_makesToday 88 = .ok (.getfield 24, 3) := by decide +kernel
theorem dX3_makesToday_91 : decode cX3_makesToday 91 = .ok (.iload_n 1, 1) := by decide +kernel
theorem dX3_makesToday_92 : decode cX3_makesToday 92 = .ok (.iaload, 1) := by decide +kernel
theorem dX3_makesToday_93 : decode cX3_makesToday 93 = .ok (.imul, 1) := by decide +kernel
theorem dX3_makesToday_94 : decode cX3_makesToday 94 = .ok (.goto 8, 3) := by decide +kernel
theorem dX3_makesToday_97 : decode cX3_makesToday 97 = .ok (.aload_n 0, 1) := by decide +kernel
theorem dX3_makesToday_98 : decode cX3_makesToday 98 = .ok (.iload_n 1, 1) := by decide +kernel
theorem dX3_makesToday_99 : decode cX3_makesToday 99 = .ok (.invokevirtual 81, 3) := by decide +kernel
theorem dX3_makesToday_102 : decode cX3_makesToday 102 = .ok (.ireturn, 1) := by decide +kernel
theorem dX3_makesToday_103 : decode cX3_makesToday 103 = .ok (.aload_n 0, 1) := by decide +kernel
theorem dX3_makesToday_104 : decode cX3_makesToday 104 = .ok (.iload_n 1, 1) := by decide +kernel
theorem dX3_makesToday_105 : decode cX3_makesToday 105 = .ok (.invokevirtual 81, 3) := by decide +kernel
theorem dX3_makesToday_108 : decode cX3_makesToday 108 = .ok (.ireturn, 1) := by decide +kernel
theorem dX3_idly_0 : decode cX3_idly 0 = .ok (.aload_n 0, 1) := by decide +kernel
theorem dX3_idly_1 : decode cX3_idly 1 = .ok (.getfield 43, 3) := by decide +kernel
theorem dX3_idly_4 : decode cX3_idly 4 = .ok (.iconst 3, 1) := by decide +kernel
theorem dX3_idly_5 : decode cX3_idly 5 = .ok (.irem, 1) := by decide +kernel
theorem dX3_idly_6 : decode cX3_idly 6 = .ok (.ifCond .ne 12, 3) := by decide +kernel
theorem dX3_idly_9 : decode cX3_idly 9 = .ok (.aload_n 0, 1) := by decide +kernel
theorem dX3_idly_10 : decode cX3_idly 10 = .ok (.getfield 24, 3) := by decide +kernel
theorem dX3_idly_13 : decode cX3_idly 13 = .ok (.iload_n 1, 1) := by decide +kernel
theorem dX3_idly_14 : decode cX3_idly 14 = .ok (.iaload, 1) := by decide +kernel
theorem dX3_idly_15 : decode cX3_idly 15 = .ok (.goto 4, 3) := by decide +kernel
theorem dX3_idly_18 : decode cX3_idly 18 = .ok (.iconst 0, 1) := by decide +kernel
theorem dX3_idly_19 : decode cX3_idly 19 = .ok (.ireturn, 1) := by decide +kernel
theorem dX3_isRainy_0 : decode cX3_isRainy 0 = .ok (.bipush 7, 2) := by decide +kernel
theorem dX3_isRainy_2 : decode cX3_isRainy 2 = .ok (.aload_n 0, 1) := by decide +kernel
theorem dX3_isRainy_3 : decode cX3_isRainy 3 = .ok (.getfield 43, 3) := by decide +kernel
theorem dX3_isRainy_6 : decode cX3_isRainy 6 = .ok (.imul, 1) := by decide +kernel
theorem dX3_isRainy_7 : decode cX3_isRainy 7 = .ok (.bipush 10, 2) := by decide +kernel
theorem dX3_isRainy_9 : decode cX3_isRainy 9 = .ok (.irem, 1) := by decide +kernel
theorem dX3_isRainy_10 : decode cX3_isRainy 10 = .ok (.aload_n 0, 1) := by decide +kernel
theorem dX3_isRainy_11 : decode cX3_isRainy 11 = .ok (.getfield 55, 3) := by decide +kernel
theorem dX3_isRainy_14 : decode cX3_isRainy 14 = .ok (.if_icmp .ge 7, 3) := by decide +kernel
theorem dX3_isRainy_17 : decode cX3_isRainy 17 = .ok (.iconst 1, 1) := by decide +kernel
theorem dX3_isRainy_18 : decode cX3_isRainy 18 = .ok (.goto 4, 3) := by decide +kernel
theorem dX3_isRainy_21 : decode cX3_isRainy 21 = .ok (.iconst 0, 1) := by decide +kernel
theorem dX3_isRainy_22 : decode cX3_isRainy 22 = .ok (.ireturn, 1) := by decide +kernel
theorem dX3_isAway_0 : decode cX3_isAway 0 = .ok (.aload_n 0, 1) := by decide +kernel
theorem dX3_isAway_1 : decode cX3_isAway 1 = .ok (.getfield 49, 3) := by decide +kernel
theorem dX3_isAway_4 : decode cX3_isAway 4 = .ok (.iload_n 1, 1) := by decide +kernel
theorem dX3_isAway_5 : decode cX3_isAway 5 = .ok (.invokestatic 84, 3) := by decide +kernel
theorem dX3_isAway_8 : decode cX3_isAway 8 = .ok (.ifCond .ne 16, 3) := by decide +kernel
theorem dX3_isAway_11 : decode cX3_isAway 11 = .ok (.aload_n 0, 1) := by decide +kernel
theorem dX3_isAway_12 : decode cX3_isAway 12 = .ok (.iload_n 1, 1) := by decide +kernel
theorem dX3_isAway_13 : decode cX3_isAway 13 = .ok (.invokevirtual 64, 3) := by decide +kernel
theorem dX3_isAway_16 : decode cX3_isAway 16 = .ok (.iload_n 2, 1) := by decide +kernel
theorem dX3_isAway_17 : decode cX3_isAway 17 = .ok (.if_icmp .ne 7, 3) := by decide +kernel
theorem dX3_isAway_20 : decode cX3_isAway 20 = .ok (.iconst 1, 1) := by decide +kernel
theorem dX3_isAway_21 : decode cX3_isAway 21 = .ok (.goto 4, 3) := by decide +kernel
theorem dX3_isAway_24 : decode cX3_isAway 24 = .ok (.iconst 0, 1) := by decide +kernel
theorem dX3_isAway_25 : decode cX3_isAway 25 = .ok (.ireturn, 1) := by decide +kernel
theorem dX3_awayFrom_0 : decode cX3_awayFrom 0 = .ok (.iconst 0, 1) := by decide +kernel
theorem dX3_awayFrom_1 : decode cX3_awayFrom 1 = .ok (.istore_n 2, 1) := by decide +kernel
theorem dX3_awayFrom_2 : decode cX3_awayFrom 2 = .ok (.iconst 0, 1) := by decide +kernel
theorem dX3_awayFrom_3 : decode cX3_awayFrom 3 = .ok (.istore_n 3, 1) := by decide +kernel
theorem dX3_awayFrom_4 : decode cX3_awayFrom 4 = .ok (.iload_n 3, 1) := by decide +kernel
theorem dX3_awayFrom_5 : decode cX3_awayFrom 5 = .ok (.aload_n 0, 1) := by decide +kernel
theorem dX3_awayFrom_6 : decode cX3_awayFrom 6 = .ok (.getfield 40, 3) := by decide +kernel
theorem dX3_awayFrom_9 : decode cX3_awayFrom 9 = .ok (.if_icmp .ge 24, 3) := by decide +kernel
theorem dX3_awayFrom_12 : decode cX3_awayFrom 12 = .ok (.aload_n 0, 1) := by decide +kernel
theorem dX3_awayFrom_13 : decode cX3_awayFrom 13 = .ok (.iload_n 3, 1) := by decide +kernel
theorem dX3_awayFrom_14 : decode cX3_awayFrom 14 = .ok (.iload_n 1, 1) := by decide +kernel
theorem dX3_awayFrom_15 : decode cX3_awayFrom 15 = .ok (.invokevirtual 87, 3) := by decide +kernel
theorem dX3_awayFrom_18 : decode cX3_awayFrom 18 = .ok (.ifCond .eq 9, 3) := by decide +kernel
theorem dX3_awayFrom_21 : decode cX3_awayFrom 21 = .ok (.iload_n 2, 1) := by decide +kernel
theorem dX3_awayFrom_22 : decode cX3_awayFrom 22 = .ok (.iconst 1, 1) := by decide +kernel
theorem dX3_awayFrom_23 : decode cX3_awayFrom 23 = .ok (.iload_n 3, 1) := by decide +kernel
theorem dX3_awayFrom_24 : decode cX3_awayFrom 24 = .ok (.ishl, 1) := by decide +kernel
theorem dX3_awayFrom_25 : decode cX3_awayFrom 25 = .ok (.ior, 1) := by decide +kernel
theorem dX3_awayFrom_26 : decode cX3_awayFrom 26 = .ok (.istore_n 2, 1) := by decide +kernel
theorem dX3_awayFrom_27 : decode cX3_awayFrom 27 = .ok (.iinc 3 1, 3) := by decide +kernel
theorem dX3_awayFrom_30 : decode cX3_awayFrom 30 = .ok (.goto (-26), 3) := by decide +kernel
theorem dX3_awayFrom_33 : decode cX3_awayFrom 33 = .ok (.iload_n 2, 1) := by decide +kernel
theorem dX3_awayFrom_34 : decode cX3_awayFrom 34 = .ok (.ireturn, 1) := by decide +kernel
theorem dX3_madeAt_0 : decode cX3_madeAt 0 = .ok (.iconst 0, 1) := by decide +kernel
theorem dX3_madeAt_1 : decode cX3_madeAt 1 = .ok (.istore_n 2, 1) := by decide +kernel
theorem dX3_madeAt_2 : decode cX3_madeAt 2 = .ok (.iconst 0, 1) := by decide +kernel
theorem dX3_madeAt_3 : decode cX3_madeAt 3 = .ok (.istore_n 3, 1) := by decide +kernel
theorem dX3_madeAt_4 : decode cX3_madeAt 4 = .ok (.iload_n 3, 1) := by decide +kernel
theorem dX3_madeAt_5 : decode cX3_madeAt 5 = .ok (.aload_n 0, 1) := by decide +kernel
theorem dX3_madeAt_6 : decode cX3_madeAt 6 = .ok (.getfield 40, 3) := by decide +kernel
theorem dX3_madeAt_9 : decode cX3_madeAt 9 = .ok (.if_icmp .ge 26, 3) := by decide +kernel
theorem dX3_madeAt_12 : decode cX3_madeAt 12 = .ok (.aload_n 0, 1) := by decide +kernel
theorem dX3_madeAt_13 : decode cX3_madeAt 13 = .ok (.iload_n 3, 1) := by decide +kernel
theorem dX3_madeAt_14 : decode cX3_madeAt 14 = .ok (.iload_n 1, 1) := by decide +kernel
theorem dX3_madeAt_15 : decode cX3_madeAt 15 = .ok (.invokevirtual 87, 3) := by decide +kernel
theorem dX3_madeAt_18 : decode cX3_madeAt 18 = .ok (.ifCond .eq 11, 3) := by decide +kernel
theorem dX3_madeAt_21 : decode cX3_madeAt 21 = .ok (.iload_n 2, 1) := by decide +kernel
theorem dX3_madeAt_22 : decode cX3_madeAt 22 = .ok (.aload_n 0, 1) := by decide +kernel
theorem dX3_madeAt_23 : decode cX3_madeAt 23 = .ok (.iload_n 3, 1) := by decide +kernel
theorem dX3_madeAt_24 : decode cX3_madeAt 24 = .ok (.invokevirtual 91, 3) := by decide +kernel
theorem dX3_madeAt_27 : decode cX3_madeAt 27 = .ok (.iadd, 1) := by decide +kernel
theorem dX3_madeAt_28 : decode cX3_madeAt 28 = .ok (.istore_n 2, 1) := by decide +kernel
theorem dX3_madeAt_29 : decode cX3_madeAt 29 = .ok (.iinc 3 1, 3) := by decide +kernel
theorem dX3_madeAt_32 : decode cX3_madeAt 32 = .ok (.goto (-28), 3) := by decide +kernel
theorem dX3_madeAt_35 : decode cX3_madeAt 35 = .ok (.iload_n 2, 1) := by decide +kernel
theorem dX3_madeAt_36 : decode cX3_madeAt 36 = .ok (.ireturn, 1) := by decide +kernel
theorem dX3_feltByAll_0 : decode cX3_feltByAll 0 = .ok (.iconst 0, 1) := by decide +kernel
theorem dX3_feltByAll_1 : decode cX3_feltByAll 1 = .ok (.istore_n 1, 1) := by decide +kernel
theorem dX3_feltByAll_2 : decode cX3_feltByAll 2 = .ok (.iconst 0, 1) := by decide +kernel
theorem dX3_feltByAll_3 : decode cX3_feltByAll 3 = .ok (.istore_n 2, 1) := by decide +kernel
theorem dX3_feltByAll_4 : decode cX3_feltByAll 4 = .ok (.iload_n 2, 1) := by decide +kernel
theorem dX3_feltByAll_5 : decode cX3_feltByAll 5 = .ok (.aload_n 0, 1) := by decide +kernel
theorem dX3_feltByAll_6 : decode cX3_feltByAll 6 = .ok (.getfield 36, 3) := by decide +kernel
theorem dX3_feltByAll_9 : decode cX3_feltByAll 9 = .ok (.if_icmp .ge 18, 3) := by decide +kernel
theorem dX3_feltByAll_12 : decode cX3_feltByAll 12 = .ok (.iload_n 1, 1) := by decide +kernel
theorem dX3_feltByAll_13 : decode cX3_feltByAll 13 = .ok (.aload_n 0, 1) := by decide +kernel
theorem dX3_feltByAll_14 : decode cX3_feltByAll 14 = .ok (.getfield 9, 3) := by decide +kernel
theorem dX3_feltByAll_17 : decode cX3_feltByAll 17 = .ok (.iload_n 2, 1) := by decide +kernel
theorem dX3_feltByAll_18 : decode cX3_feltByAll 18 = .ok (.iaload, 1) := by decide +kernel
theorem dX3_feltByAll_19 : decode cX3_feltByAll 19 = .ok (.iadd, 1) := by decide +kernel
theorem dX3_feltByAll_20 : decode cX3_feltByAll 20 = .ok (.istore_n 1, 1) := by decide +kernel
theorem dX3_feltByAll_21 : decode cX3_feltByAll 21 = .ok (.iinc 2 1, 3) := by decide +kernel
theorem dX3_feltByAll_24 : decode cX3_feltByAll 24 = .ok (.goto (-20), 3) := by decide +kernel
theorem dX3_feltByAll_27 : decode cX3_feltByAll 27 = .ok (.iload_n 1, 1) := by decide +kernel
theorem dX3_feltByAll_28 : decode cX3_feltByAll 28 = .ok (.ireturn, 1) := by decide +kernel
theorem dX3_ofKind_0 : decode cX3_ofKind 0 = .ok (.iconst 0, 1) := by decide +kernel
theorem dX3_ofKind_1 : decode cX3_ofKind 1 = .ok (.istore_n 2, 1) := by decide +kernel
theorem dX3_ofKind_2 : decode cX3_ofKind 2 = .ok (.iconst 0, 1) := by decide +kernel
theorem dX3_ofKind_3 : decode cX3_ofKind 3 = .ok (.istore_n 3, 1) := by decide +kernel
theorem dX3_ofKind_4 : decode cX3_ofKind 4 = .ok (.iload_n 3, 1) := by decide +kernel
theorem dX3_ofKind_5 : decode cX3_ofKind 5 = .ok (.aload_n 0, 1) := by decide +kernel
theorem dX3_ofKind_6 : decode cX3_ofKind 6 = .ok (.getfield 40, 3) := by decide +kernel
theorem dX3_ofKind_9 : decode cX3_ofKind 9 = .ok (.if_icmp .ge 25, 3) := by decide +kernel
theorem dX3_ofKind_12 : decode cX3_ofKind 12 = .ok (.aload_n 0, 1) := by decide +kernel
theorem dX3_ofKind_13 : decode cX3_ofKind 13 = .ok (.getfield 18, 3) := by decide +kernel
theorem dX3_ofKind_16 : decode cX3_ofKind 16 = .ok (.iload_n 3, 1) := by decide +kernel
theorem dX3_ofKind_17 : decode cX3_ofKind 17 = .ok (.iaload, 1) := by decide +kernel
theorem dX3_ofKind_18 : decode cX3_ofKind 18 = .ok (.iload_n 1, 1) := by decide +kernel
theorem dX3_ofKind_19 : decode cX3_ofKind 19 = .ok (.if_icmp .ne 9, 3) := by decide +kernel
theorem dX3_ofKind_22 : decode cX3_ofKind 22 = .ok (.iload_n 2, 1) := by decide +kernel
theorem dX3_ofKind_23 : decode cX3_ofKind 23 = .ok (.iconst 1, 1) := by decide +kernel
theorem dX3_ofKind_24 : decode cX3_ofKind 24 = .ok (.iload_n 3, 1) := by decide +kernel
theorem dX3_ofKind_25 : decode cX3_ofKind 25 = .ok (.ishl, 1) := by decide +kernel
theorem dX3_ofKind_26 : decode cX3_ofKind 26 = .ok (.ior, 1) := by decide +kernel
theorem dX3_ofKind_27 : decode cX3_ofKind 27 = .ok (.istore_n 2, 1) := by decide +kernel
theorem dX3_ofKind_28 : decode cX3_ofKind 28 = .ok (.iinc 3 1, 3) := by decide +kernel
theorem dX3_ofKind_31 : decode cX3_ofKind 31 = .ok (.goto (-27), 3) := by decide +kernel
theorem dX3_ofKind_34 : decode cX3_ofKind 34 = .ok (.iload_n 2, 1) := by decide +kernel
theorem dX3_ofKind_35 : decode cX3_ofKind 35 = .ok (.ireturn, 1) := by decide +kernel
theorem dX3_sendTo_0 : decode cX3_sendTo 0 = .ok (.aload_n 0, 1) := by decide +kernel
theorem dX3_sendTo_1 : decode cX3_sendTo 1 = .ok (.getfield 21, 3) := by decide +kernel
theorem dX3_sendTo_4 : decode cX3_sendTo 4 = .ok (.iload_n 1, 1) := by decide +kernel
theorem dX3_sendTo_5 : decode cX3_sendTo 5 = .ok (.iload_n 2, 1) := by decide +kernel
theorem dX3_sendTo_6 : decode cX3_sendTo 6 = .ok (.iastore, 1) := by decide +kernel
theorem dX3_sendTo_7 : decode cX3_sendTo 7 = .ok (.iconst 0, 1) := by decide +kernel
theorem dX3_sendTo_8 : decode cX3_sendTo 8 = .ok (.istore_n 3, 1) := by decide +kernel
theorem dX3_sendTo_9 : decode cX3_sendTo 9 = .ok (.iload_n 3, 1) := by decide +kernel
theorem dX3_sendTo_10 : decode cX3_sendTo 10 = .ok (.iconst 5, 1) := by decide +kernel
theorem dX3_sendTo_11 : decode cX3_sendTo 11 = .ok (.if_icmp .ge 20, 3) := by decide +kernel
theorem dX3_sendTo_14 : decode cX3_sendTo 14 = .ok (.aload_n 0, 1) := by decide +kernel
theorem dX3_sendTo_15 : decode cX3_sendTo 15 = .ok (.getfield 30, 3) := by decide +kernel
theorem dX3_sendTo_18 : decode cX3_sendTo 18 = .ok (.iload_n 1, 1) := by decide +kernel
theorem dX3_sendTo_19 : decode cX3_sendTo 19 = .ok (.iconst 5, 1) := by decide +kernel
theorem dX3_sendTo_20 : decode cX3_sendTo 20 = .ok (.imul, 1) := by decide +kernel
theorem dX3_sendTo_21 : decode cX3_sendTo 21 = .ok (.iload_n 3, 1) := by decide +kernel
theorem dX3_sendTo_22 : decode cX3_sendTo 22 = .ok (.iadd, 1) := by decide +kernel
theorem dX3_sendTo_23 : decode cX3_sendTo 23 = .ok (.iconst 0, 1) := by decide +kernel
theorem dX3_sendTo_24 : decode cX3_sendTo 24 = .ok (.iastore, 1) := by decide +kernel
theorem dX3_sendTo_25 : decode cX3_sendTo 25 = .ok (.iinc 3 1, 3) := by decide +kernel
theorem dX3_sendTo_28 : decode cX3_sendTo 28 = .ok (.goto (-19), 3) := by decide +kernel
theorem dX3_sendTo_31 : decode cX3_sendTo 31 = .ok (.return_, 1) := by decide +kernel
theorem dX3_sendByDraw_0 : decode cX3_sendByDraw 0 = .ok (.lload_n 1, 1) := by decide +kernel
theorem dX3_sendByDraw_1 : decode cX3_sendByDraw 1 = .ok (.ldc2_w 94, 3) := by decide +kernel
theorem dX3_sendByDraw_4 : decode cX3_sendByDraw 4 = .ok (.lrem, 1) := by decide +kernel
theorem dX3_sendByDraw_5 : decode cX3_sendByDraw 5 = .ok (.lconst 0, 1) := by decide +kernel
theorem dX3_sendByDraw_6 : decode cX3_sendByDraw 6 = .ok (.lcmp, 1) := by decide +kernel
theorem dX3_sendByDraw_7 : decode cX3_sendByDraw 7 = .ok (.ifCond .ne 37, 3) := by decide +kernel
theorem dX3_sendByDraw_10 : decode cX3_sendByDraw 10 = .ok (.aload_n 0, 1) := by decide +kernel
theorem dX3_sendByDraw_11 : decode cX3_sendByDraw 11 = .ok (.getfield 40, 3) := by decide +kernel
theorem dX3_sendByDraw_14 : decode cX3_sendByDraw 14 = .ok (.ifCond .le 30, 3) := by decide +kernel
theorem dX3_sendByDraw_17 : decode cX3_sendByDraw 17 = .ok (.aload_n 0, 1) := by decide +kernel
theorem dX3_sendByDraw_18 : decode cX3_sendByDraw 18 = .ok (.getfield 36, 3) := by decide +kernel
theorem dX3_sendByDraw_21 : decode cX3_sendByDraw 21 = .ok (.ifCond .le 23, 3) := by decide +kernel
theorem dX3_sendByDraw_24 : decode cX3_sendByDraw 24 = .ok (.aload_n 0, 1) := by decide +kernel
theorem dX3_sendByDraw_25 : decode cX3_sendByDraw 25 = .ok (.lload_n 1, 1) := by decide +kernel
theorem dX3_sendByDraw_26 : decode cX3_sendByDraw 26 = .ok (.aload_n 0, 1) := by decide +kernel
theorem dX3_sendByDraw_27 : decode cX3_sendByDraw 27 = .ok (.getfield 40, 3) := by decide +kernel
theorem dX3_sendByDraw_30 : decode cX3_sendByDraw 30 = .ok (.i2l, 1) := by decide +kernel
theorem dX3_sendByDraw_31 : decode cX3_sendByDraw 31 = .ok (.lrem, 1) := by decide +kernel
theorem dX3_sendByDraw_32 : decode cX3_sendByDraw 32 = .ok (.l2i, 1) := by decide +kernel
theorem dX3_sendByDraw_33 : decode cX3_sendByDraw 33 = .ok (.lload_n 1, 1) := by decide +kernel
theorem dX3_sendByDraw_34 : decode cX3_sendByDraw 34 = .ok (.aload_n 0, 1) := by decide +kernel
theorem dX3_sendByDraw_35 : decode cX3_sendByDraw 35 = .ok (.getfield 36, 3) := by decide +kernel
theorem dX3_sendByDraw_38 : decode cX3_sendByDraw 38 = .ok (.i2l, 1) := by decide +kernel
theorem dX3_sendByDraw_39 : decode cX3_sendByDraw 39 = .ok (.lrem, 1) := by decide +kernel
theorem dX3_sendByDraw_40 : decode cX3_sendByDraw 40 = .ok (.l2i, 1) := by decide +kernel
theorem dX3_sendByDraw_41 : decode cX3_sendByDraw 41 = .ok (.invokevirtual 96, 3) := by decide +kernel
theorem dX3_sendByDraw_44 : decode cX3_sendByDraw 44 = .ok (.return_, 1) := by decide +kernel
theorem dX3_passDays_0 : decode cX3_passDays 0 = .ok (.iconst 0, 1) := by decide +kernel
theorem dX3_passDays_1 : decode cX3_passDays 1 = .ok (.istore_n 2, 1) := by decide +kernel
theorem dX3_passDays_2 : decode cX3_passDays 2 = .ok (.iload_n 2, 1) := by decide +kernel
theorem dX3_passDays_3 : decode cX3_passDays 3 = .ok (.iload_n 1, 1) := by decide +kernel
theorem dX3_passDays_4 : decode cX3_passDays 4 = .ok (.if_icmp .ge 14, 3) := by decide +kernel
theorem dX3_passDays_7 : decode cX3_passDays 7 = .ok (.aload_n 0, 1) := by decide +kernel
theorem dX3_passDays_8 : decode cX3_passDays 8 = .ok (.invokevirtual 100, 3) := by decide +kernel
theorem dX3_passDays_11 : decode cX3_passDays 11 = .ok (.pop, 1) := by decide +kernel
theorem dX3_passDays_12 : decode cX3_passDays 12 = .ok (.iinc 2 1, 3) := by decide +kernel
theorem dX3_passDays_15 : decode cX3_passDays 15 = .ok (.goto (-13), 3) := by decide +kernel
theorem dX3_passDays_18 : decode cX3_passDays 18 = .ok (.return_, 1) := by decide +kernel
theorem dX3_passDay_0 : decode cX3_passDay 0 = .ok (.aload_n 0, 1) := by decide +kernel
theorem dX3_passDay_1 : decode cX3_passDay 1 = .ok (.invokevirtual 104, 3) := by decide +kernel
theorem dX3_passDay_4 : decode cX3_passDay 4 = .ok (.istore_n 1, 1) := by decide +kernel
theorem dX3_passDay_5 : decode cX3_passDay 5 = .ok (.iconst 0, 1) := by decide +kernel
theorem dX3_passDay_6 : decode cX3_passDay 6 = .ok (.istore_n 2, 1) := by decide +kernel
theorem dX3_passDay_7 : decode cX3_passDay 7 = .ok (.iconst 0, 1) := by decide +kernel
theorem dX3_passDay_8 : decode cX3_passDay 8 = .ok (.istore_n 3, 1) := by decide +kernel
theorem dX3_passDay_9 : decode cX3_passDay 9 = .ok (.iload_n 3, 1) := by decide +kernel
theorem dX3_passDay_10 : decode cX3_passDay 10 = .ok (.aload_n 0, 1) := by decide +kernel
theorem dX3_passDay_11 : decode cX3_passDay 11 = .ok (.getfield 36, 3) := by decide +kernel
theorem dX3_passDay_14 : decode cX3_passDay 14 = .ok (.if_icmp .ge 107, 3) := by decide +kernel
theorem dX3_passDay_17 : decode cX3_passDay 17 = .ok (.iload_n 1, 1) := by decide +kernel
theorem dX3_passDay_18 : decode cX3_passDay 18 = .ok (.iload_n 3, 1) := by decide +kernel
theorem dX3_passDay_19 : decode cX3_passDay 19 = .ok (.invokestatic 84, 3) := by decide +kernel
theorem dX3_passDay_22 : decode cX3_passDay 22 = .ok (.ifCond .ne 24, 3) := by decide +kernel
theorem dX3_passDay_25 : decode cX3_passDay 25 = .ok (.aload_n 0, 1) := by decide +kernel
theorem dX3_passDay_26 : decode cX3_passDay 26 = .ok (.getfield 9, 3) := by decide +kernel
theorem dX3_passDay_29 : decode cX3_passDay 29 = .ok (.iload_n 3, 1) := by decide +kernel
theorem dX3_passDay_30 : decode cX3_passDay 30 = .ok (.iconst 0, 1) := by decide +kernel
theorem dX3_passDay_31 : decode cX3_passDay 31 = .ok (.aload_n 0, 1) := by decide +kernel
theorem dX3_passDay_32 : decode cX3_passDay 32 = .ok (.getfield 9, 3) := by decide +kernel
theorem dX3_passDay_35 : decode cX3_passDay 35 = .ok (.iload_n 3, 1) := by decide +kernel
theorem dX3_passDay_36 : decode cX3_passDay 36 = .ok (.iaload, 1) := by decide +kernel
theorem dX3_passDay_37 : decode cX3_passDay 37 = .ok (.iconst 1, 1) := by decide +kernel
theorem dX3_passDay_38 : decode cX3_passDay 38 = .ok (.isub, 1) := by decide +kernel
theorem dX3_passDay_39 : decode cX3_passDay 39 = .ok (.invokestatic 107, 3) := by decide +kernel
theorem dX3_passDay_42 : decode cX3_passDay 42 = .ok (.iastore, 1) := by decide +kernel
theorem dX3_passDay_43 : decode cX3_passDay 43 = .ok (.goto 72, 3) := by decide +kernel
theorem dX3_passDay_46 : decode cX3_passDay 46 = .ok (.aload_n 0, 1) := by decide +kernel
theorem dX3_passDay_47 : decode cX3_passDay 47 = .ok (.getfield 33, 3) := by decide +kernel
theorem dX3_passDay_50 : decode cX3_passDay 50 = .ok (.iload_n 3, 1) := by decide +kernel
theorem dX3_passDay_51 : decode cX3_passDay 51 = .ok (.iaload, 1) := by decide +kernel
theorem dX3_passDay_52 : decode cX3_passDay 52 = .ok (.aload_n 0, 1) := by decide +kernel
theorem dX3_passDay_53 : decode cX3_passDay 53 = .ok (.getfield 15, 3) := by decide +kernel
theorem dX3_passDay_56 : decode cX3_passDay 56 = .ok (.iload_n 3, 1) := by decide +kernel
theorem dX3_passDay_57 : decode cX3_passDay 57 = .ok (.iaload, 1) := by decide +kernel
theorem dX3_passDay_58 : decode cX3_passDay 58 = .ok (.if_icmp .le 30, 3) := by decide +kernel
theorem dX3_passDay_61 : decode cX3_passDay 61 = .ok (.aload_n 0, 1) := by decide +kernel
theorem dX3_passDay_62 : decode cX3_passDay 62 = .ok (.getfield 9, 3) := by decide +kernel
theorem dX3_passDay_65 : decode cX3_passDay 65 = .ok (.iload_n 3, 1) := by decide +kernel
theorem dX3_passDay_66 : decode cX3_passDay 66 = .ok (.bipush 99, 2) := by decide +kernel
theorem dX3_passDay_68 : decode cX3_passDay 68 = .ok (.aload_n 0, 1) := by decide +kernel
theorem dX3_passDay_69 : decode cX3_passDay 69 = .ok (.getfield 9, 3) := by decide +kernel
theorem dX3_passDay_72 : decode cX3_passDay 72 = .ok (.iload_n 3, 1) := by decide +kernel
theorem dX3_passDay_73 : decode cX3_passDay 73 = .ok (.iaload, 1) := by decide +kernel
theorem dX3_passDay_74 : decode cX3_passDay 74 = .ok (.aload_n 0, 1) := by decide +kernel
theorem dX3_passDay_75 : decode cX3_passDay 75 = .ok (.getfield 33, 3) := by decide +kernel
theorem dX3_passDay_78 : decode cX3_passDay 78 = .ok (.iload_n 3, 1) := by decide +kernel
theorem dX3_passDay_79 : decode cX3_passDay 79 = .ok (.iaload, 1) := by decide +kernel
theorem dX3_passDay_80 : decode cX3_passDay 80 = .ok (.iadd, 1) := by decide +kernel
theorem dX3_passDay_81 : decode cX3_passDay 81 = .ok (.invokestatic 72, 3) := by decide +kernel
theorem dX3_passDay_84 : decode cX3_passDay 84 = .ok (.iastore, 1) := by decide +kernel
theorem dX3_passDay_85 : decode cX3_passDay 85 = .ok (.goto 30, 3) := by decide +kernel
theorem dX3_passDay_88 : decode cX3_passDay 88 = .ok (.aload_n 0, 1) := by decide +kernel
theorem dX3_passDay_89 : decode cX3_passDay 89 = .ok (.getfield 9, 3) := by decide +kernel
theorem dX3_passDay_92 : decode cX3_passDay 92 = .ok (.iload_n 3, 1) := by decide +kernel
theorem dX3_passDay_93 : decode cX3_passDay 93 = .ok (.iconst 0, 1) := by decide +kernel
theorem dX3_passDay_94 : decode cX3_passDay 94 = .ok (.aload_n 0, 1) := by decide +kernel
theorem dX3_passDay_95 : decode cX3_passDay 95 = .ok (.getfield 9, 3) := by decide +kernel
theorem dX3_passDay_98 : decode cX3_passDay 98 = .ok (.iload_n 3, 1) := by decide +kernel
theorem dX3_passDay_99 : decode cX3_passDay 99 = .ok (.iaload, 1) := by decide +kernel
theorem dX3_passDay_100 : decode cX3_passDay 100 = .ok (.aload_n 0, 1) := by decide +kernel
theorem dX3_passDay_101 : decode cX3_passDay 101 = .ok (.getfield 52, 3) := by decide +kernel
theorem dX3_passDay_104 : decode cX3_passDay 104 = .ok (.isub, 1) := by decide +kernel
theorem dX3_passDay_105 : decode cX3_passDay 105 = .ok (.invokestatic 107, 3) := by decide +kernel
theorem dX3_passDay_108 : decode cX3_passDay 108 = .ok (.iastore, 1) := by decide +kernel
theorem dX3_passDay_109 : decode cX3_passDay 109 = .ok (.iload_n 2, 1) := by decide +kernel
theorem dX3_passDay_110 : decode cX3_passDay 110 = .ok (.iconst 1, 1) := by decide +kernel
theorem dX3_passDay_111 : decode cX3_passDay 111 = .ok (.iload_n 3, 1) := by decide +kernel
theorem dX3_passDay_112 : decode cX3_passDay 112 = .ok (.ishl, 1) := by decide +kernel
theorem dX3_passDay_113 : decode cX3_passDay 113 = .ok (.ior, 1) := by decide +kernel
theorem dX3_passDay_114 : decode cX3_passDay 114 = .ok (.istore_n 2, 1) := by decide +kernel
theorem dX3_passDay_115 : decode cX3_passDay 115 = .ok (.iinc 3 1, 3) := by decide +kernel
theorem dX3_passDay_118 : decode cX3_passDay 118 = .ok (.goto (-109), 3) := by decide +kernel
theorem dX3_passDay_121 : decode cX3_passDay 121 = .ok (.aload_n 0, 1) := by decide +kernel
theorem dX3_passDay_122 : decode cX3_passDay 122 = .ok (.dup, 1) := by decide +kernel
theorem dX3_passDay_123 : decode cX3_passDay 123 = .ok (.getfield 43, 3) := by decide +kernel
theorem dX3_passDay_126 : decode cX3_passDay 126 = .ok (.iconst 1, 1) := by decide +kernel
theorem dX3_passDay_127 : decode cX3_passDay 127 = .ok (.iadd, 1) := by decide +kernel
theorem dX3_passDay_128 : decode cX3_passDay 128 = .ok (.putfield 43, 3) := by decide +kernel
theorem dX3_passDay_131 : decode cX3_passDay 131 = .ok (.iload_n 2, 1) := by decide +kernel
theorem dX3_passDay_132 : decode cX3_passDay 132 = .ok (.ireturn, 1) := by decide +kernel
theorem dX3_stayAway_0 : decode cX3_stayAway 0 = .ok (.iconst 0, 1) := by decide +kernel
theorem dX3_stayAway_1 : decode cX3_stayAway 1 = .ok (.istore_n 1, 1) := by decide +kernel
theorem dX3_stayAway_2 : decode cX3_stayAway 2 = .ok (.iload_n 1, 1) := by decide +kernel
theorem dX3_stayAway_3 : decode cX3_stayAway 3 = .ok (.iconst 5, 1) := by decide +kernel
theorem dX3_stayAway_4 : decode cX3_stayAway 4 = .ok (.if_icmp .ge 16, 3) := by decide +kernel
theorem dX3_stayAway_7 : decode cX3_stayAway 7 = .ok (.aload_n 0, 1) := by decide +kernel
theorem dX3_stayAway_8 : decode cX3_stayAway 8 = .ok (.getfield 33, 3) := by decide +kernel
theorem dX3_stayAway_11 : decode cX3_stayAway 11 = .ok (.iload_n 1, 1) := by decide +kernel
theorem dX3_stayAway_12 : decode cX3_stayAway 12 = .ok (.iconst 0, 1) := by decide +kernel
theorem dX3_stayAway_13 : decode cX3_stayAway 13 = .ok (.iastore, 1) := by decide +kernel
theorem dX3_stayAway_14 : decode cX3_stayAway 14 = .ok (.iinc 1 1, 3) := by decide +kernel
theorem dX3_stayAway_17 : decode cX3_stayAway 17 = .ok (.goto (-15), 3) := by decide +kernel
theorem dX3_stayAway_20 : decode cX3_stayAway 20 = .ok (.iconst 0, 1) := by decide +kernel
theorem dX3_stayAway_21 : decode cX3_stayAway 21 = .ok (.istore_n 1, 1) := by decide +kernel
theorem dX3_stayAway_22 : decode cX3_stayAway 22 = .ok (.iconst 0, 1) := by decide +kernel
theorem dX3_stayAway_23 : decode cX3_stayAway 23 = .ok (.istore_n 2, 1) := by decide +kernel
theorem dX3_stayAway_24 : decode cX3_stayAway 24 = .ok (.iload_n 2, 1) := by decide +kernel
theorem dX3_stayAway_25 : decode cX3_stayAway 25 = .ok (.aload_n 0, 1) := by decide +kernel
theorem dX3_stayAway_26 : decode cX3_stayAway 26 = .ok (.getfield 40, 3) := by decide +kernel
theorem dX3_stayAway_29 : decode cX3_stayAway 29 = .ok (.if_icmp .ge 60, 3) := by decide +kernel
theorem dX3_stayAway_32 : decode cX3_stayAway 32 = .ok (.aload_n 0, 1) := by decide +kernel
theorem dX3_stayAway_33 : decode cX3_stayAway 33 = .ok (.getfield 49, 3) := by decide +kernel
theorem dX3_stayAway_36 : decode cX3_stayAway 36 = .ok (.iload_n 2, 1) := by decide +kernel
theorem dX3_stayAway_37 : decode cX3_stayAway 37 = .ok (.invokestatic 84, 3) := by decide +kernel
theorem dX3_stayAway_40 : decode cX3_stayAway 40 = .ok (.ifCond .ne 43, 3) := by decide +kernel
theorem dX3_stayAway_43 : decode cX3_stayAway 43 = .ok (.aload_n 0, 1) := by decide +kernel
theorem dX3_stayAway_44 : decode cX3_stayAway 44 = .ok (.iload_n 2, 1) := by decide +kernel
theorem dX3_stayAway_45 : decode cX3_stayAway 45 = .ok (.invokevirtual 64, 3) := by decide +kernel
theorem dX3_stayAway_48 : decode cX3_stayAway 48 = .ok (.istore_n 3, 1) := by decide +kernel
theorem dX3_stayAway_49 : decode cX3_stayAway 49 = .ok (.aload_n 0, 1) := by decide +kernel
theorem dX3_stayAway_50 : decode cX3_stayAway 50 = .ok (.getfield 33, 3) := by decide +kernel
theorem dX3_stayAway_53 : decode cX3_stayAway 53 = .ok (.iload_n 3, 1) := by decide +kernel
theorem dX3_stayAway_54 : decode cX3_stayAway 54 = .ok (.dup2, 1) := by decide +kernel
theorem dX3_stayAway_55 : decode cX3_stayAway 55 = .ok (.iaload, 1) := by decide +kernel
theorem dX3_stayAway_56 : decode cX3_stayAway 56 = .ok (.aload_n 0, 1) := by decide +kernel
theorem dX3_stayAway_57 : decode cX3_stayAway 57 = .ok (.iload_n 2, 1) := by decide +kernel
theorem dX3_stayAway_58 : decode cX3_stayAway 58 = .ok (.invokevirtual 91, 3) := by decide +kernel
theorem dX3_stayAway_61 : decode cX3_stayAway 61 = .ok (.iadd, 1) := by decide +kernel
theorem dX3_stayAway_62 : decode cX3_stayAway 62 = .ok (.iastore, 1) := by decide +kernel
theorem dX3_stayAway_63 : decode cX3_stayAway 63 = .ok (.aload_n 0, 1) := by decide +kernel
theorem dX3_stayAway_64 : decode cX3_stayAway 64 = .ok (.getfield 30, 3) := by decide +kernel
theorem dX3_stayAway_67 : decode cX3_stayAway 67 = .ok (.iload_n 2, 1) := by decide +kernel
theorem dX3_stayAway_68 : decode cX3_stayAway 68 = .ok (.iconst 5, 1) := by decide +kernel
theorem dX3_stayAway_69 : decode cX3_stayAway 69 = .ok (.imul, 1) := by decide +kernel
theorem dX3_stayAway_70 : decode cX3_stayAway 70 = .ok (.iload_n 3, 1) := by decide +kernel
theorem dX3_stayAway_71 : decode cX3_stayAway 71 = .ok (.iadd, 1) := by decide +kernel
theorem dX3_stayAway_72 : decode cX3_stayAway 72 = .ok (.dup2, 1) := by decide +kernel
theorem dX3_stayAway_73 : decode cX3_stayAway 73 = .ok (.iaload, 1) := by decide +kernel
theorem dX3_stayAway_74 : decode cX3_stayAway 74 = .ok (.iconst 1, 1) := by decide +kernel
theorem dX3_stayAway_75 : decode cX3_stayAway 75 = .ok (.iadd, 1) := by decide +kernel
theorem dX3_stayAway_76 : decode cX3_stayAway 76 = .ok (.iastore, 1) := by decide +kernel
theorem dX3_stayAway_77 : decode cX3_stayAway 77 = .ok (.iload_n 1, 1) := by decide +kernel
theorem dX3_stayAway_78 : decode cX3_stayAway 78 = .ok (.iconst 1, 1) := by decide +kernel
theorem dX3_stayAway_79 : decode cX3_stayAway 79 = .ok (.iload_n 3, 1) := by decide +kernel
theorem dX3_stayAway_80 : decode cX3_stayAway 80 = .ok (.ishl, 1) := by decide +kernel
theorem dX3_stayAway_81 : decode cX3_stayAway 81 = .ok (.ior, 1) := by decide +kernel
theorem dX3_stayAway_82 : decode cX3_stayAway 82 = .ok (.istore_n 1, 1) := by decide +kernel
theorem dX3_stayAway_83 : decode cX3_stayAway 83 = .ok (.iinc 2 1, 3) := by decide +kernel
theorem dX3_stayAway_86 : decode cX3_stayAway 86 = .ok (.goto (-62), 3) := by decide +kernel
theorem dX3_stayAway_89 : decode cX3_stayAway 89 = .ok (.iload_n 1, 1) := by decide +kernel
theorem dX3_stayAway_90 : decode cX3_stayAway 90 = .ok (.ireturn, 1) := by decide +kernel
theorem dJ6_bitCount_0f7a4_0 : decode cJ6_bitCount_0f7a4 0 = .ok (.iload_n 0, 1) := by decide +kernel
theorem dJ6_bitCount_0f7a4_1 : decode cJ6_bitCount_0f7a4 1 = .ok (.iload_n 0, 1) := by decide +kernel
theorem dJ6_bitCount_0f7a4_2 : decode cJ6_bitCount_0f7a4 2 = .ok (.iconst 1, 1) := by decide +kernel
theorem dJ6_bitCount_0f7a4_3 : decode cJ6_bitCount_0f7a4 3 = .ok (.iushr, 1) := by decide +kernel
theorem dJ6_bitCount_0f7a4_4 : decode cJ6_bitCount_0f7a4 4 = .ok (.ldc_w 265, 3) := by decide +kernel
theorem dJ6_bitCount_0f7a4_7 : decode cJ6_bitCount_0f7a4 7 = .ok (.iand, 1) := by decide +kernel
theorem dJ6_bitCount_0f7a4_8 : decode cJ6_bitCount_0f7a4 8 = .ok (.isub, 1) := by decide +kernel
theorem dJ6_bitCount_0f7a4_9 : decode cJ6_bitCount_0f7a4 9 = .ok (.istore_n 0, 1) := by decide +kernel
theorem dJ6_bitCount_0f7a4_10 : decode cJ6_bitCount_0f7a4 10 = .ok (.iload_n 0, 1) := by decide +kernel
theorem dJ6_bitCount_0f7a4_11 : decode cJ6_bitCount_0f7a4 11 = .ok (.ldc_w 266, 3) := by decide +kernel
theorem dJ6_bitCount_0f7a4_14 : decode cJ6_bitCount_0f7a4 14 = .ok (.iand, 1) := by decide +kernel
theorem dJ6_bitCount_0f7a4_15 : decode cJ6_bitCount_0f7a4 15 = .ok (.iload_n 0, 1) := by decide +kernel
theorem dJ6_bitCount_0f7a4_16 : decode cJ6_bitCount_0f7a4 16 = .ok (.iconst 2, 1) := by decide +kernel
theorem dJ6_bitCount_0f7a4_17 : decode cJ6_bitCount_0f7a4 17 = .ok (.iushr, 1) := by decide +kernel
theorem dJ6_bitCount_0f7a4_18 : decode cJ6_bitCount_0f7a4 18 = .ok (.ldc_w 266, 3) := by decide +kernel
theorem dJ6_bitCount_0f7a4_21 : decode cJ6_bitCount_0f7a4 21 = .ok (.iand, 1) := by decide +kernel
theorem dJ6_bitCount_0f7a4_22 : decode cJ6_bitCount_0f7a4 22 = .ok (.iadd, 1) := by decide +kernel
theorem dJ6_bitCount_0f7a4_23 : decode cJ6_bitCount_0f7a4 23 = .ok (.istore_n 0, 1) := by decide +kernel
theorem dJ6_bitCount_0f7a4_24 : decode cJ6_bitCount_0f7a4 24 = .ok (.iload_n 0, 1) := by decide +kernel
theorem dJ6_bitCount_0f7a4_25 : decode cJ6_bitCount_0f7a4 25 = .ok (.iload_n 0, 1) := by decide +kernel
theorem dJ6_bitCount_0f7a4_26 : decode cJ6_bitCount_0f7a4 26 = .ok (.iconst 4, 1) := by decide +kernel
theorem dJ6_bitCount_0f7a4_27 : decode cJ6_bitCount_0f7a4 27 = .ok (.iushr, 1) := by decide +kernel
theorem dJ6_bitCount_0f7a4_28 : decode cJ6_bitCount_0f7a4 28 = .ok (.iadd, 1) := by decide +kernel
theorem dJ6_bitCount_0f7a4_29 : decode cJ6_bitCount_0f7a4 29 = .ok (.ldc_w 267, 3) := by decide +kernel
theorem dJ6_bitCount_0f7a4_32 : decode cJ6_bitCount_0f7a4 32 = .ok (.iand, 1) := by decide +kernel
theorem dJ6_bitCount_0f7a4_33 : decode cJ6_bitCount_0f7a4 33 = .ok (.istore_n 0, 1) := by decide +kernel
theorem dJ6_bitCount_0f7a4_34 : decode cJ6_bitCount_0f7a4 34 = .ok (.iload_n 0, 1) := by decide +kernel
theorem dJ6_bitCount_0f7a4_35 : decode cJ6_bitCount_0f7a4 35 = .ok (.iload_n 0, 1) := by decide +kernel
theorem dJ6_bitCount_0f7a4_36 : decode cJ6_bitCount_0f7a4 36 = .ok (.bipush 8, 2) := by decide +kernel
theorem dJ6_bitCount_0f7a4_38 : decode cJ6_bitCount_0f7a4 38 = .ok (.iushr, 1) := by decide +kernel
theorem dJ6_bitCount_0f7a4_39 : decode cJ6_bitCount_0f7a4 39 = .ok (.iadd, 1) := by decide +kernel
theorem dJ6_bitCount_0f7a4_40 : decode cJ6_bitCount_0f7a4 40 = .ok (.istore_n 0, 1) := by decide +kernel
theorem dJ6_bitCount_0f7a4_41 : decode cJ6_bitCount_0f7a4 41 = .ok (.iload_n 0, 1) := by decide +kernel
theorem dJ6_bitCount_0f7a4_42 : decode cJ6_bitCount_0f7a4 42 = .ok (.iload_n 0, 1) := by decide +kernel
theorem dJ6_bitCount_0f7a4_43 : decode cJ6_bitCount_0f7a4 43 = .ok (.bipush 16, 2) := by decide +kernel
theorem dJ6_bitCount_0f7a4_45 : decode cJ6_bitCount_0f7a4 45 = .ok (.iushr, 1) := by decide +kernel
theorem dJ6_bitCount_0f7a4_46 : decode cJ6_bitCount_0f7a4 46 = .ok (.iadd, 1) := by decide +kernel
theorem dJ6_bitCount_0f7a4_47 : decode cJ6_bitCount_0f7a4 47 = .ok (.istore_n 0, 1) := by decide +kernel
theorem dJ6_bitCount_0f7a4_48 : decode cJ6_bitCount_0f7a4 48 = .ok (.iload_n 0, 1) := by decide +kernel
theorem dJ6_bitCount_0f7a4_49 : decode cJ6_bitCount_0f7a4 49 = .ok (.bipush 63, 2) := by decide +kernel
theorem dJ6_bitCount_0f7a4_51 : decode cJ6_bitCount_0f7a4 51 = .ok (.iand, 1) := by decide +kernel
theorem dJ6_bitCount_0f7a4_52 : decode cJ6_bitCount_0f7a4 52 = .ok (.ireturn, 1) := by decide +kernel
theorem dJ9_max_7cf53_0 : decode cJ9_max_7cf53 0 = .ok (.iload_n 0, 1) := by decide +kernel
theorem dJ9_max_7cf53_1 : decode cJ9_max_7cf53 1 = .ok (.iload_n 1, 1) := by decide +kernel
theorem dJ9_max_7cf53_2 : decode cJ9_max_7cf53 2 = .ok (.if_icmp .lt 7, 3) := by decide +kernel
theorem dJ9_max_7cf53_5 : decode cJ9_max_7cf53 5 = .ok (.iload_n 0, 1) := by decide +kernel
theorem dJ9_max_7cf53_6 : decode cJ9_max_7cf53 6 = .ok (.goto 4, 3) := by decide +kernel
theorem dJ9_max_7cf53_9 : decode cJ9_max_7cf53 9 = .ok (.iload_n 1, 1) := by decide +kernel
theorem dJ9_max_7cf53_10 : decode cJ9_max_7cf53 10 = .ok (.ireturn, 1) := by decide +kernel
theorem dJ9_max_f86c9_0 : decode cJ9_max_f86c9 0 = .ok (.lload_n 0, 1) := by decide +kernel
theorem dJ9_max_f86c9_1 : decode cJ9_max_f86c9 1 = .ok (.lload_n 2, 1) := by decide +kernel
theorem dJ9_max_f86c9_2 : decode cJ9_max_f86c9 2 = .ok (.lcmp, 1) := by decide +kernel
theorem dJ9_max_f86c9_3 : decode cJ9_max_f86c9 3 = .ok (.ifCond .lt 7, 3) := by decide +kernel
theorem dJ9_max_f86c9_6 : decode cJ9_max_f86c9 6 = .ok (.lload_n 0, 1) := by decide +kernel
theorem dJ9_max_f86c9_7 : decode cJ9_max_f86c9 7 = .ok (.goto 4, 3) := by decide +kernel
theorem dJ9_max_f86c9_10 : decode cJ9_max_f86c9 10 = .ok (.lload_n 2, 1) := by decide +kernel
theorem dJ9_max_f86c9_11 : decode cJ9_max_f86c9 11 = .ok (.lreturn, 1) := by decide +kernel
theorem dJ9_min_7cf53_0 : decode cJ9_min_7cf53 0 = .ok (.iload_n 0, 1) := by decide +kernel
theorem dJ9_min_7cf53_1 : decode cJ9_min_7cf53 1 = .ok (.iload_n 1, 1) := by decide +kernel
theorem dJ9_min_7cf53_2 : decode cJ9_min_7cf53 2 = .ok (.if_icmp .gt 7, 3) := by decide +kernel
theorem dJ9_min_7cf53_5 : decode cJ9_min_7cf53 5 = .ok (.iload_n 0, 1) := by decide +kernel
theorem dJ9_min_7cf53_6 : decode cJ9_min_7cf53 6 = .ok (.goto 4, 3) := by decide +kernel
theorem dJ9_min_7cf53_9 : decode cJ9_min_7cf53 9 = .ok (.iload_n 1, 1) := by decide +kernel
theorem dJ9_min_7cf53_10 : decode cJ9_min_7cf53 10 = .ok (.ireturn, 1) := by decide +kernel
