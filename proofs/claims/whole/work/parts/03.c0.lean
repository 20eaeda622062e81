theorem dX0_init_0 : decode cX0_init 0 = .ok (.aload_n 0, 1) := by decide +kernel
theorem dX0_init_1 : decode cX0_init 1 = .ok (.invokespecial 3, 3) := by decide +kernel
theorem dX0_init_4 : decode cX0_init 4 = .ok (.aload_n 0, 1) := by decide +kernel
theorem dX0_init_5 : decode cX0_init 5 = .ok (.bipush 40, 2) := by decide +kernel
theorem dX0_init_7 : decode cX0_init 7 = .ok (.anewarray 9, 3) := by decide +kernel
theorem dX0_init_10 : decode cX0_init 10 = .ok (.putfield 11, 3) := by decide +kernel
theorem dX0_init_13 : decode cX0_init 13 = .ok (.iconst 0, 1) := by decide +kernel
theorem dX0_init_14 : decode cX0_init 14 = .ok (.istore_n 1, 1) := by decide +kernel
theorem dX0_init_15 : decode cX0_init 15 = .ok (.iload_n 1, 1) := by decide +kernel
theorem dX0_init_16 : decode cX0_init 16 = .ok (.bipush 40, 2) := by decide +kernel
theorem dX0_init_18 : decode cX0_init 18 = .ok (.if_icmp .ge 22, 3) := by decide +kernel
theorem dX0_init_21 : decode cX0_init 21 = .ok (.aload_n 0, 1) := by decide +kernel
theorem dX0_init_22 : decode cX0_init 22 = .ok (.getfield 11, 3) := by decide +kernel
theorem dX0_init_25 : decode cX0_init 25 = .ok (.iload_n 1, 1) := by decide +kernel
theorem dX0_init_26 : decode cX0_init 26 = .ok (.new 9, 3) := by decide +kernel
theorem dX0_init_29 : decode cX0_init 29 = .ok (.dup, 1) := by decide +kernel
theorem dX0_init_30 : decode cX0_init 30 = .ok (.invokespecial 17, 3) := by decide +kernel
theorem dX0_init_33 : decode cX0_init 33 = .ok (.aastore, 1) := by decide +kernel
theorem dX0_init_34 : decode cX0_init 34 = .ok (.iinc 1 1, 3) := by decide +kernel
theorem dX0_init_37 : decode cX0_init 37 = .ok (.goto (-22), 3) := by decide +kernel
theorem dX0_init_40 : decode cX0_init 40 = .ok (.return_, 1) := by decide +kernel
theorem dX0_keep_0 : decode cX0_keep 0 = .ok (.aload_n 0, 1) := by decide +kernel
theorem dX0_keep_1 : decode cX0_keep 1 = .ok (.getfield 11, 3) := by decide +kernel
theorem dX0_keep_4 : decode cX0_keep 4 = .ok (.aload_n 0, 1) := by decide +kernel
theorem dX0_keep_5 : decode cX0_keep 5 = .ok (.getfield 18, 3) := by decide +kernel
theorem dX0_keep_8 : decode cX0_keep 8 = .ok (.aaload, 1) := by decide +kernel
theorem dX0_keep_9 : decode cX0_keep 9 = .ok (.aload_n 1, 1) := by decide +kernel
theorem dX0_keep_10 : decode cX0_keep 10 = .ok (.invokevirtual 22, 3) := by decide +kernel
theorem dX0_keep_13 : decode cX0_keep 13 = .ok (.aload_n 0, 1) := by decide +kernel
theorem dX0_keep_14 : decode cX0_keep 14 = .ok (.aload_n 0, 1) := by decide +kernel
theorem dX0_keep_15 : decode cX0_keep 15 = .ok (.getfield 18, 3) := by decide +kernel
theorem dX0_keep_18 : decode cX0_keep 18 = .ok (.iconst 1, 1) := by decide +kernel
theorem dX0_keep_19 : decode cX0_keep 19 = .ok (.iadd, 1) := by decide +kernel
theorem dX0_keep_20 : decode cX0_keep 20 = .ok (.bipush 40, 2) := by decide +kernel
theorem dX0_keep_22 : decode cX0_keep 22 = .ok (.if_icmp .ge 12, 3) := by decide +kernel
theorem dX0_keep_25 : decode cX0_keep 25 = .ok (.aload_n 0, 1) := by decide +kernel
theorem dX0_keep_26 : decode cX0_keep 26 = .ok (.getfield 18, 3) := by decide +kernel
theorem dX0_keep_29 : decode cX0_keep 29 = .ok (.iconst 1, 1) := by decide +kernel
theorem dX0_keep_30 : decode cX0_keep 30 = .ok (.iadd, 1) := by decide +kernel
theorem dX0_keep_31 : decode cX0_keep 31 = .ok (.goto 4, 3) := by decide +kernel
theorem dX0_keep_34 : decode cX0_keep 34 = .ok (.iconst 0, 1) := by decide +kernel
theorem dX0_keep_35 : decode cX0_keep 35 = .ok (.putfield 18, 3) := by decide +kernel
theorem dX0_keep_38 : decode cX0_keep 38 = .ok (.aload_n 0, 1) := by decide +kernel
theorem dX0_keep_39 : decode cX0_keep 39 = .ok (.bipush 40, 2) := by decide +kernel
theorem dX0_keep_41 : decode cX0_keep 41 = .ok (.aload_n 0, 1) := by decide +kernel
theorem dX0_keep_42 : decode cX0_keep 42 = .ok (.getfield 26, 3) := by decide +kernel
theorem dX0_keep_45 : decode cX0_keep 45 = .ok (.iconst 1, 1) := by decide +kernel
theorem dX0_keep_46 : decode cX0_keep 46 = .ok (.iadd, 1) := by decide +kernel
theorem dX0_keep_47 : decode cX0_keep 47 = .ok (.invokestatic 29, 3) := by decide +kernel
theorem dX0_keep_50 : decode cX0_keep 50 = .ok (.putfield 26, 3) := by decide +kernel
theorem dX0_keep_53 : decode cX0_keep 53 = .ok (.return_, 1) := by decide +kernel
theorem dX0_takeBack_0 : decode cX0_takeBack 0 = .ok (.aload_n 0, 1) := by decide +kernel
theorem dX0_takeBack_1 : decode cX0_takeBack 1 = .ok (.aload_n 0, 1) := by decide +kernel
theorem dX0_takeBack_2 : decode cX0_takeBack 2 = .ok (.getfield 18, 3) := by decide +kernel
theorem dX0_takeBack_5 : decode cX0_takeBack 5 = .ok (.ifCond .le 12, 3) := by decide +kernel
theorem dX0_takeBack_8 : decode cX0_takeBack 8 = .ok (.aload_n 0, 1) := by decide +kernel
theorem dX0_takeBack_9 : decode cX0_takeBack 9 = .ok (.getfield 18, 3) := by decide +kernel
theorem dX0_takeBack_12 : decode cX0_takeBack 12 = .ok (.iconst 1, 1) := by decide +kernel
theorem dX0_takeBack_13 : decode cX0_takeBack 13 = .ok (.isub, 1) := by decide +kernel
theorem dX0_takeBack_14 : decode cX0_takeBack 14 = .ok (.goto 5, 3) := by decide +kernel
theorem dX0_takeBack_17 : decode cX0_takeBack 17 = .ok (.bipush 39, 2) := by decide +kernel
theorem dX0_takeBack_19 : decode cX0_takeBack 19 = .ok (.putfield 18, 3) := by decide +kernel
theorem dX0_takeBack_22 : decode cX0_takeBack 22 = .ok (.aload_n 0, 1) := by decide +kernel
theorem dX0_takeBack_23 : decode cX0_takeBack 23 = .ok (.dup, 1) := by decide +kernel
theorem dX0_takeBack_24 : decode cX0_takeBack 24 = .ok (.getfield 26, 3) := by decide +kernel
theorem dX0_takeBack_27 : decode cX0_takeBack 27 = .ok (.iconst 1, 1) := by decide +kernel
theorem dX0_takeBack_28 : decode cX0_takeBack 28 = .ok (.isub, 1) := by decide +kernel
theorem dX0_takeBack_29 : decode cX0_takeBack 29 = .ok (.putfield 26, 3) := by decide +kernel
theorem dX0_takeBack_32 : decode cX0_takeBack 32 = .ok (.aload_n 1, 1) := by decide +kernel
theorem dX0_takeBack_33 : decode cX0_takeBack 33 = .ok (.aload_n 0, 1) := by decide +kernel
theorem dX0_takeBack_34 : decode cX0_takeBack 34 = .ok (.getfield 11, 3) := by decide +kernel
theorem dX0_takeBack_37 : decode cX0_takeBack 37 = .ok (.aload_n 0, 1) := by decide +kernel
theorem dX0_takeBack_38 : decode cX0_takeBack 38 = .ok (.getfield 18, 3) := by decide +kernel
theorem dX0_takeBack_41 : decode cX0_takeBack 41 = .ok (.aaload, 1) := by decide +kernel
theorem dX0_takeBack_42 : decode cX0_takeBack 42 = .ok (.invokevirtual 22, 3) := by decide +kernel
theorem dX0_takeBack_45 : decode cX0_takeBack 45 = .ok (.return_, 1) := by decide +kernel
theorem dX0_forget_0 : decode cX0_forget 0 = .ok (.aload_n 0, 1) := by decide +kernel
theorem dX0_forget_1 : decode cX0_forget 1 = .ok (.iconst 0, 1) := by decide +kernel
theorem dX0_forget_2 : decode cX0_forget 2 = .ok (.putfield 26, 3) := by decide +kernel
theorem dX0_forget_5 : decode cX0_forget 5 = .ok (.return_, 1) := by decide +kernel
theorem dX1_init_0 : decode cX1_init 0 = .ok (.aload_n 0, 1) := by decide +kernel
theorem dX1_init_1 : decode cX1_init 1 = .ok (.invokespecial 3, 3) := by decide +kernel
theorem dX1_init_4 : decode cX1_init 4 = .ok (.aload_n 0, 1) := by decide +kernel
theorem dX1_init_5 : decode cX1_init 5 = .ok (.bipush 48, 2) := by decide +kernel
theorem dX1_init_7 : decode cX1_init 7 = .ok (.newarray .int, 2) := by decide +kernel
theorem dX1_init_9 : decode cX1_init 9 = .ok (.putfield 9, 3) := by decide +kernel
theorem dX1_init_12 : decode cX1_init 12 = .ok (.return_, 1) := by decide +kernel
theorem dX1_add_0 : decode cX1_add 0 = .ok (.aload_n 0, 1) := by decide +kernel
theorem dX1_add_1 : decode cX1_add 1 = .ok (.getfield 15, 3) := by decide +kernel
theorem dX1_add_4 : decode cX1_add 4 = .ok (.bipush 48, 2) := by decide +kernel
theorem dX1_add_6 : decode cX1_add 6 = .ok (.if_icmp .ge 13, 3) := by decide +kernel
theorem dX1_add_9 : decode cX1_add 9 = .ok (.aload_n 0, 1) := by decide +kernel
theorem dX1_add_10 : decode cX1_add 10 = .ok (.getfield 9, 3) := by decide +kernel
theorem dX1_add_13 : decode cX1_add 13 = .ok (.aload_n 0, 1) := by decide +kernel
theorem dX1_add_14 : decode cX1_add 14 = .ok (.getfield 15, 3) := by decide +kernel
theorem dX1_add_17 : decode cX1_add 17 = .ok (.iload_n 1, 1) := by decide +kernel
theorem dX1_add_18 : decode cX1_add 18 = .ok (.iastore, 1) := by decide +kernel
theorem dX1_add_19 : decode cX1_add 19 = .ok (.aload_n 0, 1) := by decide +kernel
theorem dX1_add_20 : decode cX1_add 20 = .ok (.dup, 1) := by decide +kernel
theorem dX1_add_21 : decode cX1_add 21 = .ok (.getfield 15, 3) := by decide +kernel
theorem dX1_add_24 : decode cX1_add 24 = .ok (.iconst 1, 1) := by decide +kernel
theorem dX1_add_25 : decode cX1_add 25 = .ok (.iadd, 1) := by decide +kernel
theorem dX1_add_26 : decode cX1_add 26 = .ok (.putfield 15, 3) := by decide +kernel
theorem dX1_add_29 : decode cX1_add 29 = .ok (.return_, 1) := by decide +kernel
theorem dX1_repeatFrom_0 : decode cX1_repeatFrom 0 = .ok (.aload_n 0, 1) := by decide +kernel
theorem dX1_repeatFrom_1 : decode cX1_repeatFrom 1 = .ok (.getfield 15, 3) := by decide +kernel
theorem dX1_repeatFrom_4 : decode cX1_repeatFrom 4 = .ok (.iload_n 1, 1) := by decide +kernel
theorem dX1_repeatFrom_5 : decode cX1_repeatFrom 5 = .ok (.isub, 1) := by decide +kernel
theorem dX1_repeatFrom_6 : decode cX1_repeatFrom 6 = .ok (.istore_n 3, 1) := by decide +kernel
theorem dX1_repeatFrom_7 : decode cX1_repeatFrom 7 = .ok (.aload_n 0, 1) := by decide +kernel
theorem dX1_repeatFrom_8 : decode cX1_repeatFrom 8 = .ok (.getfield 15, 3) := by decide +kernel
theorem dX1_repeatFrom_11 : decode cX1_repeatFrom 11 = .ok (.istore 4, 2) := by decide +kernel
theorem dX1_repeatFrom_13 : decode cX1_repeatFrom 13 = .ok (.iload 4, 2) := by decide +kernel
theorem dX1_repeatFrom_15 : decode cX1_repeatFrom 15 = .ok (.bipush 48, 2) := by decide +kernel
theorem dX1_repeatFrom_17 : decode cX1_repeatFrom 17 = .ok (.if_icmp .ge 35, 3) := by decide +kernel
theorem dX1_repeatFrom_20 : decode cX1_repeatFrom 20 = .ok (.iload 4, 2) := by decide +kernel
theorem dX1_repeatFrom_22 : decode cX1_repeatFrom 22 = .ok (.iload_n 1, 1) := by decide +kernel
theorem dX1_repeatFrom_23 : decode cX1_repeatFrom 23 = .ok (.iload_n 2, 1) := by decide +kernel
theorem dX1_repeatFrom_24 : decode cX1_repeatFrom 24 = .ok (.iload_n 3, 1) := by decide +kernel
theorem dX1_repeatFrom_25 : decode cX1_repeatFrom 25 = .ok (.imul, 1) := by decide +kernel
theorem dX1_repeatFrom_26 : decode cX1_repeatFrom 26 = .ok (.iadd, 1) := by decide +kernel
theorem dX1_repeatFrom_27 : decode cX1_repeatFrom 27 = .ok (.if_icmp .ge 25, 3) := by decide +kernel
theorem dX1_repeatFrom_30 : decode cX1_repeatFrom 30 = .ok (.aload_n 0, 1) := by decide +kernel
theorem dX1_repeatFrom_31 : decode cX1_repeatFrom 31 = .ok (.getfield 9, 3) := by decide +kernel
theorem dX1_repeatFrom_34 : decode cX1_repeatFrom 34 = .ok (.iload 4, 2) := by decide +kernel
theorem dX1_repeatFrom_36 : decode cX1_repeatFrom 36 = .ok (.aload_n 0, 1) := by decide +kernel
theorem dX1_repeatFrom_37 : decode cX1_repeatFrom 37 = .ok (.getfield 9, 3) := by decide +kernel
theorem dX1_repeatFrom_40 : decode cX1_repeatFrom 40 = .ok (.iload 4, 2) := by decide +kernel
theorem dX1_repeatFrom_42 : decode cX1_repeatFrom 42 = .ok (.iload_n 3, 1) := by decide +kernel
theorem dX1_repeatFrom_43 : decode cX1_repeatFrom 43 = .ok (.isub, 1) := by decide +kernel
theorem dX1_repeatFrom_44 : decode cX1_repeatFrom 44 = .ok (.iaload, 1) := by decide +kernel
theorem dX1_repeatFrom_45 : decode cX1_repeatFrom 45 = .ok (.iastore, 1) := by decide +kernel
theorem dX1_repeatFrom_46 : decode cX1_repeatFrom 46 = .ok (.iinc 4 1, 3) := by decide +kernel
theorem dX1_repeatFrom_49 : decode cX1_repeatFrom 49 = .ok (.goto (-36), 3) := by decide +kernel
theorem dX1_repeatFrom_52 : decode cX1_repeatFrom 52 = .ok (.aload_n 0, 1) := by decide +kernel
theorem dX1_repeatFrom_53 : decode cX1_repeatFrom 53 = .ok (.iload_n 1, 1) := by decide +kernel
theorem dX1_repeatFrom_54 : decode cX1_repeatFrom 54 = .ok (.iload_n 2, 1) := by decide +kernel
theorem dX1_repeatFrom_55 : decode cX1_repeatFrom 55 = .ok (.iload_n 3, 1) := by decide +kernel
theorem dX1_repeatFrom_56 : decode cX1_repeatFrom 56 = .ok (.imul, 1) := by decide +kernel
theorem dX1_repeatFrom_57 : decode cX1_repeatFrom 57 = .ok (.iadd, 1) := by decide +kernel
theorem dX1_repeatFrom_58 : decode cX1_repeatFrom 58 = .ok (.putfield 15, 3) := by decide +kernel
theorem dX1_repeatFrom_61 : decode cX1_repeatFrom 61 = .ok (.return_, 1) := by decide +kernel
theorem dX1_letterAt_0 : decode cX1_letterAt 0 = .ok (.iload_n 1, 1) := by decide +kernel
theorem dX1_letterAt_1 : decode cX1_letterAt 1 = .ok (.ifCond .lt 26, 3) := by decide +kernel
theorem dX1_letterAt_4 : decode cX1_letterAt 4 = .ok (.iload_n 1, 1) := by decide +kernel
theorem dX1_letterAt_5 : decode cX1_letterAt 5 = .ok (.aload_n 0, 1) := by decide +kernel
theorem dX1_letterAt_6 : decode cX1_letterAt 6 = .ok (.getfield 15, 3) := by decide +kernel
theorem dX1_letterAt_9 : decode cX1_letterAt 9 = .ok (.if_icmp .ge 18, 3) := by decide +kernel
theorem dX1_letterAt_12 : decode cX1_letterAt 12 = .ok (.iload_n 1, 1) := by decide +kernel
theorem dX1_letterAt_13 : decode cX1_letterAt 13 = .ok (.bipush 48, 2) := by decide +kernel
theorem dX1_letterAt_15 : decode cX1_letterAt 15 = .ok (.if_icmp .ge 12, 3) := by decide +kernel
theorem dX1_letterAt_18 : decode cX1_letterAt 18 = .ok (.aload_n 0, 1) := by decide +kernel
theorem dX1_letterAt_19 : decode cX1_letterAt 19 = .ok (.getfield 9, 3) := by decide +kernel
theorem dX1_letterAt_22 : decode cX1_letterAt 22 = .ok (.iload_n 1, 1) := by decide +kernel
theorem dX1_letterAt_23 : decode cX1_letterAt 23 = .ok (.iaload, 1) := by decide +kernel
theorem dX1_letterAt_24 : decode cX1_letterAt 24 = .ok (.goto 4, 3) := by decide +kernel
theorem dX1_letterAt_27 : decode cX1_letterAt 27 = .ok (.iconst (-1), 1) := by decide +kernel
theorem dX1_letterAt_28 : decode cX1_letterAt 28 = .ok (.ireturn, 1) := by decide +kernel
theorem dX1_copyFrom_0 : decode cX1_copyFrom 0 = .ok (.aload_n 1, 1) := by decide +kernel
theorem dX1_copyFrom_1 : decode cX1_copyFrom 1 = .ok (.getfield 9, 3) := by decide +kernel
theorem dX1_copyFrom_4 : decode cX1_copyFrom 4 = .ok (.iconst 0, 1) := by decide +kernel
theorem dX1_copyFrom_5 : decode cX1_copyFrom 5 = .ok (.aload_n 0, 1) := by decide +kernel
theorem dX1_copyFrom_6 : decode cX1_copyFrom 6 = .ok (.getfield 9, 3) := by decide +kernel
theorem dX1_copyFrom_9 : decode cX1_copyFrom 9 = .ok (.iconst 0, 1) := by decide +kernel
theorem dX1_copyFrom_10 : decode cX1_copyFrom 10 = .ok (.bipush 48, 2) := by decide +kernel
theorem dX1_copyFrom_12 : decode cX1_copyFrom 12 = .ok (.invokestatic 19, 3) := by decide +kernel
theorem dX1_copyFrom_15 : decode cX1_copyFrom 15 = .ok (.aload_n 0, 1) := by decide +kernel
theorem dX1_copyFrom_16 : decode cX1_copyFrom 16 = .ok (.aload_n 1, 1) := by decide +kernel
theorem dX1_copyFrom_17 : decode cX1_copyFrom 17 = .ok (.getfield 15, 3) := by decide +kernel
theorem dX1_copyFrom_20 : decode cX1_copyFrom 20 = .ok (.putfield 15, 3) := by decide +kernel
theorem dX1_copyFrom_23 : decode cX1_copyFrom 23 = .ok (.return_, 1) := by decide +kernel
theorem dX1_follow_0 : decode cX1_follow 0 = .ok (.iload_n 1, 1) := by decide +kernel
theorem dX1_follow_1 : decode cX1_follow 1 = .ok (.istore_n 3, 1) := by decide +kernel
theorem dX1_follow_2 : decode cX1_follow 2 = .ok (.iconst 0, 1) := by decide +kernel
theorem dX1_follow_3 : decode cX1_follow 3 = .ok (.istore 4, 2) := by decide +kernel
theorem dX1_follow_5 : decode cX1_follow 5 = .ok (.iload 4, 2) := by decide +kernel
theorem dX1_follow_7 : decode cX1_follow 7 = .ok (.aload_n 0, 1) := by decide +kernel
theorem dX1_follow_8 : decode cX1_follow 8 = .ok (.getfield 15, 3) := by decide +kernel
theorem dX1_follow_11 : decode cX1_follow 11 = .ok (.if_icmp .ge 75, 3) := by decide +kernel
theorem dX1_follow_14 : decode cX1_follow 14 = .ok (.iload 4, 2) := by decide +kernel
theorem dX1_follow_16 : decode cX1_follow 16 = .ok (.bipush 48, 2) := by decide +kernel
theorem dX1_follow_18 : decode cX1_follow 18 = .ok (.if_icmp .ge 68, 3) := by decide +kernel
theorem dX1_follow_21 : decode cX1_follow 21 = .ok (.aload_n 0, 1) := by decide +kernel
theorem dX1_follow_22 : decode cX1_follow 22 = .ok (.getfield 9, 3) := by decide +kernel
theorem dX1_follow_25 : decode cX1_follow 25 = .ok (.iload 4, 2) := by decide +kernel
theorem dX1_follow_27 : decode cX1_follow 27 = .ok (.iaload, 1) := by decide +kernel
theorem dX1_follow_28 : decode cX1_follow 28 = .ok (.iconst 1, 1) := by decide +kernel
theorem dX1_follow_29 : decode cX1_follow 29 = .ok (.ishr, 1) := by decide +kernel
theorem dX1_follow_30 : decode cX1_follow 30 = .ok (.istore 5, 2) := by decide +kernel
theorem dX1_follow_32 : decode cX1_follow 32 = .ok (.iload 5, 2) := by decide +kernel
theorem dX1_follow_34 : decode cX1_follow 34 = .ok (.iconst 1, 1) := by decide +kernel
theorem dX1_follow_35 : decode cX1_follow 35 = .ok (.iadd, 1) := by decide +kernel
theorem dX1_follow_36 : decode cX1_follow 36 = .ok (.iload_n 2, 1) := by decide +kernel
theorem dX1_follow_37 : decode cX1_follow 37 = .ok (.if_icmp .ne 7, 3) := by decide +kernel
theorem dX1_follow_40 : decode cX1_follow 40 = .ok (.iconst 0, 1) := by decide +kernel
theorem dX1_follow_41 : decode cX1_follow 41 = .ok (.goto 7, 3) := by decide +kernel
theorem dX1_follow_44 : decode cX1_follow 44 = .ok (.iload 5, 2) := by decide +kernel
theorem dX1_follow_46 : decode cX1_follow 46 = .ok (.iconst 1, 1) := by decide +kernel
theorem dX1_follow_47 : decode cX1_follow 47 = .ok (.iadd, 1) := by decide +kernel
theorem dX1_follow_48 : decode cX1_follow 48 = .ok (.istore 6, 2) := by decide +kernel
theorem dX1_follow_50 : decode cX1_follow 50 = .ok (.iload 5, 2) := by decide +kernel
theorem dX1_follow_52 : decode cX1_follow 52 = .ok (.iload_n 2, 1) := by decide +kernel
theorem dX1_follow_53 : decode cX1_follow 53 = .ok (.if_icmp .ge 27, 3) := by decide +kernel
theorem dX1_follow_56 : decode cX1_follow 56 = .ok (.iload_n 3, 1) := by decide +kernel
theorem dX1_follow_57 : decode cX1_follow 57 = .ok (.iload 5, 2) := by decide +kernel
theorem dX1_follow_59 : decode cX1_follow 59 = .ok (.if_icmp .ne 8, 3) := by decide +kernel
theorem dX1_follow_62 : decode cX1_follow 62 = .ok (.iload 6, 2) := by decide +kernel
theorem dX1_follow_64 : decode cX1_follow 64 = .ok (.goto 15, 3) := by decide +kernel
theorem dX1_follow_67 : decode cX1_follow 67 = .ok (.iload_n 3, 1) := by decide +kernel
theorem dX1_follow_68 : decode cX1_follow 68 = .ok (.iload 6, 2) := by decide +kernel
theorem dX1_follow_70 : decode cX1_follow 70 = .ok (.if_icmp .ne 8, 3) := by decide +kernel
theorem dX1_follow_73 : decode cX1_follow 73 = .ok (.iload 5, 2) := by decide +kernel
theorem dX1_follow_75 : decode cX1_follow 75 = .ok (.goto 4, 3) := by decide +kernel
theorem dX1_follow_78 : decode cX1_follow 78 = .ok (.iload_n 3, 1) := by decide +kernel
theorem dX1_follow_79 : decode cX1_follow 79 = .ok (.istore_n 3, 1) := by decide +kernel
theorem dX1_follow_80 : decode cX1_follow 80 = .ok (.iinc 4 1, 3) := by decide +kernel
theorem dX1_follow_83 : decode cX1_follow 83 = .ok (.goto (-78), 3) := by decide +kernel
theorem dX1_follow_86 : decode cX1_follow 86 = .ok (.iload_n 3, 1) := by decide +kernel
theorem dX1_follow_87 : decode cX1_follow 87 = .ok (.ireturn, 1) := by decide +kernel
theorem dX2_init_0 : decode cX2_init 0 = .ok (.aload_n 0, 1) := by decide +kernel
theorem dX2_init_1 : decode cX2_init 1 = .ok (.aload_n 1, 1) := by decide +kernel
theorem dX2_init_2 : decode cX2_init 2 = .ok (.invokespecial 3, 3) := by decide +kernel
theorem dX2_init_5 : decode cX2_init 5 = .ok (.aload_n 0, 1) := by decide +kernel
theorem dX2_init_6 : decode cX2_init 6 = .ok (.new 9, 3) := by decide +kernel
theorem dX2_init_9 : decode cX2_init 9 = .ok (.dup, 1) := by decide +kernel
theorem dX2_init_10 : decode cX2_init 10 = .ok (.invokespecial 11, 3) := by decide +kernel
theorem dX2_init_13 : decode cX2_init 13 = .ok (.putfield 14, 3) := by decide +kernel
theorem dX2_init_16 : decode cX2_init 16 = .ok (.return_, 1) := by decide +kernel
theorem dX2_readAll_0 : decode cX2_readAll 0 = .ok (.aload_n 0, 1) := by decide +kernel
theorem dX2_readAll_1 : decode cX2_readAll 1 = .ok (.iconst 0, 1) := by decide +kernel
theorem dX2_readAll_2 : decode cX2_readAll 2 = .ok (.putfield 20, 3) := by decide +kernel
theorem dX2_readAll_5 : decode cX2_readAll 5 = .ok (.aload_n 0, 1) := by decide +kernel
theorem dX2_readAll_6 : decode cX2_readAll 6 = .ok (.getfield 14, 3) := by decide +kernel
theorem dX2_readAll_9 : decode cX2_readAll 9 = .ok (.iconst 0, 1) := by decide +kernel
theorem dX2_readAll_10 : decode cX2_readAll 10 = .ok (.putfield 24, 3) := by decide +kernel
theorem dX2_readAll_13 : decode cX2_readAll 13 = .ok (.aload_n 0, 1) := by decide +kernel
theorem dX2_readAll_14 : decode cX2_readAll 14 = .ok (.iconst 0, 1) := by decide +kernel
theorem dX2_readAll_15 : decode cX2_readAll 15 = .ok (.invokevirtual 27, 3) := by decide +kernel
theorem dX2_readAll_18 : decode cX2_readAll 18 = .ok (.ifCond .eq 27, 3) := by decide +kernel
theorem dX2_readAll_21 : decode cX2_readAll 21 = .ok (.aload_n 0, 1) := by decide +kernel
theorem dX2_readAll_22 : decode cX2_readAll 22 = .ok (.invokevirtual 31, 3) := by decide +kernel
theorem dX2_readAll_25 : decode cX2_readAll 25 = .ok (.iconst (-1), 1) := by decide +kernel
theorem dX2_readAll_26 : decode cX2_readAll 26 = .ok (.if_icmp .ne 19, 3) := by decide +kernel
theorem dX2_readAll_29 : decode cX2_readAll 29 = .ok (.aload_n 0, 1) := by decide +kernel
theorem dX2_readAll_30 : decode cX2_readAll 30 = .ok (.getfield 14, 3) := by decide +kernel
theorem dX2_readAll_33 : decode cX2_readAll 33 = .ok (.getfield 24, 3) := by decide +kernel
theorem dX2_readAll_36 : decode cX2_readAll 36 = .ok (.bipush 48, 2) := by decide +kernel
theorem dX2_readAll_38 : decode cX2_readAll 38 = .ok (.if_icmp .gt 7, 3) := by decide +kernel
theorem dX2_readAll_41 : decode cX2_readAll 41 = .ok (.iconst 1, 1) := by decide +kernel
theorem dX2_readAll_42 : decode cX2_readAll 42 = .ok (.goto 4, 3) := by decide +kernel
theorem dX2_readAll_45 : decode cX2_readAll 45 = .ok (.iconst 0, 1) := by decide +kernel
theorem dX2_readAll_46 : decode cX2_readAll 46 = .ok (.ireturn, 1) := by decide +kernel
theorem dX2_readRow_0 : decode cX2_readRow 0 = .ok (.iconst 0, 1) := by decide +kernel
theorem dX2_readRow_1 : decode cX2_readRow 1 = .ok (.istore_n 2, 1) := by decide +kernel
theorem dX2_readRow_2 : decode cX2_readRow 2 = .ok (.iload_n 2, 1) := by decide +kernel
theorem dX2_readRow_3 : decode cX2_readRow 3 = .ok (.sipush 240, 3) := by decide +kernel
theorem dX2_readRow_6 : decode cX2_readRow 6 = .ok (.if_icmp .ge 30, 3) := by decide +kernel
theorem dX2_readRow_9 : decode cX2_readRow 9 = .ok (.aload_n 0, 1) := by decide +kernel
theorem dX2_readRow_10 : decode cX2_readRow 10 = .ok (.iload_n 1, 1) := by decide +kernel
theorem dX2_readRow_11 : decode cX2_readRow 11 = .ok (.invokevirtual 35, 3) := by decide +kernel
theorem dX2_readRow_14 : decode cX2_readRow 14 = .ok (.ifCond .ne 5, 3) := by decide +kernel
theorem dX2_readRow_17 : decode cX2_readRow 17 = .ok (.iconst 0, 1) := by decide +kernel
theorem dX2_readRow_18 : decode cX2_readRow 18 = .ok (.ireturn, 1) := by decide +kernel
theorem dX2_readRow_19 : decode cX2_readRow 19 = .ok (.aload_n 0, 1) := by decide +kernel
theorem dX2_readRow_20 : decode cX2_readRow 20 = .ok (.bipush 59, 2) := by decide +kernel
theorem dX2_readRow_22 : decode cX2_readRow 22 = .ok (.invokevirtual 38, 3) := by decide +kernel
theorem dX2_readRow_25 : decode cX2_readRow 25 = .ok (.ifCond .ne 5, 3) := by decide +kernel
theorem dX2_readRow_28 : decode cX2_readRow 28 = .ok (.iconst 1, 1) := by decide +kernel
theorem dX2_readRow_29 : decode cX2_readRow 29 = .ok (.ireturn, 1) := by decide +kernel
theorem dX2_readRow_30 : decode cX2_readRow 30 = .ok (.iinc 2 1, 3) := by decide +kernel
theorem dX2_readRow_33 : decode cX2_readRow 33 = .ok (.goto (-31), 3) := by decide +kernel
theorem dX2_readRow_36 : decode cX2_readRow 36 = .ok (.iconst 0, 1) := by decide +kernel
theorem dX2_readRow_37 : decode cX2_readRow 37 = .ok (.ireturn, 1) := by decide +kernel
theorem dX2_readStep_0 : decode cX2_readStep 0 = .ok (.aload_n 0, 1) := by decide +kernel
theorem dX2_readStep_1 : decode cX2_readStep 1 = .ok (.invokevirtual 31, 3) := by decide +kernel
theorem dX2_readStep_4 : decode cX2_readStep 4 = .ok (.istore_n 2, 1) := by decide +kernel
theorem dX2_readStep_5 : decode cX2_readStep 5 = .ok (.iload_n 2, 1) := by decide +kernel
theorem dX2_readStep_6 : decode cX2_readStep 6 = .ok (.bipush 119, 2) := by decide +kernel
theorem dX2_readStep_8 : decode cX2_readStep 8 = .ok (.if_icmp .ne 24, 3) := by decide +kernel
theorem dX2_readStep_11 : decode cX2_readStep 11 = .ok (.aload_n 0, 1) := by decide +kernel
theorem dX2_readStep_12 : decode cX2_readStep 12 = .ok (.dup, 1) := by decide +kernel
theorem dX2_readStep_13 : decode cX2_readStep 13 = .ok (.getfield 20, 3) := by decide +kernel
theorem dX2_readStep_16 : decode cX2_readStep 16 = .ok (.iconst 1, 1) := by decide +kernel
theorem dX2_readStep_17 : decode cX2_readStep 17 = .ok (.iadd, 1) := by decide +kernel
theorem dX2_readStep_18 : decode cX2_readStep 18 = .ok (.putfield 20, 3) := by decide +kernel
theorem dX2_readStep_21 : decode cX2_readStep 21 = .ok (.aload_n 0, 1) := by decide +kernel
theorem dX2_readStep_22 : decode cX2_readStep 22 = .ok (.getfield 14, 3) := by decide +kernel
theorem dX2_readStep_25 : decode cX2_readStep 25 = .ok (.bipush 20, 2) := by decide +kernel
theorem dX2_readStep_27 : decode cX2_readStep 27 = .ok (.invokevirtual 41, 3) := by decide +kernel
theorem dX2_readStep_30 : decode cX2_readStep 30 = .ok (.iconst 1, 1) := by decide +kernel
theorem dX2_readStep_31 : decode cX2_readStep 31 = .ok (.ireturn, 1) := by decide +kernel
theorem dX2_readStep_32 : decode cX2_readStep 32 = .ok (.iload_n 2, 1) := by decide +kernel
theorem dX2_readStep_33 : decode cX2_readStep 33 = .ok (.bipush 111, 2) := by decide +kernel
theorem dX2_readStep_35 : decode cX2_readStep 35 = .ok (.if_icmp .eq 9, 3) := by decide +kernel
theorem dX2_readStep_38 : decode cX2_readStep 38 = .ok (.iload_n 2, 1) := by decide +kernel
theorem dX2_readStep_39 : decode cX2_readStep 39 = .ok (.bipush 117, 2) := by decide +kernel
theorem dX2_readStep_41 : decode cX2_readStep 41 = .ok (.if_icmp .ne 29, 3) := by decide +kernel
theorem dX2_readStep_44 : decode cX2_readStep 44 = .ok (.aload_n 0, 1) := by decide +kernel
theorem dX2_readStep_45 : decode cX2_readStep 45 = .ok (.dup, 1) := by decide +kernel
theorem dX2_readStep_46 : decode cX2_readStep 46 = .ok (.getfield 20, 3) := by decide +kernel
theorem dX2_readStep_49 : decode cX2_readStep 49 = .ok (.iconst 1, 1) := by decide +kernel
theorem dX2_readStep_50 : decode cX2_readStep 50 = .ok (.iadd, 1) := by decide +kernel
theorem dX2_readStep_51 : decode cX2_readStep 51 = .ok (.putfield 20, 3) := by decide +kernel
theorem dX2_readStep_54 : decode cX2_readStep 54 = .ok (.aload_n 0, 1) := by decide +kernel
theorem dX2_readStep_55 : decode cX2_readStep 55 = .ok (.iload_n 2, 1) := by decide +kernel
theorem dX2_readStep_56 : decode cX2_readStep 56 = .ok (.bipush 111, 2) := by decide +kernel
theorem dX2_readStep_58 : decode cX2_readStep 58 = .ok (.if_icmp .ne 7, 3) := by decide +kernel
theorem dX2_readStep_61 : decode cX2_readStep 61 = .ok (.iconst 1, 1) := by decide +kernel
theorem dX2_readStep_62 : decode cX2_readStep 62 = .ok (.goto 4, 3) := by decide +kernel
theorem dX2_readStep_65 : decode cX2_readStep 65 = .ok (.iconst 0, 1) := by decide +kernel
theorem dX2_readStep_66 : decode cX2_readStep 66 = .ok (.invokevirtual 45, 3) := by decide +kernel
theorem dX2_readStep_69 : decode cX2_readStep 69 = .ok (.ireturn, 1) := by decide +kernel
theorem dX2_readStep_70 : decode cX2_readStep 70 = .ok (.iload_n 2, 1) := by decide +kernel
theorem dX2_readStep_71 : decode cX2_readStep 71 = .ok (.bipush 50, 2) := by decide +kernel
theorem dX2_readStep_73 : decode cX2_readStep 73 = .ok (.if_icmp .lt 29, 3) := by decide +kernel
theorem dX2_readStep_76 : decode cX2_readStep 76 = .ok (.iload_n 2, 1) := by decide +kernel
theorem dX2_readStep_77 : decode cX2_readStep 77 = .ok (.bipush 57, 2) := by decide +kernel
theorem dX2_readStep_79 : decode cX2_readStep 79 = .ok (.if_icmp .gt 23, 3) := by decide +kernel
theorem dX2_readStep_82 : decode cX2_readStep 82 = .ok (.aload_n 0, 1) := by decide +kernel
theorem dX2_readStep_83 : decode cX2_readStep 83 = .ok (.dup, 1) := by decide +kernel
theorem dX2_readStep_84 : decode cX2_readStep 84 = .ok (.getfield 20, 3) := by decide +kernel
theorem dX2_readStep_87 : decode cX2_readStep 87 = .ok (.iconst 1, 1) := by decide +kernel
theorem dX2_readStep_88 : decode cX2_readStep 88 = .ok (.iadd, 1) := by decide +kernel
theorem dX2_readStep_89 : decode cX2_readStep 89 = .ok (.putfield 20, 3) := by decide +kernel
theorem dX2_readStep_92 : decode cX2_readStep 92 = .ok (.aload_n 0, 1) := by decide +kernel
theorem dX2_readStep_93 : decode cX2_readStep 93 = .ok (.iload_n 2, 1) := by decide +kernel
theorem dX2_readStep_94 : decode cX2_readStep 94 = .ok (.bipush 48, 2) := by decide +kernel
theorem dX2_readStep_96 : decode cX2_readStep 96 = .ok (.isub, 1) := by decide +kernel
theorem dX2_readStep_97 : decode cX2_readStep 97 = .ok (.iload_n 1, 1) := by decide +kernel
theorem dX2_readStep_98 : decode cX2_readStep 98 = .ok (.invokevirtual 49, 3) := by decide +kernel
theorem dX2_readStep_101 : decode cX2_readStep 101 = .ok (.ireturn, 1) := by decide +kernel
theorem dX2_readStep_102 : decode cX2_readStep 102 = .ok (.iconst 0, 1) := by decide +kernel
theorem dX2_readStep_103 : decode cX2_readStep 103 = .ok (.ireturn, 1) := by decide +kernel
theorem dX2_readPlace_0 : decode cX2_readPlace 0 = .ok (.aload_n 0, 1) := by decide +kernel
theorem dX2_readPlace_1 : decode cX2_readPlace 1 = .ok (.invokevirtual 31, 3) := by decide +kernel
theorem dX2_readPlace_4 : decode cX2_readPlace 4 = .ok (.istore_n 2, 1) := by decide +kernel
theorem dX2_readPlace_5 : decode cX2_readPlace 5 = .ok (.iload_n 2, 1) := by decide +kernel
theorem dX2_readPlace_6 : decode cX2_readPlace 6 = .ok (.invokestatic 53, 3) := by decide +kernel
theorem dX2_readPlace_9 : decode cX2_readPlace 9 = .ok (.ifCond .ne 5, 3) := by decide +kernel
theorem dX2_readPlace_12 : decode cX2_readPlace 12 = .ok (.iconst 0, 1) := by decide +kernel
theorem dX2_readPlace_13 : decode cX2_readPlace 13 = .ok (.ireturn, 1) := by decide +kernel
theorem dX2_readPlace_14 : decode cX2_readPlace 14 = .ok (.aload_n 0, 1) := by decide +kernel
theorem dX2_readPlace_15 : decode cX2_readPlace 15 = .ok (.dup, 1) := by decide +kernel
theorem dX2_readPlace_16 : decode cX2_readPlace 16 = .ok (.getfield 20, 3) := by decide +kernel
theorem dX2_readPlace_19 : decode cX2_readPlace 19 = .ok (.iconst 1, 1) := by decide +kernel
theorem dX2_readPlace_20 : decode cX2_readPlace 20 = .ok (.iadd, 1) := by decide +kernel
theorem dX2_readPlace_21 : decode cX2_readPlace 21 = .ok (.putfield 20, 3) := by decide +kernel
theorem dX2_readPlace_24 : decode cX2_readPlace 24 = .ok (.aload_n 0, 1) := by decide +kernel
theorem dX2_readPlace_25 : decode cX2_readPlace 25 = .ok (.getfield 14, 3) := by decide +kernel
theorem dX2_readPlace_28 : decode cX2_readPlace 28 = .ok (.iload_n 2, 1) := by decide +kernel
theorem dX2_readPlace_29 : decode cX2_readPlace 29 = .ok (.bipush 48, 2) := by decide +kernel
theorem dX2_readPlace_31 : decode cX2_readPlace 31 = .ok (.isub, 1) := by decide +kernel
theorem dX2_readPlace_32 : decode cX2_readPlace 32 = .ok (.iload_n 1, 1) := by decide +kernel
theorem dX2_readPlace_33 : decode cX2_readPlace 33 = .ok (.invokestatic 56, 3) := by decide +kernel
theorem dX2_readPlace_36 : decode cX2_readPlace 36 = .ok (.invokevirtual 41, 3) := by decide +kernel
theorem dX2_readPlace_39 : decode cX2_readPlace 39 = .ok (.iconst 1, 1) := by decide +kernel
theorem dX2_readPlace_40 : decode cX2_readPlace 40 = .ok (.ireturn, 1) := by decide +kernel
theorem dX2_readRepeated_0 : decode cX2_readRepeated 0 = .ok (.aload_n 0, 1) := by decide +kernel
theorem dX2_readRepeated_1 : decode cX2_readRepeated 1 = .ok (.invokevirtual 31, 3) := by decide +kernel
theorem dX2_readRepeated_4 : decode cX2_readRepeated 4 = .ok (.bipush 40, 2) := by decide +kernel
theorem dX2_readRepeated_6 : decode cX2_readRepeated 6 = .ok (.if_icmp .ne 8, 3) := by decide +kernel
theorem dX2_readRepeated_9 : decode cX2_readRepeated 9 = .ok (.iload_n 2, 1) := by decide +kernel
theorem dX2_readRepeated_10 : decode cX2_readRepeated 10 = .ok (.iconst 3, 1) := by decide +kernel
theorem dX2_readRepeated_11 : decode cX2_readRepeated 11 = .ok (.if_icmp .lt 5, 3) := by decide +kernel
theorem dX2_readRepeated_14 : decode cX2_readRepeated 14 = .ok (.iconst 0, 1) := by decide +kernel
theorem dX2_readRepeated_15 : decode cX2_readRepeated 15 = .ok (.ireturn, 1) := by decide +kernel
theorem dX2_readRepeated_16 : decode cX2_readRepeated 16 = .ok (.aload_n 0, 1) := by decide +kernel
theorem dX2_readRepeated_17 : decode cX2_readRepeated 17 = .ok (.dup, 1) := by decide +kernel
theorem dX2_readRepeated_18 : decode cX2_readRepeated 18 = .ok (.getfield 20, 3) := by decide +kernel
theorem dX2_readRepeated_21 : decode cX2_readRepeated 21 = .ok (.iconst 1, 1) := by decide +kernel
theorem dX2_readRepeated_22 : decode cX2_readRepeated 22 = .ok (.iadd, 1) := by decide +kernel
theorem dX2_readRepeated_23 : decode cX2_readRepeated 23 = .ok (.putfield 20, 3) := by decide +kernel
theorem dX2_readRepeated_26 : decode cX2_readRepeated 26 = .ok (.aload_n 0, 1) := by decide +kernel
theorem dX2_readRepeated_27 : decode cX2_readRepeated 27 = .ok (.getfield 14, 3) := by decide +kernel
theorem dX2_readRepeated_30 : decode cX2_readRepeated 30 = .ok (.getfield 24, 3) := by decide +kernel
theorem dX2_readRepeated_33 : decode cX2_readRepeated 33 = .ok (.istore_n 3, 1) := by decide +kernel
theorem dX2_readRepeated_34 : decode cX2_readRepeated 34 = .ok (.aload_n 0, 1) := by decide +kernel
theorem dX2_readRepeated_35 : decode cX2_readRepeated 35 = .ok (.iload_n 2, 1) := by decide +kernel
theorem dX2_readRepeated_36 : decode cX2_readRepeated 36 = .ok (.iconst 1, 1) := by decide +kernel
theorem dX2_readRepeated_37 : decode cX2_readRepeated 37 = .ok (.iadd, 1) := by decide +kernel
theorem dX2_readRepeated_38 : decode cX2_readRepeated 38 = .ok (.invokevirtual 27, 3) := by decide +kernel
theorem dX2_readRepeated_41 : decode cX2_readRepeated 41 = .ok (.ifCond .eq 12, 3) := by decide +kernel
theorem dX2_readRepeated_44 : decode cX2_readRepeated 44 = .ok (.aload_n 0, 1) := by decide +kernel
theorem dX2_readRepeated_45 : decode cX2_readRepeated 45 = .ok (.bipush 41, 2) := by decide +kernel
theorem dX2_readRepeated_47 : decode cX2_readRepeated 47 = .ok (.invokevirtual 38, 3) := by decide +kernel
theorem dX2_readRepeated_50 : decode cX2_readRepeated 50 = .ok (.ifCond .ne 5, 3) := by decide +kernel
theorem dX2_readRepeated_53 : decode cX2_readRepeated 53 = .ok (.iconst 0, 1) := by decide +kernel
theorem dX2_readRepeated_54 : decode cX2_readRepeated 54 = .ok (.ireturn, 1) := by decide +kernel
theorem dX2_readRepeated_55 : decode cX2_readRepeated 55 = .ok (.aload_n 0, 1) := by decide +kernel
theorem dX2_readRepeated_56 : decode cX2_readRepeated 56 = .ok (.getfield 14, 3) := by decide +kernel
theorem dX2_readRepeated_59 : decode cX2_readRepeated 59 = .ok (.iload_n 3, 1) := by decide +kernel
theorem dX2_readRepeated_60 : decode cX2_readRepeated 60 = .ok (.iload_n 1, 1) := by decide +kernel
theorem dX2_readRepeated_61 : decode cX2_readRepeated 61 = .ok (.invokevirtual 60, 3) := by decide +kernel
theorem dX2_readRepeated_64 : decode cX2_readRepeated 64 = .ok (.iconst 1, 1) := by decide +kernel
theorem dX2_readRepeated_65 : decode cX2_readRepeated 65 = .ok (.ireturn, 1) := by decide +kernel
theorem dX3_init_0 : decode cX3_init 0 = .ok (.aload_n 0, 1) := by decide +kernel
theorem dX3_init_1 : decode cX3_init 1 = .ok (.invokespecial 3, 3) := by decide +kernel
theorem dX3_init_4 : decode cX3_init 4 = .ok (.aload_n 0, 1) := by decide +kernel
theorem dX3_init_5 : decode cX3_init 5 = .ok (.iconst 3, 1) := by decide +kernel
theorem dX3_init_6 : decode cX3_init 6 = .ok (.newarray .int, 2) := by decide +kernel
theorem dX3_init_8 : decode cX3_init 8 = .ok (.putfield 9, 3) := by decide +kernel
theorem dX3_init_11 : decode cX3_init 11 = .ok (.aload_n 0, 1) := by decide +kernel
theorem dX3_init_12 : decode cX3_init 12 = .ok (.bipush 24, 2) := by decide +kernel
theorem dX3_init_14 : decode cX3_init 14 = .ok (.newarray .int, 2) := by decide +kernel
theorem dX3_init_16 : decode cX3_init 16 = .ok (.putfield 15, 3) := by decide +kernel
theorem dX3_init_19 : decode cX3_init 19 = .ok (.return_, 1) := by decide +kernel
theorem dX3_clear_0 : decode cX3_clear 0 = .ok (.aload_n 0, 1) := by decide +kernel
theorem dX3_clear_1 : decode cX3_clear 1 = .ok (.iconst 0, 1) := by decide +kernel
theorem dX3_clear_2 : decode cX3_clear 2 = .ok (.putfield 18, 3) := by decide +kernel
theorem dX3_clear_5 : decode cX3_clear 5 = .ok (.iconst 0, 1) := by decide +kernel
theorem dX3_clear_6 : decode cX3_clear 6 = .ok (.istore_n 1, 1) := by decide +kernel
theorem dX3_clear_7 : decode cX3_clear 7 = .ok (.iload_n 1, 1) := by decide +kernel
theorem dX3_clear_8 : decode cX3_clear 8 = .ok (.iconst 3, 1) := by decide +kernel
theorem dX3_clear_9 : decode cX3_clear 9 = .ok (.if_icmp .ge 20, 3) := by decide +kernel
theorem dX3_clear_12 : decode cX3_clear 12 = .ok (.aload_n 0, 1) := by decide +kernel
theorem dX3_clear_13 : decode cX3_clear 13 = .ok (.getfield 9, 3) := by decide +kernel
theorem dX3_clear_16 : decode cX3_clear 16 = .ok (.iload_n 1, 1) := by decide +kernel
theorem dX3_clear_17 : decode cX3_clear 17 = .ok (.getstatic 22, 3) := by decide +kernel
theorem dX3_clear_20 : decode cX3_clear 20 = .ok (.iload_n 1, 1) := by decide +kernel
theorem dX3_clear_21 : decode cX3_clear 21 = .ok (.iaload, 1) := by decide +kernel
theorem dX3_clear_22 : decode cX3_clear 22 = .ok (.iastore, 1) := by decide +kernel
theorem dX3_clear_23 : decode cX3_clear 23 = .ok (.iinc 1 1, 3) := by decide +kernel
theorem dX3_clear_26 : decode cX3_clear 26 = .ok (.goto (-19), 3) := by decide +kernel
theorem dX3_clear_29 : decode cX3_clear 29 = .ok (.return_, 1) := by decide +kernel
theorem dX3_addDancer_0 : decode cX3_addDancer 0 = .ok (.aload_n 0, 1) := by decide +kernel
theorem dX3_addDancer_1 : decode cX3_addDancer 1 = .ok (.getfield 18, 3) := by decide +kernel
theorem dX3_addDancer_4 : decode cX3_addDancer 4 = .ok (.iconst 3, 1) := by decide +kernel
theorem dX3_addDancer_5 : decode cX3_addDancer 5 = .ok (.imul, 1) := by decide +kernel
theorem dX3_addDancer_6 : decode cX3_addDancer 6 = .ok (.istore_n 1, 1) := by decide +kernel
theorem dX3_addDancer_7 : decode cX3_addDancer 7 = .ok (.iconst 0, 1) := by decide +kernel
theorem dX3_addDancer_8 : decode cX3_addDancer 8 = .ok (.istore_n 2, 1) := by decide +kernel
theorem dX3_addDancer_9 : decode cX3_addDancer 9 = .ok (.iload_n 2, 1) := by decide +kernel
theorem dX3_addDancer_10 : decode cX3_addDancer 10 = .ok (.iconst 3, 1) := by decide +kernel
theorem dX3_addDancer_11 : decode cX3_addDancer 11 = .ok (.if_icmp .ge 33, 3) := by decide +kernel
theorem dX3_addDancer_14 : decode cX3_addDancer 14 = .ok (.iload_n 1, 1) := by decide +kernel
theorem dX3_addDancer_15 : decode cX3_addDancer 15 = .ok (.iload_n 2, 1) := by decide +kernel
theorem dX3_addDancer_16 : decode cX3_addDancer 16 = .ok (.iadd, 1) := by decide +kernel
theorem dX3_addDancer_17 : decode cX3_addDancer 17 = .ok (.aload_n 0, 1) := by decide +kernel
theorem dX3_addDancer_18 : decode cX3_addDancer 18 = .ok (.getfield 15, 3) := by decide +kernel
theorem dX3_addDancer_21 : decode cX3_addDancer 21 = .ok (.arraylength, 1) := by decide +kernel
theorem dX3_addDancer_22 : decode cX3_addDancer 22 = .ok (.if_icmp .ge 22, 3) := by decide +kernel
theorem dX3_addDancer_25 : decode cX3_addDancer 25 = .ok (.aload_n 0, 1) := by decide +kernel
theorem dX3_addDancer_26 : decode cX3_addDancer 26 = .ok (.getfield 15, 3) := by decide +kernel
theorem dX3_addDancer_29 : decode cX3_addDancer 29 = .ok (.iload_n 1, 1) := by decide +kernel
theorem dX3_addDancer_30 : decode cX3_addDancer 30 = .ok (.iload_n 2, 1) := by decide +kernel
theorem dX3_addDancer_31 : decode cX3_addDancer 31 = .ok (.iadd, 1) := by decide +kernel
theorem dX3_addDancer_32 : decode cX3_addDancer 32 = .ok (.getstatic 25, 3) := by decide +kernel
theorem dX3_addDancer_35 : decode cX3_addDancer 35 = .ok (.iload_n 2, 1) := by decide +kernel
theorem dX3_addDancer_36 : decode cX3_addDancer 36 = .ok (.iaload, 1) := by decide +kernel
theorem dX3_addDancer_37 : decode cX3_addDancer 37 = .ok (.iastore, 1) := by decide +kernel
theorem dX3_addDancer_38 : decode cX3_addDancer 38 = .ok (.iinc 2 1, 3) := by decide +kernel
theorem dX3_addDancer_41 : decode cX3_addDancer 41 = .ok (.goto (-32), 3) := by decide +kernel
theorem dX3_addDancer_44 : decode cX3_addDancer 44 = .ok (.aload_n 0, 1) := by decide +kernel
theorem dX3_addDancer_45 : decode cX3_addDancer 45 = .ok (.dup, 1) := by decide +kernel
theorem dX3_addDancer_46 : decode cX3_addDancer 46 = .ok (.getfield 18, 3) := by decide +kernel
theorem dX3_addDancer_49 : decode cX3_addDancer 49 = .ok (.iconst 1, 1) := by decide +kernel
theorem dX3_addDancer_50 : decode cX3_addDancer 50 = .ok (.iadd, 1) := by decide +kernel
theorem dX3_addDancer_51 : decode cX3_addDancer 51 = .ok (.putfield 18, 3) := by decide +kernel
theorem dX3_addDancer_54 : decode cX3_addDancer 54 = .ok (.iload_n 1, 1) := by decide +kernel
theorem dX3_addDancer_55 : decode cX3_addDancer 55 = .ok (.ireturn, 1) := by decide +kernel
theorem dX3_trait_0 : decode cX3_trait 0 = .ok (.iload_n 1, 1) := by decide +kernel
theorem dX3_trait_1 : decode cX3_trait 1 = .ok (.iconst 3, 1) := by decide +kernel
theorem dX3_trait_2 : decode cX3_trait 2 = .ok (.imul, 1) := by decide +kernel
theorem dX3_trait_3 : decode cX3_trait 3 = .ok (.iload_n 2, 1) := by decide +kernel
theorem dX3_trait_4 : decode cX3_trait 4 = .ok (.iadd, 1) := by decide +kernel
theorem dX3_trait_5 : decode cX3_trait 5 = .ok (.istore_n 3, 1) := by decide +kernel
theorem dX3_trait_6 : decode cX3_trait 6 = .ok (.iload_n 3, 1) := by decide +kernel
theorem dX3_trait_7 : decode cX3_trait 7 = .ok (.ifCond .lt 21, 3) := by decide +kernel
theorem dX3_trait_10 : decode cX3_trait 10 = .ok (.iload_n 3, 1) := by decide +kernel
theorem dX3_trait_11 : decode cX3_trait 11 = .ok (.aload_n 0, 1) := by decide +kernel
theorem dX3_trait_12 : decode cX3_trait 12 = .ok (.getfield 15, 3) := by decide +kernel
theorem dX3_trait_15 : decode cX3_trait 15 = .ok (.arraylength, 1) := by decide +kernel
theorem dX3_trait_16 : decode cX3_trait 16 = .ok (.if_icmp .ge 12, 3) := by decide +kernel
theorem dX3_trait_19 : decode cX3_trait 19 = .ok (.aload_n 0, 1) := by decide +kernel
theorem dX3_trait_20 : decode cX3_trait 20 = .ok (.getfield 15, 3) := by decide +kernel
theorem dX3_trait_23 : decode cX3_trait 23 = .ok (.iload_n 3, 1) := by decide +kernel
theorem dX3_trait_24 : decode cX3_trait 24 = .ok (.iaload, 1) := by decide +kernel
theorem dX3_trait_25 : decode cX3_trait 25 = .ok (.goto 4, 3) := by decide +kernel
theorem dX3_trait_28 : decode cX3_trait 28 = .ok (.iconst 0, 1) := by decide +kernel
theorem dX3_trait_29 : decode cX3_trait 29 = .ok (.ireturn, 1) := by decide +kernel
theorem dX3_tight_0 : decode cX3_tight 0 = .ok (.aload_n 0, 1) := by decide +kernel
theorem dX3_tight_1 : decode cX3_tight 1 = .ok (.getfield 9, 3) := by decide +kernel
theorem dX3_tight_4 : decode cX3_tight 4 = .ok (.iconst 0, 1) := by decide +kernel
theorem dX3_tight_5 : decode cX3_tight 5 = .ok (.iaload, 1) := by decide +kernel
theorem dX3_tight_6 : decode cX3_tight 6 = .ok (.ireturn, 1) := by decide +kernel
theorem dX3_coinsAtFirst_0 : decode cX3_coinsAtFirst 0 = .ok (.aload_n 0, 1) := by decide +kernel
theorem dX3_coinsAtFirst_1 : decode cX3_coinsAtFirst 1 = .ok (.getfield 9, 3) := by decide +kernel
theorem dX3_coinsAtFirst_4 : decode cX3_coinsAtFirst 4 = .ok (.iconst 1, 1) := by decide +kernel
theorem dX3_coinsAtFirst_5 : decode cX3_coinsAtFirst 5 = .ok (.iaload, 1) := by decide +kernel
theorem dX3_coinsAtFirst_6 : decode cX3_coinsAtFirst 6 = .ok (.ireturn, 1) := by decide +kernel
theorem dX3_wind_0 : decode cX3_wind 0 = .ok (.aload_n 0, 1) := by decide +kernel
theorem dX3_wind_1 : decode cX3_wind 1 = .ok (.getfield 9, 3) := by decide +kernel
theorem dX3_wind_4 : decode cX3_wind 4 = .ok (.iconst 2, 1) := by decide +kernel
theorem dX3_wind_5 : decode cX3_wind 5 = .ok (.iaload, 1) := by decide +kernel
theorem dX3_wind_6 : decode cX3_wind 6 = .ok (.ireturn, 1) := by decide +kernel
theorem dX3_copyFrom_0 : decode cX3_copyFrom 0 = .ok (.aload_n 1, 1) := by decide +kernel
theorem dX3_copyFrom_1 : decode cX3_copyFrom 1 = .ok (.getfield 9, 3) := by decide +kernel
theorem dX3_copyFrom_4 : decode cX3_copyFrom 4 = .ok (.iconst 0, 1) := by decide +kernel
theorem dX3_copyFrom_5 : decode cX3_copyFrom 5 = .ok (.aload_n 0, 1) := by decide +kernel
theorem dX3_copyFrom_6 : decode cX3_copyFrom 6 = .ok (.getfield 9, 3) := by decide +kernel
theorem dX3_copyFrom_9 : decode cX3_copyFrom 9 = .ok (.iconst 0, 1) := by decide +kernel
theorem dX3_copyFrom_10 : decode cX3_copyFrom 10 = .ok (.iconst 3, 1) := by decide +kernel
theorem dX3_copyFrom_11 : decode cX3_copyFrom 11 = .ok (.invokestatic 28, 3) := by decide +kernel
theorem dX3_copyFrom_14 : decode cX3_copyFrom 14 = .ok (.aload_n 1, 1) := by decide +kernel
theorem dX3_copyFrom_15 : decode cX3_copyFrom 15 = .ok (.getfield 15, 3) := by decide +kernel
theorem dX3_copyFrom_18 : decode cX3_copyFrom 18 = .ok (.iconst 0, 1) := by decide +kernel
theorem dX3_copyFrom_19 : decode cX3_copyFrom 19 = .ok (.aload_n 0, 1) := by decide +kernel
theorem dX3_copyFrom_20 : decode cX3_copyFrom 20 = .ok (.getfield 15, 3) := by decide +kernel
theorem dX3_copyFrom_23 : decode cX3_copyFrom 23 = .ok (.iconst 0, 1) := by decide +kernel
theorem dX3_copyFrom_24 : decode cX3_copyFrom 24 = .ok (.bipush 24, 2) := by decide +kernel
theorem dX3_copyFrom_26 : decode cX3_copyFrom 26 = .ok (.invokestatic 28, 3) := by decide +kernel
theorem dX3_copyFrom_29 : decode cX3_copyFrom 29 = .ok (.aload_n 0, 1) := by decide +kernel
theorem dX3_copyFrom_30 : decode cX3_copyFrom 30 = .ok (.aload_n 1, 1) := by decide +kernel
theorem dX3_copyFrom_31 : decode cX3_copyFrom 31 = .ok (.getfield 18, 3) := by decide +kernel
theorem dX3_copyFrom_34 : decode cX3_copyFrom 34 = .ok (.putfield 18, 3) := by decide +kernel
theorem dX3_copyFrom_37 : decode cX3_copyFrom 37 = .ok (.return_, 1) := by decide +kernel
theorem dX4_init_0 : decode cX4_init 0 = .ok (.aload_n 0, 1) := by decide +kernel
theorem dX4_init_1 : decode cX4_init 1 = .ok (.aload_n 1, 1) := by decide +kernel
theorem dX4_init_2 : decode cX4_init 2 = .ok (.invokespecial 3, 3) := by decide +kernel
theorem dX4_init_5 : decode cX4_init 5 = .ok (.aload_n 0, 1) := by decide +kernel
theorem dX4_init_6 : decode cX4_init 6 = .ok (.new 9, 3) := by decide +kernel
theorem dX4_init_9 : decode cX4_init 9 = .ok (.dup, 1) := by decide +kernel
theorem dX4_init_10 : decode cX4_init 10 = .ok (.invokespecial 11, 3) := by decide +kernel
theorem dX4_init_13 : decode cX4_init 13 = .ok (.putfield 14, 3) := by decide +kernel
theorem dX4_init_16 : decode cX4_init 16 = .ok (.return_, 1) := by decide +kernel
theorem dX4_readAll_0 : decode cX4_readAll 0 = .ok (.aload_n 0, 1) := by decide +kernel
theorem dX4_readAll_1 : decode cX4_readAll 1 = .ok (.iconst 0, 1) := by decide +kernel
theorem dX4_readAll_2 : decode cX4_readAll 2 = .ok (.putfield 20, 3) := by decide +kernel
theorem dX4_readAll_5 : decode cX4_readAll 5 = .ok (.aload_n 0, 1) := by decide +kernel
theorem dX4_readAll_6 : decode cX4_readAll 6 = .ok (.getfield 14, 3) := by decide +kernel
theorem dX4_readAll_9 : decode cX4_readAll 9 = .ok (.invokevirtual 24, 3) := by decide +kernel
theorem dX4_readAll_12 : decode cX4_readAll 12 = .ok (.aload_n 0, 1) := by decide +kernel
theorem dX4_readAll_13 : decode cX4_readAll 13 = .ok (.iconst 0, 1) := by decide +kernel
theorem dX4_readAll_14 : decode cX4_readAll 14 = .ok (.putfield 27, 3) := by decide +kernel
theorem dX4_readAll_17 : decode cX4_readAll 17 = .ok (.iconst 0, 1) := by decide +kernel
theorem dX4_readAll_18 : decode cX4_readAll 18 = .ok (.istore_n 1, 1) := by decide +kernel
theorem dX4_readAll_19 : decode cX4_readAll 19 = .ok (.iload_n 1, 1) := by decide +kernel
theorem dX4_readAll_20 : decode cX4_readAll 20 = .ok (.sipush 240, 3) := by decide +kernel
theorem dX4_readAll_23 : decode cX4_readAll 23 = .ok (.if_icmp .ge 54, 3) := by decide +kernel
theorem dX4_readAll_26 : decode cX4_readAll 26 = .ok (.aload_n 0, 1) := by decide +kernel
theorem dX4_readAll_27 : decode cX4_readAll 27 = .ok (.invokevirtual 31, 3) := by decide +kernel
theorem dX4_readAll_30 : decode cX4_readAll 30 = .ok (.ifCond .ne 5, 3) := by decide +kernel
theorem dX4_readAll_33 : decode cX4_readAll 33 = .ok (.iconst 0, 1) := by decide +kernel
theorem dX4_readAll_34 : decode cX4_readAll 34 = .ok (.ireturn, 1) := by decide +kernel
theorem dX4_readAll_35 : decode cX4_readAll 35 = .ok (.aload_n 0, 1) := by decide +kernel
theorem dX4_readAll_36 : decode cX4_readAll 36 = .ok (.invokevirtual 35, 3) := by decide +kernel
theorem dX4_readAll_39 : decode cX4_readAll 39 = .ok (.iconst (-1), 1) := by decide +kernel
theorem dX4_readAll_40 : decode cX4_readAll 40 = .ok (.if_icmp .ne 20, 3) := by decide +kernel
theorem dX4_readAll_43 : decode cX4_readAll 43 = .ok (.aload_n 0, 1) := by decide +kernel
theorem dX4_readAll_44 : decode cX4_readAll 44 = .ok (.getfield 14, 3) := by decide +kernel
theorem dX4_readAll_47 : decode cX4_readAll 47 = .ok (.getfield 39, 3) := by decide +kernel
theorem dX4_readAll_50 : decode cX4_readAll 50 = .ok (.iconst 3, 1) := by decide +kernel
theorem dX4_readAll_51 : decode cX4_readAll 51 = .ok (.if_icmp .lt 7, 3) := by decide +kernel
theorem dX4_readAll_54 : decode cX4_readAll 54 = .ok (.iconst 1, 1) := by decide +kernel
theorem dX4_readAll_55 : decode cX4_readAll 55 = .ok (.goto 4, 3) := by decide +kernel
theorem dX4_readAll_58 : decode cX4_readAll 58 = .ok (.iconst 0, 1) := by decide +kernel
theorem dX4_readAll_59 : decode cX4_readAll 59 = .ok (.ireturn, 1) := by decide +kernel
theorem dX4_readAll_60 : decode cX4_readAll 60 = .ok (.aload_n 0, 1) := by decide +kernel
theorem dX4_readAll_61 : decode cX4_readAll 61 = .ok (.bipush 59, 2) := by decide +kernel
theorem dX4_readAll_63 : decode cX4_readAll 63 = .ok (.invokevirtual 42, 3) := by decide +kernel
theorem dX4_readAll_66 : decode cX4_readAll 66 = .ok (.ifCond .ne 5, 3) := by decide +kernel
theorem dX4_readAll_69 : decode cX4_readAll 69 = .ok (.iconst 0, 1) := by decide +kernel
theorem dX4_readAll_70 : decode cX4_readAll 70 = .ok (.ireturn, 1) := by decide +kernel
theorem dX4_readAll_71 : decode cX4_readAll 71 = .ok (.iinc 1 1, 3) := by decide +kernel
theorem dX4_readAll_74 : decode cX4_readAll 74 = .ok (.goto (-55), 3) := by decide +kernel
theorem dX4_readAll_77 : decode cX4_readAll 77 = .ok (.iconst 0, 1) := by decide +kernel
theorem dX4_readAll_78 : decode cX4_readAll 78 = .ok (.ireturn, 1) := by decide +kernel
theorem dX4_readClause_0 : decode cX4_readClause 0 = .ok (.aload_n 0, 1) := by decide +kernel
theorem dX4_readClause_1 : decode cX4_readClause 1 = .ok (.invokevirtual 35, 3) := by decide +kernel
theorem dX4_readClause_4 : decode cX4_readClause 4 = .ok (.istore_n 1, 1) := by decide +kernel
theorem dX4_readClause_5 : decode cX4_readClause 5 = .ok (.iload_n 1, 1) := by decide +kernel
theorem dX4_readClause_6 : decode cX4_readClause 6 = .ok (.bipush 115, 2) := by decide +kernel
theorem dX4_readClause_8 : decode cX4_readClause 8 = .ok (.if_icmp .ne 46, 3) := by decide +kernel
theorem dX4_readClause_11 : decode cX4_readClause 11 = .ok (.aload_n 0, 1) := by decide +kernel
theorem dX4_readClause_12 : decode cX4_readClause 12 = .ok (.getfield 27, 3) := by decide +kernel
theorem dX4_readClause_15 : decode cX4_readClause 15 = .ok (.ifCond .ne 39, 3) := by decide +kernel
theorem dX4_readClause_18 : decode cX4_readClause 18 = .ok (.aload_n 0, 1) := by decide +kernel
theorem dX4_readClause_19 : decode cX4_readClause 19 = .ok (.iconst 1, 1) := by decide +kernel
theorem dX4_readClause_20 : decode cX4_readClause 20 = .ok (.putfield 27, 3) := by decide +kernel
theorem dX4_readClause_23 : decode cX4_readClause 23 = .ok (.aload_n 0, 1) := by decide +kernel
theorem dX4_readClause_24 : decode cX4_readClause 24 = .ok (.dup, 1) := by decide +kernel
theorem dX4_readClause_25 : decode cX4_readClause 25 = .ok (.getfield 20, 3) := by decide +kernel
theorem dX4_readClause_28 : decode cX4_readClause 28 = .ok (.iconst 1, 1) := by decide +kernel
theorem dX4_readClause_29 : decode cX4_readClause 29 = .ok (.iadd, 1) := by decide +kernel
theorem dX4_readClause_30 : decode cX4_readClause 30 = .ok (.putfield 20, 3) := by decide +kernel
theorem dX4_readClause_33 : decode cX4_readClause 33 = .ok (.aload_n 0, 1) := by decide +kernel
theorem dX4_readClause_34 : decode cX4_readClause 34 = .ok (.ldc 46, 2) := by decide +kernel
theorem dX4_readClause_36 : decode cX4_readClause 36 = .ok (.getstatic 48, 3) := by decide +kernel
theorem dX4_readClause_39 : decode cX4_readClause 39 = .ok (.getstatic 52, 3) := by decide +kernel
theorem dX4_readClause_42 : decode cX4_readClause 42 = .ok (.aload_n 0, 1) := by decide +kernel
theorem dX4_readClause_43 : decode cX4_readClause 43 = .ok (.getfield 14, 3) := by decide +kernel
theorem dX4_readClause_46 : decode cX4_readClause 46 = .ok (.getfield 55, 3) := by decide +kernel
theorem dX4_readClause_49 : decode cX4_readClause 49 = .ok (.iconst 0, 1) := by decide +kernel
theorem dX4_readClause_50 : decode cX4_readClause 50 = .ok (.invokevirtual 58, 3) := by decide +kernel
theorem dX4_readClause_53 : decode cX4_readClause 53 = .ok (.ireturn, 1) := by decide +kernel
theorem dX4_readClause_54 : decode cX4_readClause 54 = .ok (.iload_n 1, 1) := by decide +kernel
theorem dX4_readClause_55 : decode cX4_readClause 55 = .ok (.bipush 100, 2) := by decide +kernel
theorem dX4_readClause_57 : decode cX4_readClause 57 = .ok (.if_icmp .ne 54, 3) := by decide +kernel
theorem dX4_readClause_60 : decode cX4_readClause 60 = .ok (.aload_n 0, 1) := by decide +kernel
theorem dX4_readClause_61 : decode cX4_readClause 61 = .ok (.getfield 14, 3) := by decide +kernel
theorem dX4_readClause_64 : decode cX4_readClause 64 = .ok (.getfield 39, 3) := by decide +kernel
theorem dX4_readClause_67 : decode cX4_readClause 67 = .ok (.bipush 7, 2) := by decide +kernel
theorem dX4_readClause_69 : decode cX4_readClause 69 = .ok (.if_icmp .ge 42, 3) := by decide +kernel
theorem dX4_readClause_72 : decode cX4_readClause 72 = .ok (.aload_n 0, 1) := by decide +kernel
theorem dX4_readClause_73 : decode cX4_readClause 73 = .ok (.getfield 14, 3) := by decide +kernel
theorem dX4_readClause_76 : decode cX4_readClause 76 = .ok (.invokevirtual 62, 3) := by decide +kernel
theorem dX4_readClause_79 : decode cX4_readClause 79 = .ok (.istore_n 2, 1) := by decide +kernel
theorem dX4_readClause_80 : decode cX4_readClause 80 = .ok (.aload_n 0, 1) := by decide +kernel
theorem dX4_readClause_81 : decode cX4_readClause 81 = .ok (.dup, 1) := by decide +kernel
theorem dX4_readClause_82 : decode cX4_readClause 82 = .ok (.getfield 20, 3) := by decide +kernel
theorem dX4_readClause_85 : decode cX4_readClause 85 = .ok (.iconst 1, 1) := by decide +kernel
theorem dX4_readClause_86 : decode cX4_readClause 86 = .ok (.iadd, 1) := by decide +kernel
theorem dX4_readClause_87 : decode cX4_readClause 87 = .ok (.putfield 20, 3) := by decide +kernel
theorem dX4_readClause_90 : decode cX4_readClause 90 = .ok (.aload_n 0, 1) := by decide +kernel
theorem dX4_readClause_91 : decode cX4_readClause 91 = .ok (.ldc 65, 2) := by decide +kernel
theorem dX4_readClause_93 : decode cX4_readClause 93 = .ok (.getstatic 67, 3) := by decide +kernel
theorem dX4_readClause_96 : decode cX4_readClause 96 = .ok (.getstatic 70, 3) := by decide +kernel
theorem dX4_readClause_99 : decode cX4_readClause 99 = .ok (.aload_n 0, 1) := by decide +kernel
theorem dX4_readClause_100 : decode cX4_readClause 100 = .ok (.getfield 14, 3) := by decide +kernel
theorem dX4_readClause_103 : decode cX4_readClause 103 = .ok (.getfield 73, 3) := by decide +kernel
theorem dX4_readClause_106 : decode cX4_readClause 106 = .ok (.iload_n 2, 1) := by decide +kernel
theorem dX4_readClause_107 : decode cX4_readClause 107 = .ok (.invokevirtual 58, 3) := by decide +kernel
theorem dX4_readClause_110 : decode cX4_readClause 110 = .ok (.ireturn, 1) := by decide +kernel
theorem dX4_readClause_111 : decode cX4_readClause 111 = .ok (.iconst 0, 1) := by decide +kernel
theorem dX4_readClause_112 : decode cX4_readClause 112 = .ok (.ireturn, 1) := by decide +kernel
theorem dX4_readItems_0 : decode cX4_readItems 0 = .ok (.iconst 0, 1) := by decide +kernel
theorem dX4_readItems_1 : decode cX4_readItems 1 = .ok (.istore 6, 2) := by decide +kernel
theorem dX4_readItems_3 : decode cX4_readItems 3 = .ok (.iconst 0, 1) := by decide +kernel
theorem dX4_readItems_4 : decode cX4_readItems 4 = .ok (.istore 7, 2) := by decide +kernel
theorem dX4_readItems_6 : decode cX4_readItems 6 = .ok (.iload 7, 2) := by decide +kernel
theorem dX4_readItems_8 : decode cX4_readItems 8 = .ok (.iconst 3, 1) := by decide +kernel
theorem dX4_readItems_9 : decode cX4_readItems 9 = .ok (.if_icmp .gt 128, 3) := by decide +kernel
theorem dX4_readItems_12 : decode cX4_readItems 12 = .ok (.aload_n 0, 1) := by decide +kernel
theorem dX4_readItems_13 : decode cX4_readItems 13 = .ok (.invokevirtual 35, 3) := by decide +kernel
theorem dX4_readItems_16 : decode cX4_readItems 16 = .ok (.istore 8, 2) := by decide +kernel
theorem dX4_readItems_18 : decode cX4_readItems 18 = .ok (.iload 8, 2) := by decide +kernel
theorem dX4_readItems_20 : decode cX4_readItems 20 = .ok (.iconst (-1), 1) := by decide +kernel
theorem dX4_readItems_21 : decode cX4_readItems 21 = .ok (.if_icmp .eq 10, 3) := by decide +kernel
theorem dX4_readItems_24 : decode cX4_readItems 24 = .ok (.iload 8, 2) := by decide +kernel
theorem dX4_readItems_26 : decode cX4_readItems 26 = .ok (.bipush 59, 2) := by decide +kernel
theorem dX4_readItems_28 : decode cX4_readItems 28 = .ok (.if_icmp .ne 5, 3) := by decide +kernel
theorem dX4_readItems_31 : decode cX4_readItems 31 = .ok (.iconst 1, 1) := by decide +kernel
theorem dX4_readItems_32 : decode cX4_readItems 32 = .ok (.ireturn, 1) := by decide +kernel
theorem dX4_readItems_33 : decode cX4_readItems 33 = .ok (.aload_n 1, 1) := by decide +kernel
theorem dX4_readItems_34 : decode cX4_readItems 34 = .ok (.iload 8, 2) := by decide +kernel
theorem dX4_readItems_36 : decode cX4_readItems 36 = .ok (.i2c, 1) := by decide +kernel
theorem dX4_readItems_37 : decode cX4_readItems 37 = .ok (.invokevirtual 76, 3) := by decide +kernel
theorem dX4_readItems_40 : decode cX4_readItems 40 = .ok (.istore 9, 2) := by decide +kernel
theorem dX4_readItems_42 : decode cX4_readItems 42 = .ok (.iload 9, 2) := by decide +kernel
theorem dX4_readItems_44 : decode cX4_readItems 44 = .ok (.ifCond .lt 19, 3) := by decide +kernel
theorem dX4_readItems_47 : decode cX4_readItems 47 = .ok (.iload 9, 2) := by decide +kernel
theorem dX4_readItems_49 : decode cX4_readItems 49 = .ok (.iconst 3, 1) := by decide +kernel
theorem dX4_readItems_50 : decode cX4_readItems 50 = .ok (.if_icmp .ge 13, 3) := by decide +kernel
theorem dX4_readItems_53 : decode cX4_readItems 53 = .ok (.iload 6, 2) := by decide +kernel
theorem dX4_readItems_55 : decode cX4_readItems 55 = .ok (.iload 9, 2) := by decide +kernel
theorem dX4_readItems_57 : decode cX4_readItems 57 = .ok (.ishr, 1) := by decide +kernel
theorem dX4_readItems_58 : decode cX4_readItems 58 = .ok (.iconst 1, 1) := by decide +kernel
theorem dX4_readItems_59 : decode cX4_readItems 59 = .ok (.iand, 1) := by decide +kernel
theorem dX4_readItems_60 : decode cX4_readItems 60 = .ok (.ifCond .eq 5, 3) := by decide +kernel
theorem dX4_readItems_63 : decode cX4_readItems 63 = .ok (.iconst 0, 1) := by decide +kernel
theorem dX4_readItems_64 : decode cX4_readItems 64 = .ok (.ireturn, 1) := by decide +kernel
theorem dX4_readItems_65 : decode cX4_readItems 65 = .ok (.iload 6, 2) := by decide +kernel
theorem dX4_readItems_67 : decode cX4_readItems 67 = .ok (.iconst 1, 1) := by decide +kernel
theorem dX4_readItems_68 : decode cX4_readItems 68 = .ok (.iload 9, 2) := by decide +kernel
theorem dX4_readItems_70 : decode cX4_readItems 70 = .ok (.ishl, 1) := by decide +kernel
theorem dX4_readItems_71 : decode cX4_readItems 71 = .ok (.ior, 1) := by decide +kernel
theorem dX4_readItems_72 : decode cX4_readItems 72 = .ok (.istore 6, 2) := by decide +kernel
theorem dX4_readItems_74 : decode cX4_readItems 74 = .ok (.aload_n 0, 1) := by decide +kernel
theorem dX4_readItems_75 : decode cX4_readItems 75 = .ok (.dup, 1) := by decide +kernel
theorem dX4_readItems_76 : decode cX4_readItems 76 = .ok (.getfield 20, 3) := by decide +kernel
theorem dX4_readItems_79 : decode cX4_readItems 79 = .ok (.iconst 1, 1) := by decide +kernel
theorem dX4_readItems_80 : decode cX4_readItems 80 = .ok (.iadd, 1) := by decide +kernel
theorem dX4_readItems_81 : decode cX4_readItems 81 = .ok (.putfield 20, 3) := by decide +kernel
theorem dX4_readItems_84 : decode cX4_readItems 84 = .ok (.aload_n 0, 1) := by decide +kernel
theorem dX4_readItems_85 : decode cX4_readItems 85 = .ok (.aload_n 2, 1) := by decide +kernel
theorem dX4_readItems_86 : decode cX4_readItems 86 = .ok (.iload 9, 2) := by decide +kernel
theorem dX4_readItems_88 : decode cX4_readItems 88 = .ok (.iaload, 1) := by decide +kernel
theorem dX4_readItems_89 : decode cX4_readItems 89 = .ok (.aload_n 3, 1) := by decide +kernel
theorem dX4_readItems_90 : decode cX4_readItems 90 = .ok (.iload 9, 2) := by decide +kernel
theorem dX4_readItems_92 : decode cX4_readItems 92 = .ok (.iaload, 1) := by decide +kernel
theorem dX4_readItems_93 : decode cX4_readItems 93 = .ok (.invokevirtual 82, 3) := by decide +kernel
theorem dX4_readItems_96 : decode cX4_readItems 96 = .ok (.istore 10, 2) := by decide +kernel
theorem dX4_readItems_98 : decode cX4_readItems 98 = .ok (.iload 10, 2) := by decide +kernel
theorem dX4_readItems_100 : decode cX4_readItems 100 = .ok (.ifCond .lt 19, 3) := by decide +kernel
theorem dX4_readItems_103 : decode cX4_readItems 103 = .ok (.iload 5, 2) := by decide +kernel
theorem dX4_readItems_105 : decode cX4_readItems 105 = .ok (.ifCond .lt 14, 3) := by decide +kernel
theorem dX4_readItems_108 : decode cX4_readItems 108 = .ok (.iload 5, 2) := by decide +kernel
theorem dX4_readItems_110 : decode cX4_readItems 110 = .ok (.iload 9, 2) := by decide +kernel
theorem dX4_readItems_112 : decode cX4_readItems 112 = .ok (.iadd, 1) := by decide +kernel
theorem dX4_readItems_113 : decode cX4_readItems 113 = .ok (.aload 4, 2) := by decide +kernel
theorem dX4_readItems_115 : decode cX4_readItems 115 = .ok (.arraylength, 1) := by decide +kernel
theorem dX4_readItems_116 : decode cX4_readItems 116 = .ok (.if_icmp .lt 5, 3) := by decide +kernel
theorem dX4_readItems_119 : decode cX4_readItems 119 = .ok (.iconst 0, 1) := by decide +kernel
theorem dX4_readItems_120 : decode cX4_readItems 120 = .ok (.ireturn, 1) := by decide +kernel
theorem dX4_readItems_121 : decode cX4_readItems 121 = .ok (.aload 4, 2) := by decide +kernel
theorem dX4_readItems_123 : decode cX4_readItems 123 = .ok (.iload 5, 2) := by decide +kernel
theorem dX4_readItems_125 : decode cX4_readItems 125 = .ok (.iload 9, 2) := by decide +kernel
theorem dX4_readItems_127 : decode cX4_readItems 127 = .ok (.iadd, 1) := by decide +kernel
theorem dX4_readItems_128 : decode cX4_readItems 128 = .ok (.iload 10, 2) := by decide +kernel
theorem dX4_readItems_130 : decode cX4_readItems 130 = .ok (.iastore, 1) := by decide +kernel
theorem dX4_readItems_131 : decode cX4_readItems 131 = .ok (.iinc 7 1, 3) := by decide +kernel
theorem dX4_readItems_134 : decode cX4_readItems 134 = .ok (.goto (-128), 3) := by decide +kernel
theorem dX4_readItems_137 : decode cX4_readItems 137 = .ok (.iconst 0, 1) := by decide +kernel
theorem dX4_readItems_138 : decode cX4_readItems 138 = .ok (.ireturn, 1) := by decide +kernel
theorem dX4_readWithin_0 : decode cX4_readWithin 0 = .ok (.aload_n 0, 1) := by decide +kernel
theorem dX4_readWithin_1 : decode cX4_readWithin 1 = .ok (.iconst 2, 1) := by decide +kernel
theorem dX4_readWithin_2 : decode cX4_readWithin 2 = .ok (.invokevirtual 86, 3) := by decide +kernel
theorem dX4_readWithin_5 : decode cX4_readWithin 5 = .ok (.istore_n 3, 1) := by decide +kernel
theorem dX4_readWithin_6 : decode cX4_readWithin 6 = .ok (.iload_n 3, 1) := by decide +kernel
theorem dX4_readWithin_7 : decode cX4_readWithin 7 = .ok (.iconst (-1), 1) := by decide +kernel
theorem dX4_readWithin_8 : decode cX4_readWithin 8 = .ok (.if_icmp .eq 13, 3) := by decide +kernel
theorem dX4_readWithin_11 : decode cX4_readWithin 11 = .ok (.iload_n 3, 1) := by decide +kernel
theorem dX4_readWithin_12 : decode cX4_readWithin 12 = .ok (.iload_n 1, 1) := by decide +kernel
theorem dX4_readWithin_13 : decode cX4_readWithin 13 = .ok (.if_icmp .lt 10, 3) := by decide +kernel
theorem dX4_readWithin_16 : decode cX4_readWithin 16 = .ok (.iload_n 3, 1) := by decide +kernel
theorem dX4_readWithin_17 : decode cX4_readWithin 17 = .ok (.iload_n 2, 1) := by decide +kernel
theorem dX4_readWithin_18 : decode cX4_readWithin 18 = .ok (.if_icmp .gt 5, 3) := by decide +kernel
theorem dX4_readWithin_21 : decode cX4_readWithin 21 = .ok (.iload_n 3, 1) := by decide +kernel
theorem dX4_readWithin_22 : decode cX4_readWithin 22 = .ok (.ireturn, 1) := by decide +kernel
theorem dX4_readWithin_23 : decode cX4_readWithin 23 = .ok (.aload_n 0, 1) := by decide +kernel
theorem dX4_readWithin_24 : decode cX4_readWithin 24 = .ok (.dup, 1) := by decide +kernel
theorem dX4_readWithin_25 : decode cX4_readWithin 25 = .ok (.getfield 20, 3) := by decide +kernel
theorem dX4_readWithin_28 : decode cX4_readWithin 28 = .ok (.iconst 1, 1) := by decide +kernel
theorem dX4_readWithin_29 : decode cX4_readWithin 29 = .ok (.isub, 1) := by decide +kernel
theorem dX4_readWithin_30 : decode cX4_readWithin 30 = .ok (.putfield 20, 3) := by decide +kernel
theorem dX4_readWithin_33 : decode cX4_readWithin 33 = .ok (.iconst (-1), 1) := by decide +kernel
theorem dX4_readWithin_34 : decode cX4_readWithin 34 = .ok (.ireturn, 1) := by decide +kernel
theorem dX5_init_0 : decode cX5_init 0 = .ok (.aload_n 0, 1) := by decide +kernel
theorem dX5_init_1 : decode cX5_init 1 = .ok (.invokespecial 3, 3) := by decide +kernel
theorem dX5_init_4 : decode cX5_init 4 = .ok (.aload_n 0, 1) := by decide +kernel
theorem dX5_init_5 : decode cX5_init 5 = .ok (.sipush 240, 3) := by decide +kernel
theorem dX5_init_8 : decode cX5_init 8 = .ok (.newarray .int, 2) := by decide +kernel
theorem dX5_init_10 : decode cX5_init 10 = .ok (.putfield 9, 3) := by decide +kernel
theorem dX5_init_13 : decode cX5_init 13 = .ok (.aload_n 0, 1) := by decide +kernel
theorem dX5_init_14 : decode cX5_init 14 = .ok (.bipush 8, 2) := by decide +kernel
theorem dX5_init_16 : decode cX5_init 16 = .ok (.newarray .int, 2) := by decide +kernel
theorem dX5_init_18 : decode cX5_init 18 = .ok (.putfield 15, 3) := by decide +kernel
theorem dX5_init_21 : decode cX5_init 21 = .ok (.aload_n 0, 1) := by decide +kernel
theorem dX5_init_22 : decode cX5_init 22 = .ok (.bipush 64, 2) := by decide +kernel
theorem dX5_init_24 : decode cX5_init 24 = .ok (.newarray .int, 2) := by decide +kernel
theorem dX5_init_26 : decode cX5_init 26 = .ok (.putfield 18, 3) := by decide +kernel
theorem dX5_init_29 : decode cX5_init 29 = .ok (.return_, 1) := by decide +kernel
theorem dX5_add_0 : decode cX5_add 0 = .ok (.aload_n 0, 1) := by decide +kernel
theorem dX5_add_1 : decode cX5_add 1 = .ok (.getfield 21, 3) := by decide +kernel
theorem dX5_add_4 : decode cX5_add 4 = .ok (.sipush 240, 3) := by decide +kernel
theorem dX5_add_7 : decode cX5_add 7 = .ok (.if_icmp .ge 23, 3) := by decide +kernel
theorem dX5_add_10 : decode cX5_add 10 = .ok (.aload_n 0, 1) := by decide +kernel
theorem dX5_add_11 : decode cX5_add 11 = .ok (.getfield 9, 3) := by decide +kernel
theorem dX5_add_14 : decode cX5_add 14 = .ok (.aload_n 0, 1) := by decide +kernel
theorem dX5_add_15 : decode cX5_add 15 = .ok (.getfield 21, 3) := by decide +kernel
theorem dX5_add_18 : decode cX5_add 18 = .ok (.iload_n 1, 1) := by decide +kernel
theorem dX5_add_19 : decode cX5_add 19 = .ok (.iastore, 1) := by decide +kernel
theorem dX5_add_20 : decode cX5_add 20 = .ok (.aload_n 0, 1) := by decide +kernel
theorem dX5_add_21 : decode cX5_add 21 = .ok (.dup, 1) := by decide +kernel
theorem dX5_add_22 : decode cX5_add 22 = .ok (.getfield 21, 3) := by decide +kernel
theorem dX5_add_25 : decode cX5_add 25 = .ok (.iconst 1, 1) := by decide +kernel
theorem dX5_add_26 : decode cX5_add 26 = .ok (.iadd, 1) := by decide +kernel
theorem dX5_add_27 : decode cX5_add 27 = .ok (.putfield 21, 3) := by decide +kernel
theorem dX5_add_30 : decode cX5_add 30 = .ok (.return_, 1) := by decide +kernel
theorem dX5_copyFrom_0 : decode cX5_copyFrom 0 = .ok (.aload_n 1, 1) := by decide +kernel
theorem dX5_copyFrom_1 : decode cX5_copyFrom 1 = .ok (.getfield 9, 3) := by decide +kernel
theorem dX5_copyFrom_4 : decode cX5_copyFrom 4 = .ok (.iconst 0, 1) := by decide +kernel
theorem dX5_copyFrom_5 : decode cX5_copyFrom 5 = .ok (.aload_n 0, 1) := by decide +kernel
theorem dX5_copyFrom_6 : decode cX5_copyFrom 6 = .ok (.getfield 9, 3) := by decide +kernel
theorem dX5_copyFrom_9 : decode cX5_copyFrom 9 = .ok (.iconst 0, 1) := by decide +kernel
theorem dX5_copyFrom_10 : decode cX5_copyFrom 10 = .ok (.sipush 240, 3) := by decide +kernel
theorem dX5_copyFrom_13 : decode cX5_copyFrom 13 = .ok (.invokestatic 25, 3) := by decide +kernel
theorem dX5_copyFrom_16 : decode cX5_copyFrom 16 = .ok (.aload_n 0, 1) := by decide +kernel
theorem dX5_copyFrom_17 : decode cX5_copyFrom 17 = .ok (.aload_n 1, 1) := by decide +kernel
theorem dX5_copyFrom_18 : decode cX5_copyFrom 18 = .ok (.getfield 21, 3) := by decide +kernel
theorem dX5_copyFrom_21 : decode cX5_copyFrom 21 = .ok (.putfield 21, 3) := by decide +kernel
theorem dX5_copyFrom_24 : decode cX5_copyFrom 24 = .ok (.return_, 1) := by decide +kernel
theorem dX5_worth_0 : decode cX5_worth 0 = .ok (.aload_n 0, 1) := by decide +kernel
theorem dX5_worth_1 : decode cX5_worth 1 = .ok (.getfield 15, 3) := by decide +kernel
theorem dX5_worth_4 : decode cX5_worth 4 = .ok (.iconst 0, 1) := by decide +kernel
theorem dX5_worth_5 : decode cX5_worth 5 = .ok (.iload_n 1, 1) := by decide +kernel
theorem dX5_worth_6 : decode cX5_worth 6 = .ok (.iastore, 1) := by decide +kernel
theorem dX5_worth_7 : decode cX5_worth 7 = .ok (.aload_n 0, 1) := by decide +kernel
theorem dX5_worth_8 : decode cX5_worth 8 = .ok (.getfield 15, 3) := by decide +kernel
theorem dX5_worth_11 : decode cX5_worth 11 = .ok (.iconst 1, 1) := by decide +kernel
theorem dX5_worth_12 : decode cX5_worth 12 = .ok (.iload_n 2, 1) := by decide +kernel
theorem dX5_worth_13 : decode cX5_worth 13 = .ok (.iastore, 1) := by decide +kernel
theorem dX5_worth_14 : decode cX5_worth 14 = .ok (.aload_n 0, 1) := by decide +kernel
theorem dX5_worth_15 : decode cX5_worth 15 = .ok (.getfield 15, 3) := by decide +kernel
theorem dX5_worth_18 : decode cX5_worth 18 = .ok (.iconst 2, 1) := by decide +kernel
theorem dX5_worth_19 : decode cX5_worth 19 = .ok (.iload_n 3, 1) := by decide +kernel
theorem dX5_worth_20 : decode cX5_worth 20 = .ok (.iastore, 1) := by decide +kernel
theorem dX5_worth_21 : decode cX5_worth 21 = .ok (.aload_n 0, 1) := by decide +kernel
theorem dX5_worth_22 : decode cX5_worth 22 = .ok (.getfield 15, 3) := by decide +kernel
theorem dX5_worth_25 : decode cX5_worth 25 = .ok (.iconst 3, 1) := by decide +kernel
theorem dX5_worth_26 : decode cX5_worth 26 = .ok (.iload 4, 2) := by decide +kernel
theorem dX5_worth_28 : decode cX5_worth 28 = .ok (.iastore, 1) := by decide +kernel
theorem dX5_worth_29 : decode cX5_worth 29 = .ok (.aload_n 0, 1) := by decide +kernel
theorem dX5_worth_30 : decode cX5_worth 30 = .ok (.getfield 15, 3) := by decide +kernel
theorem dX5_worth_33 : decode cX5_worth 33 = .ok (.iconst 4, 1) := by decide +kernel
theorem dX5_worth_34 : decode cX5_worth 34 = .ok (.iload 5, 2) := by decide +kernel
theorem dX5_worth_36 : decode cX5_worth 36 = .ok (.iastore, 1) := by decide +kernel
theorem dX5_worth_37 : decode cX5_worth 37 = .ok (.aload_n 0, 1) := by decide +kernel
theorem dX5_worth_38 : decode cX5_worth 38 = .ok (.getfield 15, 3) := by decide +kernel
theorem dX5_worth_41 : decode cX5_worth 41 = .ok (.iconst 5, 1) := by decide +kernel
theorem dX5_worth_42 : decode cX5_worth 42 = .ok (.iload 6, 2) := by decide +kernel
theorem dX5_worth_44 : decode cX5_worth 44 = .ok (.iastore, 1) := by decide +kernel
theorem dX5_worth_45 : decode cX5_worth 45 = .ok (.aload_n 0, 1) := by decide +kernel
theorem dX5_worth_46 : decode cX5_worth 46 = .ok (.iconst 0, 1) := by decide +kernel
theorem dX5_worth_47 : decode cX5_worth 47 = .ok (.putfield 31, 3) := by decide +kernel
theorem dX5_worth_50 : decode cX5_worth 50 = .ok (.iconst 0, 1) := by decide +kernel
theorem dX5_worth_51 : decode cX5_worth 51 = .ok (.istore 7, 2) := by decide +kernel
theorem dX5_worth_53 : decode cX5_worth 53 = .ok (.iconst 0, 1) := by decide +kernel
theorem dX5_worth_54 : decode cX5_worth 54 = .ok (.istore 8, 2) := by decide +kernel
theorem dX5_worth_56 : decode cX5_worth 56 = .ok (.iload 8, 2) := by decide +kernel
theorem dX5_worth_58 : decode cX5_worth 58 = .ok (.aload_n 0, 1) := by decide +kernel
theorem dX5_worth_59 : decode cX5_worth 59 = .ok (.getfield 21, 3) := by decide +kernel
theorem dX5_worth_62 : decode cX5_worth 62 = .ok (.if_icmp .ge 82, 3) := by decide +kernel
theorem dX5_worth_65 : decode cX5_worth 65 = .ok (.aload_n 0, 1) := by decide +kernel
theorem dX5_worth_66 : decode cX5_worth 66 = .ok (.getfield 9, 3) := by decide +kernel
theorem dX5_worth_69 : decode cX5_worth 69 = .ok (.iload 8, 2) := by decide +kernel
theorem dX5_worth_71 : decode cX5_worth 71 = .ok (.iaload, 1) := by decide +kernel
theorem dX5_worth_72 : decode cX5_worth 72 = .ok (.istore 9, 2) := by decide +kernel
theorem dX5_worth_74 : decode cX5_worth 74 = .ok (.iload 7, 2) := by decide +kernel
theorem dX5_worth_76 : decode cX5_worth 76 = .ok (.ifCond .eq 20, 3) := by decide +kernel
theorem dX5_worth_79 : decode cX5_worth 79 = .ok (.iload 9, 2) := by decide +kernel
theorem dX5_worth_81 : decode cX5_worth 81 = .ok (.bipush (-22), 2) := by decide +kernel
theorem dX5_worth_83 : decode cX5_worth 83 = .ok (.if_icmp .eq 7, 3) := by decide +kernel
theorem dX5_worth_86 : decode cX5_worth 86 = .ok (.iconst 1, 1) := by decide +kernel
theorem dX5_worth_87 : decode cX5_worth 87 = .ok (.goto 4, 3) := by decide +kernel
theorem dX5_worth_90 : decode cX5_worth 90 = .ok (.iconst 0, 1) := by decide +kernel
theorem dX5_worth_91 : decode cX5_worth 91 = .ok (.istore 7, 2) := by decide +kernel
theorem dX5_worth_93 : decode cX5_worth 93 = .ok (.goto 45, 3) := by decide +kernel
theorem dX5_worth_96 : decode cX5_worth 96 = .ok (.iload 9, 2) := by decide +kernel
theorem dX5_worth_98 : decode cX5_worth 98 = .ok (.bipush (-22), 2) := by decide +kernel
theorem dX5_worth_100 : decode cX5_worth 100 = .ok (.if_icmp .ne 8, 3) := by decide +kernel
theorem dX5_worth_103 : decode cX5_worth 103 = .ok (.aload_n 0, 1) := by decide +kernel
theorem dX5_worth_104 : decode cX5_worth 104 = .ok (.invokevirtual 34, 3) := by decide +kernel
theorem dX5_worth_107 : decode cX5_worth 107 = .ok (.ireturn, 1) := by decide +kernel
theorem dX5_worth_108 : decode cX5_worth 108 = .ok (.iload 9, 2) := by decide +kernel
theorem dX5_worth_110 : decode cX5_worth 110 = .ok (.bipush (-21), 2) := by decide +kernel
theorem dX5_worth_112 : decode cX5_worth 112 = .ok (.if_icmp .ne 20, 3) := by decide +kernel
theorem dX5_worth_115 : decode cX5_worth 115 = .ok (.aload_n 0, 1) := by decide +kernel
theorem dX5_worth_116 : decode cX5_worth 116 = .ok (.invokevirtual 34, 3) := by decide +kernel
theorem dX5_worth_119 : decode cX5_worth 119 = .ok (.ifCond .ne 7, 3) := by decide +kernel
theorem dX5_worth_122 : decode cX5_worth 122 = .ok (.iconst 1, 1) := by decide +kernel
theorem dX5_worth_123 : decode cX5_worth 123 = .ok (.goto 4, 3) := by decide +kernel
theorem dX5_worth_126 : decode cX5_worth 126 = .ok (.iconst 0, 1) := by decide +kernel
theorem dX5_worth_127 : decode cX5_worth 127 = .ok (.istore 7, 2) := by decide +kernel
theorem dX5_worth_129 : decode cX5_worth 129 = .ok (.goto 9, 3) := by decide +kernel
theorem dX5_worth_132 : decode cX5_worth 132 = .ok (.aload_n 0, 1) := by decide +kernel
theorem dX5_worth_133 : decode cX5_worth 133 = .ok (.iload 9, 2) := by decide +kernel
theorem dX5_worth_135 : decode cX5_worth 135 = .ok (.invokevirtual 38, 3) := by decide +kernel
theorem dX5_worth_138 : decode cX5_worth 138 = .ok (.iinc 8 1, 3) := by decide +kernel
theorem dX5_worth_141 : decode cX5_worth 141 = .ok (.goto (-85), 3) := by decide +kernel
theorem dX5_worth_144 : decode cX5_worth 144 = .ok (.iconst 0, 1) := by decide +kernel
theorem dX5_worth_145 : decode cX5_worth 145 = .ok (.ireturn, 1) := by decide +kernel
theorem dX5_push_0 : decode cX5_push 0 = .ok (.aload_n 0, 1) := by decide +kernel
theorem dX5_push_1 : decode cX5_push 1 = .ok (.getfield 31, 3) := by decide +kernel
theorem dX5_push_4 : decode cX5_push 4 = .ok (.bipush 64, 2) := by decide +kernel
theorem dX5_push_6 : decode cX5_push 6 = .ok (.if_icmp .ge 23, 3) := by decide +kernel
theorem dX5_push_9 : decode cX5_push 9 = .ok (.aload_n 0, 1) := by decide +kernel
theorem dX5_push_10 : decode cX5_push 10 = .ok (.getfield 18, 3) := by decide +kernel
theorem dX5_push_13 : decode cX5_push 13 = .ok (.aload_n 0, 1) := by decide +kernel
theorem dX5_push_14 : decode cX5_push 14 = .ok (.getfield 31, 3) := by decide +kernel
theorem dX5_push_17 : decode cX5_push 17 = .ok (.iload_n 1, 1) := by decide +kernel
theorem dX5_push_18 : decode cX5_push 18 = .ok (.iastore, 1) := by decide +kernel
theorem dX5_push_19 : decode cX5_push 19 = .ok (.aload_n 0, 1) := by decide +kernel
theorem dX5_push_20 : decode cX5_push 20 = .ok (.dup, 1) := by decide +kernel
theorem dX5_push_21 : decode cX5_push 21 = .ok (.getfield 31, 3) := by decide +kernel
theorem dX5_push_24 : decode cX5_push 24 = .ok (.iconst 1, 1) := by decide +kernel
theorem dX5_push_25 : decode cX5_push 25 = .ok (.iadd, 1) := by decide +kernel
theorem dX5_push_26 : decode cX5_push 26 = .ok (.putfield 31, 3) := by decide +kernel
theorem dX5_push_29 : decode cX5_push 29 = .ok (.return_, 1) := by decide +kernel
theorem dX5_pop_0 : decode cX5_pop 0 = .ok (.aload_n 0, 1) := by decide +kernel
theorem dX5_pop_1 : decode cX5_pop 1 = .ok (.getfield 31, 3) := by decide +kernel
theorem dX5_pop_4 : decode cX5_pop 4 = .ok (.ifCond .gt 5, 3) := by decide +kernel
theorem dX5_pop_7 : decode cX5_pop 7 = .ok (.iconst 0, 1) := by decide +kernel
theorem dX5_pop_8 : decode cX5_pop 8 = .ok (.ireturn, 1) := by decide +kernel
theorem dX5_pop_9 : decode cX5_pop 9 = .ok (.aload_n 0, 1) := by decide +kernel
theorem dX5_pop_10 : decode cX5_pop 10 = .ok (.dup, 1) := by decide +kernel
theorem dX5_pop_11 : decode cX5_pop 11 = .ok (.getfield 31, 3) := by decide +kernel
theorem dX5_pop_14 : decode cX5_pop 14 = .ok (.iconst 1, 1) := by decide +kernel
theorem dX5_pop_15 : decode cX5_pop 15 = .ok (.isub, 1) := by decide +kernel
theorem dX5_pop_16 : decode cX5_pop 16 = .ok (.putfield 31, 3) := by decide +kernel
theorem dX5_pop_19 : decode cX5_pop 19 = .ok (.aload_n 0, 1) := by decide +kernel
theorem dX5_pop_20 : decode cX5_pop 20 = .ok (.getfield 18, 3) := by decide +kernel
theorem dX5_pop_23 : decode cX5_pop 23 = .ok (.aload_n 0, 1) := by decide +kernel
theorem dX5_pop_24 : decode cX5_pop 24 = .ok (.getfield 31, 3) := by decide +kernel
theorem dX5_pop_27 : decode cX5_pop 27 = .ok (.iaload, 1) := by decide +kernel
theorem dX5_pop_28 : decode cX5_pop 28 = .ok (.ireturn, 1) := by decide +kernel
theorem dX5_run_0 : decode cX5_run 0 = .ok (.iload_n 1, 1) := by decide +kernel
theorem dX5_run_1 : decode cX5_run 1 = .ok (.ifCond .lt 11, 3) := by decide +kernel
theorem dX5_run_4 : decode cX5_run 4 = .ok (.aload_n 0, 1) := by decide +kernel
theorem dX5_run_5 : decode cX5_run 5 = .ok (.iload_n 1, 1) := by decide +kernel
theorem dX5_run_6 : decode cX5_run 6 = .ok (.invokevirtual 42, 3) := by decide +kernel
theorem dX5_run_9 : decode cX5_run 9 = .ok (.goto 69, 3) := by decide +kernel
theorem dX5_run_12 : decode cX5_run 12 = .ok (.iload_n 1, 1) := by decide +kernel
theorem dX5_run_13 : decode cX5_run 13 = .ok (.bipush (-11), 2) := by decide +kernel
theorem dX5_run_15 : decode cX5_run 15 = .ok (.if_icmp .le 21, 3) := by decide +kernel
theorem dX5_run_18 : decode cX5_run 18 = .ok (.aload_n 0, 1) := by decide +kernel
theorem dX5_run_19 : decode cX5_run 19 = .ok (.aload_n 0, 1) := by decide +kernel
theorem dX5_run_20 : decode cX5_run 20 = .ok (.getfield 15, 3) := by decide +kernel
theorem dX5_run_23 : decode cX5_run 23 = .ok (.iconst (-1), 1) := by decide +kernel
theorem dX5_run_24 : decode cX5_run 24 = .ok (.iload_n 1, 1) := by decide +kernel
theorem dX5_run_25 : decode cX5_run 25 = .ok (.isub, 1) := by decide +kernel
theorem dX5_run_26 : decode cX5_run 26 = .ok (.bipush 7, 2) := by decide +kernel
theorem dX5_run_28 : decode cX5_run 28 = .ok (.iand, 1) := by decide +kernel
theorem dX5_run_29 : decode cX5_run 29 = .ok (.iaload, 1) := by decide +kernel
theorem dX5_run_30 : decode cX5_run 30 = .ok (.invokevirtual 42, 3) := by decide +kernel
theorem dX5_run_33 : decode cX5_run 33 = .ok (.goto 45, 3) := by decide +kernel
theorem dX5_run_36 : decode cX5_run 36 = .ok (.iload_n 1, 1) := by decide +kernel
theorem dX5_run_37 : decode cX5_run 37 = .ok (.bipush (-20), 2) := by decide +kernel
theorem dX5_run_39 : decode cX5_run 39 = .ok (.if_icmp .ne 16, 3) := by decide +kernel
theorem dX5_run_42 : decode cX5_run 42 = .ok (.aload_n 0, 1) := by decide +kernel
theorem dX5_run_43 : decode cX5_run 43 = .ok (.iconst 1, 1) := by decide +kernel
theorem dX5_run_44 : decode cX5_run 44 = .ok (.aload_n 0, 1) := by decide +kernel
theorem dX5_run_45 : decode cX5_run 45 = .ok (.invokevirtual 34, 3) := by decide +kernel
theorem dX5_run_48 : decode cX5_run 48 = .ok (.isub, 1) := by decide +kernel
theorem dX5_run_49 : decode cX5_run 49 = .ok (.invokevirtual 42, 3) := by decide +kernel
theorem dX5_run_52 : decode cX5_run 52 = .ok (.goto 26, 3) := by decide +kernel
theorem dX5_run_55 : decode cX5_run 55 = .ok (.aload_n 0, 1) := by decide +kernel
theorem dX5_run_56 : decode cX5_run 56 = .ok (.invokevirtual 34, 3) := by decide +kernel
theorem dX5_run_59 : decode cX5_run 59 = .ok (.istore_n 2, 1) := by decide +kernel
theorem dX5_run_60 : decode cX5_run 60 = .ok (.aload_n 0, 1) := by decide +kernel
theorem dX5_run_61 : decode cX5_run 61 = .ok (.invokevirtual 34, 3) := by decide +kernel
theorem dX5_run_64 : decode cX5_run 64 = .ok (.istore_n 3, 1) := by decide +kernel
theorem dX5_run_65 : decode cX5_run 65 = .ok (.aload_n 0, 1) := by decide +kernel
theorem dX5_run_66 : decode cX5_run 66 = .ok (.iload_n 1, 1) := by decide +kernel
theorem dX5_run_67 : decode cX5_run 67 = .ok (.iload_n 3, 1) := by decide +kernel
theorem dX5_run_68 : decode cX5_run 68 = .ok (.iload_n 2, 1) := by decide +kernel
theorem dX5_run_69 : decode cX5_run 69 = .ok (.invokestatic 45, 3) := by decide +kernel
theorem dX5_run_72 : decode cX5_run 72 = .ok (.invokestatic 49, 3) := by decide +kernel
theorem dX5_run_75 : decode cX5_run 75 = .ok (.invokevirtual 42, 3) := by decide +kernel
theorem dX5_run_78 : decode cX5_run 78 = .ok (.return_, 1) := by decide +kernel
theorem dX5_joined_0 : decode cX5_joined 0 = .ok (.iload_n 0, 1) := by decide +kernel
theorem dX5_joined_1 : decode cX5_joined 1 = .ok (.tableswitch 116 (-18) (-11) #[111, 100, 89, 78, 65, 59, 53, 47], 47) := by decide +kernel
theorem dX5_joined_48 : decode cX5_joined 48 = .ok (.iload_n 1, 1) := by decide +kernel
theorem dX5_joined_49 : decode cX5_joined 49 = .ok (.i2l, 1) := by decide +kernel
theorem dX5_joined_50 : decode cX5_joined 50 = .ok (.iload_n 2, 1) := by decide +kernel
theorem dX5_joined_51 : decode cX5_joined 51 = .ok (.i2l, 1) := by decide +kernel
theorem dX5_joined_52 : decode cX5_joined 52 = .ok (.ladd, 1) := by decide +kernel
theorem dX5_joined_53 : decode cX5_joined 53 = .ok (.lreturn, 1) := by decide +kernel
theorem dX5_joined_54 : decode cX5_joined 54 = .ok (.iload_n 1, 1) := by decide +kernel
theorem dX5_joined_55 : decode cX5_joined 55 = .ok (.i2l, 1) := by decide +kernel
theorem dX5_joined_56 : decode cX5_joined 56 = .ok (.iload_n 2, 1) := by decide +kernel
theorem dX5_joined_57 : decode cX5_joined 57 = .ok (.i2l, 1) := by decide +kernel
theorem dX5_joined_58 : decode cX5_joined 58 = .ok (.lsub, 1) := by decide +kernel
theorem dX5_joined_59 : decode cX5_joined 59 = .ok (.lreturn, 1) := by decide +kernel
theorem dX5_joined_60 : decode cX5_joined 60 = .ok (.iload_n 1, 1) := by decide +kernel
theorem dX5_joined_61 : decode cX5_joined 61 = .ok (.i2l, 1) := by decide +kernel
theorem dX5_joined_62 : decode cX5_joined 62 = .ok (.iload_n 2, 1) := by decide +kernel
theorem dX5_joined_63 : decode cX5_joined 63 = .ok (.i2l, 1) := by decide +kernel
theorem dX5_joined_64 : decode cX5_joined 64 = .ok (.lmul, 1) := by decide +kernel
theorem dX5_joined_65 : decode cX5_joined 65 = .ok (.lreturn, 1) := by decide +kernel
theorem dX5_joined_66 : decode cX5_joined 66 = .ok (.iload_n 2, 1) := by decide +kernel
theorem dX5_joined_67 : decode cX5_joined 67 = .ok (.ifCond .ne 7, 3) := by decide +kernel
theorem dX5_joined_70 : decode cX5_joined 70 = .ok (.lconst 0, 1) := by decide +kernel
theorem dX5_joined_71 : decode cX5_joined 71 = .ok (.goto 7, 3) := by decide +kernel
theorem dX5_joined_74 : decode cX5_joined 74 = .ok (.iload_n 1, 1) := by decide +kernel
theorem dX5_joined_75 : decode cX5_joined 75 = .ok (.iload_n 2, 1) := by decide +kernel
theorem dX5_joined_76 : decode cX5_joined 76 = .ok (.idiv, 1) := by decide +kernel
theorem dX5_joined_77 : decode cX5_joined 77 = .ok (.i2l, 1) := by decide +kernel
theorem dX5_joined_78 : decode cX5_joined 78 = .ok (.lreturn, 1) := by decide +kernel
theorem dX5_joined_79 : decode cX5_joined 79 = .ok (.iload_n 1, 1) := by decide +kernel
theorem dX5_joined_80 : decode cX5_joined 80 = .ok (.iload_n 2, 1) := by decide +kernel
theorem dX5_joined_81 : decode cX5_joined 81 = .ok (.if_icmp .ne 7, 3) := by decide +kernel
theorem dX5_joined_84 : decode cX5_joined 84 = .ok (.lconst 1, 1) := by decide +kernel
theorem dX5_joined_85 : decode cX5_joined 85 = .ok (.goto 4, 3) := by decide +kernel
theorem dX5_joined_88 : decode cX5_joined 88 = .ok (.lconst 0, 1) := by decide +kernel
theorem dX5_joined_89 : decode cX5_joined 89 = .ok (.lreturn, 1) := by decide +kernel
theorem dX5_joined_90 : decode cX5_joined 90 = .ok (.iload_n 1, 1) := by decide +kernel
theorem dX5_joined_91 : decode cX5_joined 91 = .ok (.iload_n 2, 1) := by decide +kernel
theorem dX5_joined_92 : decode cX5_joined 92 = .ok (.if_icmp .ge 7, 3) := by decide +kernel
theorem dX5_joined_95 : decode cX5_joined 95 = .ok (.lconst 1, 1) := by decide +kernel
theorem dX5_joined_96 : decode cX5_joined 96 = .ok (.goto 4, 3) := by decide +kernel
theorem dX5_joined_99 : decode cX5_joined 99 = .ok (.lconst 0, 1) := by decide +kernel
theorem dX5_joined_100 : decode cX5_joined 100 = .ok (.lreturn, 1) := by decide +kernel
theorem dX5_joined_101 : decode cX5_joined 101 = .ok (.iload_n 1, 1) := by decide +kernel
theorem dX5_joined_102 : decode cX5_joined 102 = .ok (.iload_n 2, 1) := by decide +kernel
theorem dX5_joined_103 : decode cX5_joined 103 = .ok (.if_icmp .le 7, 3) := by decide +kernel
theorem dX5_joined_106 : decode cX5_joined 106 = .ok (.lconst 1, 1) := by decide +kernel
theorem dX5_joined_107 : decode cX5_joined 107 = .ok (.goto 4, 3) := by decide +kernel
theorem dX5_joined_110 : decode cX5_joined 110 = .ok (.lconst 0, 1) := by decide +kernel
theorem dX5_joined_111 : decode cX5_joined 111 = .ok (.lreturn, 1) := by decide +kernel
theorem dX5_joined_112 : decode cX5_joined 112 = .ok (.iload_n 1, 1) := by decide +kernel
theorem dX5_joined_113 : decode cX5_joined 113 = .ok (.iload_n 2, 1) := by decide +kernel
theorem dX5_joined_114 : decode cX5_joined 114 = .ok (.iand, 1) := by decide +kernel
theorem dX5_joined_115 : decode cX5_joined 115 = .ok (.i2l, 1) := by decide +kernel
theorem dX5_joined_116 : decode cX5_joined 116 = .ok (.lreturn, 1) := by decide +kernel
theorem dX5_joined_117 : decode cX5_joined 117 = .ok (.iload_n 1, 1) := by decide +kernel
theorem dX5_joined_118 : decode cX5_joined 118 = .ok (.iload_n 2, 1) := by decide +kernel
theorem dX5_joined_119 : decode cX5_joined 119 = .ok (.ior, 1) := by decide +kernel
theorem dX5_joined_120 : decode cX5_joined 120 = .ok (.i2l, 1) := by decide +kernel
theorem dX5_joined_121 : decode cX5_joined 121 = .ok (.lreturn, 1) := by decide +kernel
theorem dX5_held_0 : decode cX5_held 0 = .ok (.ldc2_w 53, 3) := by decide +kernel
theorem dX5_held_3 : decode cX5_held 3 = .ok (.ldc2_w 55, 3) := by decide +kernel
theorem dX5_held_6 : decode cX5_held 6 = .ok (.lload_n 0, 1) := by decide +kernel
theorem dX5_held_7 : decode cX5_held 7 = .ok (.invokestatic 57, 3) := by decide +kernel
theorem dX5_held_10 : decode cX5_held 10 = .ok (.invokestatic 63, 3) := by decide +kernel
theorem dX5_held_13 : decode cX5_held 13 = .ok (.l2i, 1) := by decide +kernel
theorem dX5_held_14 : decode cX5_held 14 = .ok (.ireturn, 1) := by decide +kernel
theorem dX6_init_0 : decode cX6_init 0 = .ok (.aload_n 0, 1) := by decide +kernel
theorem dX6_init_1 : decode cX6_init 1 = .ok (.aload_n 1, 1) := by decide +kernel
theorem dX6_init_2 : decode cX6_init 2 = .ok (.invokespecial 3, 3) := by decide +kernel
theorem dX6_init_5 : decode cX6_init 5 = .ok (.aload_n 0, 1) := by decide +kernel
theorem dX6_init_6 : decode cX6_init 6 = .ok (.new 9, 3) := by decide +kernel
theorem dX6_init_9 : decode cX6_init 9 = .ok (.dup, 1) := by decide +kernel
theorem dX6_init_10 : decode cX6_init 10 = .ok (.invokespecial 11, 3) := by decide +kernel
theorem dX6_init_13 : decode cX6_init 13 = .ok (.putfield 14, 3) := by decide +kernel
theorem dX6_init_16 : decode cX6_init 16 = .ok (.return_, 1) := by decide +kernel
theorem dX6_readAll_0 : decode cX6_readAll 0 = .ok (.aload_n 0, 1) := by decide +kernel
theorem dX6_readAll_1 : decode cX6_readAll 1 = .ok (.iconst 0, 1) := by decide +kernel
theorem dX6_readAll_2 : decode cX6_readAll 2 = .ok (.putfield 20, 3) := by decide +kernel
theorem dX6_readAll_5 : decode cX6_readAll 5 = .ok (.aload_n 0, 1) := by decide +kernel
theorem dX6_readAll_6 : decode cX6_readAll 6 = .ok (.getfield 14, 3) := by decide +kernel
theorem dX6_readAll_9 : decode cX6_readAll 9 = .ok (.iconst 0, 1) := by decide +kernel
theorem dX6_readAll_10 : decode cX6_readAll 10 = .ok (.putfield 24, 3) := by decide +kernel
theorem dX6_readAll_13 : decode cX6_readAll 13 = .ok (.iconst 0, 1) := by decide +kernel
theorem dX6_readAll_14 : decode cX6_readAll 14 = .ok (.istore_n 1, 1) := by decide +kernel
theorem dX6_readAll_15 : decode cX6_readAll 15 = .ok (.iload_n 1, 1) := by decide +kernel
theorem dX6_readAll_16 : decode cX6_readAll 16 = .ok (.sipush 240, 3) := by decide +kernel
theorem dX6_readAll_19 : decode cX6_readAll 19 = .ok (.if_icmp .ge 66, 3) := by decide +kernel
theorem dX6_readAll_22 : decode cX6_readAll 22 = .ok (.aload_n 0, 1) := by decide +kernel
theorem dX6_readAll_23 : decode cX6_readAll 23 = .ok (.bipush 121, 2) := by decide +kernel
theorem dX6_readAll_25 : decode cX6_readAll 25 = .ok (.invokevirtual 27, 3) := by decide +kernel
theorem dX6_readAll_28 : decode cX6_readAll 28 = .ok (.ifCond .eq 19, 3) := by decide +kernel
theorem dX6_readAll_31 : decode cX6_readAll 31 = .ok (.aload_n 0, 1) := by decide +kernel
theorem dX6_readAll_32 : decode cX6_readAll 32 = .ok (.bipush 58, 2) := by decide +kernel
theorem dX6_readAll_34 : decode cX6_readAll 34 = .ok (.invokevirtual 27, 3) := by decide +kernel
theorem dX6_readAll_37 : decode cX6_readAll 37 = .ok (.ifCond .eq 10, 3) := by decide +kernel
theorem dX6_readAll_40 : decode cX6_readAll 40 = .ok (.aload_n 0, 1) := by decide +kernel
theorem dX6_readAll_41 : decode cX6_readAll 41 = .ok (.invokevirtual 31, 3) := by decide +kernel
theorem dX6_readAll_44 : decode cX6_readAll 44 = .ok (.ifCond .ne 5, 3) := by decide +kernel
theorem dX6_readAll_47 : decode cX6_readAll 47 = .ok (.iconst 0, 1) := by decide +kernel
theorem dX6_readAll_48 : decode cX6_readAll 48 = .ok (.ireturn, 1) := by decide +kernel
theorem dX6_readAll_49 : decode cX6_readAll 49 = .ok (.aload_n 0, 1) := by decide +kernel
theorem dX6_readAll_50 : decode cX6_readAll 50 = .ok (.getfield 14, 3) := by decide +kernel
theorem dX6_readAll_53 : decode cX6_readAll 53 = .ok (.bipush (-22), 2) := by decide +kernel
theorem dX6_readAll_55 : decode cX6_readAll 55 = .ok (.invokevirtual 35, 3) := by decide +kernel
theorem dX6_readAll_58 : decode cX6_readAll 58 = .ok (.aload_n 0, 1) := by decide +kernel
theorem dX6_readAll_59 : decode cX6_readAll 59 = .ok (.invokevirtual 39, 3) := by decide +kernel
theorem dX6_readAll_62 : decode cX6_readAll 62 = .ok (.iconst (-1), 1) := by decide +kernel
theorem dX6_readAll_63 : decode cX6_readAll 63 = .ok (.if_icmp .ne 5, 3) := by decide +kernel
theorem dX6_readAll_66 : decode cX6_readAll 66 = .ok (.iconst 1, 1) := by decide +kernel
theorem dX6_readAll_67 : decode cX6_readAll 67 = .ok (.ireturn, 1) := by decide +kernel
theorem dX6_readAll_68 : decode cX6_readAll 68 = .ok (.aload_n 0, 1) := by decide +kernel
theorem dX6_readAll_69 : decode cX6_readAll 69 = .ok (.bipush 59, 2) := by decide +kernel
theorem dX6_readAll_71 : decode cX6_readAll 71 = .ok (.invokevirtual 27, 3) := by decide +kernel
theorem dX6_readAll_74 : decode cX6_readAll 74 = .ok (.ifCond .ne 5, 3) := by decide +kernel
theorem dX6_readAll_77 : decode cX6_readAll 77 = .ok (.iconst 0, 1) := by decide +kernel
theorem dX6_readAll_78 : decode cX6_readAll 78 = .ok (.ireturn, 1) := by decide +kernel
theorem dX6_readAll_79 : decode cX6_readAll 79 = .ok (.iinc 1 1, 3) := by decide +kernel
theorem dX6_readAll_82 : decode cX6_readAll 82 = .ok (.goto (-67), 3) := by decide +kernel
theorem dX6_readAll_85 : decode cX6_readAll 85 = .ok (.iconst 0, 1) := by decide +kernel
theorem dX6_readAll_86 : decode cX6_readAll 86 = .ok (.ireturn, 1) := by decide +kernel
theorem dX6_readBody_0 : decode cX6_readBody 0 = .ok (.aload_n 0, 1) := by decide +kernel
theorem dX6_readBody_1 : decode cX6_readBody 1 = .ok (.invokevirtual 39, 3) := by decide +kernel
theorem dX6_readBody_4 : decode cX6_readBody 4 = .ok (.istore_n 1, 1) := by decide +kernel
theorem dX6_readBody_5 : decode cX6_readBody 5 = .ok (.iload_n 1, 1) := by decide +kernel
theorem dX6_readBody_6 : decode cX6_readBody 6 = .ok (.bipush 33, 2) := by decide +kernel
theorem dX6_readBody_8 : decode cX6_readBody 8 = .ok (.if_icmp .eq 9, 3) := by decide +kernel
theorem dX6_readBody_11 : decode cX6_readBody 11 = .ok (.iload_n 1, 1) := by decide +kernel
theorem dX6_readBody_12 : decode cX6_readBody 12 = .ok (.bipush 40, 2) := by decide +kernel
theorem dX6_readBody_14 : decode cX6_readBody 14 = .ok (.if_icmp .ne 24, 3) := by decide +kernel
theorem dX6_readBody_17 : decode cX6_readBody 17 = .ok (.aload_n 0, 1) := by decide +kernel
theorem dX6_readBody_18 : decode cX6_readBody 18 = .ok (.iconst 0, 1) := by decide +kernel
theorem dX6_readBody_19 : decode cX6_readBody 19 = .ok (.invokevirtual 43, 3) := by decide +kernel
theorem dX6_readBody_22 : decode cX6_readBody 22 = .ok (.ifCond .eq 14, 3) := by decide +kernel
theorem dX6_readBody_25 : decode cX6_readBody 25 = .ok (.aload_n 0, 1) := by decide +kernel
theorem dX6_readBody_26 : decode cX6_readBody 26 = .ok (.invokevirtual 46, 3) := by decide +kernel
theorem dX6_readBody_29 : decode cX6_readBody 29 = .ok (.ifCond .eq 7, 3) := by decide +kernel
theorem dX6_readBody_32 : decode cX6_readBody 32 = .ok (.iconst 1, 1) := by decide +kernel
theorem dX6_readBody_33 : decode cX6_readBody 33 = .ok (.goto 4, 3) := by decide +kernel
theorem dX6_readBody_36 : decode cX6_readBody 36 = .ok (.iconst 0, 1) := by decide +kernel
theorem dX6_readBody_37 : decode cX6_readBody 37 = .ok (.ireturn, 1) := by decide +kernel
theorem dX6_readBody_38 : decode cX6_readBody 38 = .ok (.aload_n 0, 1) := by decide +kernel
theorem dX6_readBody_39 : decode cX6_readBody 39 = .ok (.iconst 0, 1) := by decide +kernel
theorem dX6_readBody_40 : decode cX6_readBody 40 = .ok (.invokevirtual 49, 3) := by decide +kernel
theorem dX6_readBody_43 : decode cX6_readBody 43 = .ok (.ifCond .ne 5, 3) := by decide +kernel
theorem dX6_readBody_46 : decode cX6_readBody 46 = .ok (.iconst 0, 1) := by decide +kernel
theorem dX6_readBody_47 : decode cX6_readBody 47 = .ok (.ireturn, 1) := by decide +kernel
theorem dX6_readBody_48 : decode cX6_readBody 48 = .ok (.aload_n 0, 1) := by decide +kernel
theorem dX6_readBody_49 : decode cX6_readBody 49 = .ok (.invokevirtual 39, 3) := by decide +kernel
theorem dX6_readBody_52 : decode cX6_readBody 52 = .ok (.invokestatic 52, 3) := by decide +kernel
theorem dX6_readBody_55 : decode cX6_readBody 55 = .ok (.ifCond .ne 5, 3) := by decide +kernel
theorem dX6_readBody_58 : decode cX6_readBody 58 = .ok (.iconst 1, 1) := by decide +kernel
theorem dX6_readBody_59 : decode cX6_readBody 59 = .ok (.ireturn, 1) := by decide +kernel
theorem dX6_readBody_60 : decode cX6_readBody 60 = .ok (.aload_n 0, 1) := by decide +kernel
theorem dX6_readBody_61 : decode cX6_readBody 61 = .ok (.iconst 0, 1) := by decide +kernel
theorem dX6_readBody_62 : decode cX6_readBody 62 = .ok (.invokevirtual 55, 3) := by decide +kernel
theorem dX6_readBody_65 : decode cX6_readBody 65 = .ok (.ifCond .eq 22, 3) := by decide +kernel
theorem dX6_readBody_68 : decode cX6_readBody 68 = .ok (.aload_n 0, 1) := by decide +kernel
theorem dX6_readBody_69 : decode cX6_readBody 69 = .ok (.iconst 0, 1) := by decide +kernel
theorem dX6_readBody_70 : decode cX6_readBody 70 = .ok (.invokevirtual 58, 3) := by decide +kernel
theorem dX6_readBody_73 : decode cX6_readBody 73 = .ok (.ifCond .eq 14, 3) := by decide +kernel
theorem dX6_readBody_76 : decode cX6_readBody 76 = .ok (.aload_n 0, 1) := by decide +kernel
theorem dX6_readBody_77 : decode cX6_readBody 77 = .ok (.invokevirtual 46, 3) := by decide +kernel
theorem dX6_readBody_80 : decode cX6_readBody 80 = .ok (.ifCond .eq 7, 3) := by decide +kernel
theorem dX6_readBody_83 : decode cX6_readBody 83 = .ok (.iconst 1, 1) := by decide +kernel
theorem dX6_readBody_84 : decode cX6_readBody 84 = .ok (.goto 4, 3) := by decide +kernel
theorem dX6_readBody_87 : decode cX6_readBody 87 = .ok (.iconst 0, 1) := by decide +kernel
theorem dX6_readBody_88 : decode cX6_readBody 88 = .ok (.ireturn, 1) := by decide +kernel
theorem dX6_readBehindCondition_0 : decode cX6_readBehindCondition 0 = .ok (.aload_n 0, 1) := by decide +kernel
theorem dX6_readBehindCondition_1 : decode cX6_readBehindCondition 1 = .ok (.bipush 63, 2) := by decide +kernel
theorem dX6_readBehindCondition_3 : decode cX6_readBehindCondition 3 = .ok (.invokevirtual 27, 3) := by decide +kernel
theorem dX6_readBehindCondition_6 : decode cX6_readBehindCondition 6 = .ok (.ifCond .ne 5, 3) := by decide +kernel
theorem dX6_readBehindCondition_9 : decode cX6_readBehindCondition 9 = .ok (.iconst 0, 1) := by decide +kernel
theorem dX6_readBehindCondition_10 : decode cX6_readBehindCondition 10 = .ok (.ireturn, 1) := by decide +kernel
theorem dX6_readBehindCondition_11 : decode cX6_readBehindCondition 11 = .ok (.aload_n 0, 1) := by decide +kernel
theorem dX6_readBehindCondition_12 : decode cX6_readBehindCondition 12 = .ok (.getfield 14, 3) := by decide +kernel
theorem dX6_readBehindCondition_15 : decode cX6_readBehindCondition 15 = .ok (.bipush (-21), 2) := by decide +kernel
theorem dX6_readBehindCondition_17 : decode cX6_readBehindCondition 17 = .ok (.invokevirtual 35, 3) := by decide +kernel
theorem dX6_readBehindCondition_20 : decode cX6_readBehindCondition 20 = .ok (.aload_n 0, 1) := by decide +kernel
theorem dX6_readBehindCondition_21 : decode cX6_readBehindCondition 21 = .ok (.iconst 0, 1) := by decide +kernel
theorem dX6_readBehindCondition_22 : decode cX6_readBehindCondition 22 = .ok (.invokevirtual 49, 3) := by decide +kernel
theorem dX6_readBehindCondition_25 : decode cX6_readBehindCondition 25 = .ok (.ireturn, 1) := by decide +kernel
theorem dX6_readCondition_0 : decode cX6_readCondition 0 = .ok (.aload_n 0, 1) := by decide +kernel
theorem dX6_readCondition_1 : decode cX6_readCondition 1 = .ok (.iload_n 1, 1) := by decide +kernel
theorem dX6_readCondition_2 : decode cX6_readCondition 2 = .ok (.invokevirtual 61, 3) := by decide +kernel
theorem dX6_readCondition_5 : decode cX6_readCondition 5 = .ok (.ifCond .eq 15, 3) := by decide +kernel
theorem dX6_readCondition_8 : decode cX6_readCondition 8 = .ok (.aload_n 0, 1) := by decide +kernel
theorem dX6_readCondition_9 : decode cX6_readCondition 9 = .ok (.iload_n 1, 1) := by decide +kernel
theorem dX6_readCondition_10 : decode cX6_readCondition 10 = .ok (.invokevirtual 58, 3) := by decide +kernel
theorem dX6_readCondition_13 : decode cX6_readCondition 13 = .ok (.ifCond .eq 7, 3) := by decide +kernel
theorem dX6_readCondition_16 : decode cX6_readCondition 16 = .ok (.iconst 1, 1) := by decide +kernel
theorem dX6_readCondition_17 : decode cX6_readCondition 17 = .ok (.goto 4, 3) := by decide +kernel
theorem dX6_readCondition_20 : decode cX6_readCondition 20 = .ok (.iconst 0, 1) := by decide +kernel
theorem dX6_readCondition_21 : decode cX6_readCondition 21 = .ok (.ireturn, 1) := by decide +kernel
theorem dX6_readMoreUnits_0 : decode cX6_readMoreUnits 0 = .ok (.aload_n 0, 1) := by decide +kernel
theorem dX6_readMoreUnits_1 : decode cX6_readMoreUnits 1 = .ok (.iload_n 1, 1) := by decide +kernel
theorem dX6_readMoreUnits_2 : decode cX6_readMoreUnits 2 = .ok (.invokevirtual 64, 3) := by decide +kernel
theorem dX6_readMoreUnits_5 : decode cX6_readMoreUnits 5 = .ok (.ifCond .ne 5, 3) := by decide +kernel
theorem dX6_readMoreUnits_8 : decode cX6_readMoreUnits 8 = .ok (.iconst 0, 1) := by decide +kernel
theorem dX6_readMoreUnits_9 : decode cX6_readMoreUnits 9 = .ok (.ireturn, 1) := by decide +kernel
theorem dX6_readMoreUnits_10 : decode cX6_readMoreUnits 10 = .ok (.iconst 0, 1) := by decide +kernel
theorem dX6_readMoreUnits_11 : decode cX6_readMoreUnits 11 = .ok (.istore_n 2, 1) := by decide +kernel
theorem dX6_readMoreUnits_12 : decode cX6_readMoreUnits 12 = .ok (.iload_n 2, 1) := by decide +kernel
theorem dX6_readMoreUnits_13 : decode cX6_readMoreUnits 13 = .ok (.sipush 240, 3) := by decide +kernel
theorem dX6_readMoreUnits_16 : decode cX6_readMoreUnits 16 = .ok (.if_icmp .ge 45, 3) := by decide +kernel
theorem dX6_readMoreUnits_19 : decode cX6_readMoreUnits 19 = .ok (.aload_n 0, 1) := by decide +kernel
theorem dX6_readMoreUnits_20 : decode cX6_readMoreUnits 20 = .ok (.bipush 124, 2) := by decide +kernel
theorem dX6_readMoreUnits_22 : decode cX6_readMoreUnits 22 = .ok (.invokevirtual 27, 3) := by decide +kernel
theorem dX6_readMoreUnits_25 : decode cX6_readMoreUnits 25 = .ok (.ifCond .eq 36, 3) := by decide +kernel
theorem dX6_readMoreUnits_28 : decode cX6_readMoreUnits 28 = .ok (.aload_n 0, 1) := by decide +kernel
theorem dX6_readMoreUnits_29 : decode cX6_readMoreUnits 29 = .ok (.iload_n 1, 1) := by decide +kernel
theorem dX6_readMoreUnits_30 : decode cX6_readMoreUnits 30 = .ok (.invokevirtual 61, 3) := by decide +kernel
theorem dX6_readMoreUnits_33 : decode cX6_readMoreUnits 33 = .ok (.ifCond .eq 11, 3) := by decide +kernel
theorem dX6_readMoreUnits_36 : decode cX6_readMoreUnits 36 = .ok (.aload_n 0, 1) := by decide +kernel
theorem dX6_readMoreUnits_37 : decode cX6_readMoreUnits 37 = .ok (.iload_n 1, 1) := by decide +kernel
theorem dX6_readMoreUnits_38 : decode cX6_readMoreUnits 38 = .ok (.invokevirtual 64, 3) := by decide +kernel
theorem dX6_readMoreUnits_41 : decode cX6_readMoreUnits 41 = .ok (.ifCond .ne 5, 3) := by decide +kernel
theorem dX6_readMoreUnits_44 : decode cX6_readMoreUnits 44 = .ok (.iconst 0, 1) := by decide +kernel
theorem dX6_readMoreUnits_45 : decode cX6_readMoreUnits 45 = .ok (.ireturn, 1) := by decide +kernel
theorem dX6_readMoreUnits_46 : decode cX6_readMoreUnits 46 = .ok (.aload_n 0, 1) := by decide +kernel
theorem dX6_readMoreUnits_47 : decode cX6_readMoreUnits 47 = .ok (.getfield 14, 3) := by decide +kernel
theorem dX6_readMoreUnits_50 : decode cX6_readMoreUnits 50 = .ok (.bipush (-19), 2) := by decide +kernel
theorem dX6_readMoreUnits_52 : decode cX6_readMoreUnits 52 = .ok (.invokevirtual 35, 3) := by decide +kernel
theorem dX6_readMoreUnits_55 : decode cX6_readMoreUnits 55 = .ok (.iinc 2 1, 3) := by decide +kernel
theorem dX6_readMoreUnits_58 : decode cX6_readMoreUnits 58 = .ok (.goto (-46), 3) := by decide +kernel
theorem dX6_readMoreUnits_61 : decode cX6_readMoreUnits 61 = .ok (.iconst 1, 1) := by decide +kernel
theorem dX6_readMoreUnits_62 : decode cX6_readMoreUnits 62 = .ok (.ireturn, 1) := by decide +kernel
theorem dX6_readMoreOfTruth_0 : decode cX6_readMoreOfTruth 0 = .ok (.iconst 0, 1) := by decide +kernel
theorem dX6_readMoreOfTruth_1 : decode cX6_readMoreOfTruth 1 = .ok (.istore_n 2, 1) := by decide +kernel
theorem dX6_readMoreOfTruth_2 : decode cX6_readMoreOfTruth 2 = .ok (.iload_n 2, 1) := by decide +kernel
theorem dX6_readMoreOfTruth_3 : decode cX6_readMoreOfTruth 3 = .ok (.sipush 240, 3) := by decide +kernel
theorem dX6_readMoreOfTruth_6 : decode cX6_readMoreOfTruth 6 = .ok (.if_icmp .ge 37, 3) := by decide +kernel
theorem dX6_readMoreOfTruth_9 : decode cX6_readMoreOfTruth 9 = .ok (.aload_n 0, 1) := by decide +kernel
theorem dX6_readMoreOfTruth_10 : decode cX6_readMoreOfTruth 10 = .ok (.bipush 38, 2) := by decide +kernel
theorem dX6_readMoreOfTruth_12 : decode cX6_readMoreOfTruth 12 = .ok (.invokevirtual 27, 3) := by decide +kernel
theorem dX6_readMoreOfTruth_15 : decode cX6_readMoreOfTruth 15 = .ok (.ifCond .eq 28, 3) := by decide +kernel
theorem dX6_readMoreOfTruth_18 : decode cX6_readMoreOfTruth 18 = .ok (.aload_n 0, 1) := by decide +kernel
theorem dX6_readMoreOfTruth_19 : decode cX6_readMoreOfTruth 19 = .ok (.iload_n 1, 1) := by decide +kernel
theorem dX6_readMoreOfTruth_20 : decode cX6_readMoreOfTruth 20 = .ok (.invokevirtual 61, 3) := by decide +kernel
theorem dX6_readMoreOfTruth_23 : decode cX6_readMoreOfTruth 23 = .ok (.ifCond .ne 5, 3) := by decide +kernel
theorem dX6_readMoreOfTruth_26 : decode cX6_readMoreOfTruth 26 = .ok (.iconst 0, 1) := by decide +kernel
theorem dX6_readMoreOfTruth_27 : decode cX6_readMoreOfTruth 27 = .ok (.ireturn, 1) := by decide +kernel
theorem dX6_readMoreOfTruth_28 : decode cX6_readMoreOfTruth 28 = .ok (.aload_n 0, 1) := by decide +kernel
theorem dX6_readMoreOfTruth_29 : decode cX6_readMoreOfTruth 29 = .ok (.getfield 14, 3) := by decide +kernel
theorem dX6_readMoreOfTruth_32 : decode cX6_readMoreOfTruth 32 = .ok (.bipush (-18), 2) := by decide +kernel
theorem dX6_readMoreOfTruth_34 : decode cX6_readMoreOfTruth 34 = .ok (.invokevirtual 35, 3) := by decide +kernel
theorem dX6_readMoreOfTruth_37 : decode cX6_readMoreOfTruth 37 = .ok (.iinc 2 1, 3) := by decide +kernel
theorem dX6_readMoreOfTruth_40 : decode cX6_readMoreOfTruth 40 = .ok (.goto (-38), 3) := by decide +kernel
theorem dX6_readMoreOfTruth_43 : decode cX6_readMoreOfTruth 43 = .ok (.iconst 1, 1) := by decide +kernel
theorem dX6_readMoreOfTruth_44 : decode cX6_readMoreOfTruth 44 = .ok (.ireturn, 1) := by decide +kernel
theorem dX6_readUnit_0 : decode cX6_readUnit 0 = .ok (.aload_n 0, 1) := by decide +kernel
theorem dX6_readUnit_1 : decode cX6_readUnit 1 = .ok (.invokevirtual 39, 3) := by decide +kernel
theorem dX6_readUnit_4 : decode cX6_readUnit 4 = .ok (.istore_n 2, 1) := by decide +kernel
theorem dX6_readUnit_5 : decode cX6_readUnit 5 = .ok (.iload_n 2, 1) := by decide +kernel
theorem dX6_readUnit_6 : decode cX6_readUnit 6 = .ok (.bipush 33, 2) := by decide +kernel
theorem dX6_readUnit_8 : decode cX6_readUnit 8 = .ok (.if_icmp .ne 34, 3) := by decide +kernel
theorem dX6_readUnit_11 : decode cX6_readUnit 11 = .ok (.aload_n 0, 1) := by decide +kernel
theorem dX6_readUnit_12 : decode cX6_readUnit 12 = .ok (.iload_n 1, 1) := by decide +kernel
theorem dX6_readUnit_13 : decode cX6_readUnit 13 = .ok (.invokevirtual 67, 3) := by decide +kernel
theorem dX6_readUnit_16 : decode cX6_readUnit 16 = .ok (.ifCond .eq 13, 3) := by decide +kernel
theorem dX6_readUnit_19 : decode cX6_readUnit 19 = .ok (.aload_n 0, 1) := by decide +kernel
theorem dX6_readUnit_20 : decode cX6_readUnit 20 = .ok (.iload_n 1, 1) := by decide +kernel
theorem dX6_readUnit_21 : decode cX6_readUnit 21 = .ok (.iconst 1, 1) := by decide +kernel
theorem dX6_readUnit_22 : decode cX6_readUnit 22 = .ok (.iadd, 1) := by decide +kernel
theorem dX6_readUnit_23 : decode cX6_readUnit 23 = .ok (.invokevirtual 61, 3) := by decide +kernel
theorem dX6_readUnit_26 : decode cX6_readUnit 26 = .ok (.ifCond .ne 5, 3) := by decide +kernel
theorem dX6_readUnit_29 : decode cX6_readUnit 29 = .ok (.iconst 0, 1) := by decide +kernel
theorem dX6_readUnit_30 : decode cX6_readUnit 30 = .ok (.ireturn, 1) := by decide +kernel
theorem dX6_readUnit_31 : decode cX6_readUnit 31 = .ok (.aload_n 0, 1) := by decide +kernel
theorem dX6_readUnit_32 : decode cX6_readUnit 32 = .ok (.getfield 14, 3) := by decide +kernel
theorem dX6_readUnit_35 : decode cX6_readUnit 35 = .ok (.bipush (-20), 2) := by decide +kernel
theorem dX6_readUnit_37 : decode cX6_readUnit 37 = .ok (.invokevirtual 35, 3) := by decide +kernel
theorem dX6_readUnit_40 : decode cX6_readUnit 40 = .ok (.iconst 1, 1) := by decide +kernel
theorem dX6_readUnit_41 : decode cX6_readUnit 41 = .ok (.ireturn, 1) := by decide +kernel
theorem dX6_readUnit_42 : decode cX6_readUnit 42 = .ok (.iload_n 2, 1) := by decide +kernel
theorem dX6_readUnit_43 : decode cX6_readUnit 43 = .ok (.bipush 40, 2) := by decide +kernel
theorem dX6_readUnit_45 : decode cX6_readUnit 45 = .ok (.if_icmp .ne 36, 3) := by decide +kernel
theorem dX6_readUnit_48 : decode cX6_readUnit 48 = .ok (.aload_n 0, 1) := by decide +kernel
theorem dX6_readUnit_49 : decode cX6_readUnit 49 = .ok (.iload_n 1, 1) := by decide +kernel
theorem dX6_readUnit_50 : decode cX6_readUnit 50 = .ok (.invokevirtual 67, 3) := by decide +kernel
theorem dX6_readUnit_53 : decode cX6_readUnit 53 = .ok (.ifCond .eq 26, 3) := by decide +kernel
theorem dX6_readUnit_56 : decode cX6_readUnit 56 = .ok (.aload_n 0, 1) := by decide +kernel
theorem dX6_readUnit_57 : decode cX6_readUnit 57 = .ok (.iload_n 1, 1) := by decide +kernel
theorem dX6_readUnit_58 : decode cX6_readUnit 58 = .ok (.iconst 1, 1) := by decide +kernel
theorem dX6_readUnit_59 : decode cX6_readUnit 59 = .ok (.iadd, 1) := by decide +kernel
theorem dX6_readUnit_60 : decode cX6_readUnit 60 = .ok (.invokevirtual 43, 3) := by decide +kernel
theorem dX6_readUnit_63 : decode cX6_readUnit 63 = .ok (.ifCond .eq 16, 3) := by decide +kernel
theorem dX6_readUnit_66 : decode cX6_readUnit 66 = .ok (.aload_n 0, 1) := by decide +kernel
theorem dX6_readUnit_67 : decode cX6_readUnit 67 = .ok (.bipush 41, 2) := by decide +kernel
theorem dX6_readUnit_69 : decode cX6_readUnit 69 = .ok (.invokevirtual 27, 3) := by decide +kernel
theorem dX6_readUnit_72 : decode cX6_readUnit 72 = .ok (.ifCond .eq 7, 3) := by decide +kernel
theorem dX6_readUnit_75 : decode cX6_readUnit 75 = .ok (.iconst 1, 1) := by decide +kernel
theorem dX6_readUnit_76 : decode cX6_readUnit 76 = .ok (.goto 4, 3) := by decide +kernel
theorem dX6_readUnit_79 : decode cX6_readUnit 79 = .ok (.iconst 0, 1) := by decide +kernel
theorem dX6_readUnit_80 : decode cX6_readUnit 80 = .ok (.ireturn, 1) := by decide +kernel
theorem dX6_readUnit_81 : decode cX6_readUnit 81 = .ok (.aload_n 0, 1) := by decide +kernel
theorem dX6_readUnit_82 : decode cX6_readUnit 82 = .ok (.iload_n 1, 1) := by decide +kernel
theorem dX6_readUnit_83 : decode cX6_readUnit 83 = .ok (.invokevirtual 49, 3) := by decide +kernel
theorem dX6_readUnit_86 : decode cX6_readUnit 86 = .ok (.ifCond .eq 15, 3) := by decide +kernel
theorem dX6_readUnit_89 : decode cX6_readUnit 89 = .ok (.aload_n 0, 1) := by decide +kernel
theorem dX6_readUnit_90 : decode cX6_readUnit 90 = .ok (.iload_n 1, 1) := by decide +kernel
theorem dX6_readUnit_91 : decode cX6_readUnit 91 = .ok (.invokevirtual 55, 3) := by decide +kernel
theorem dX6_readUnit_94 : decode cX6_readUnit 94 = .ok (.ifCond .eq 7, 3) := by decide +kernel
theorem dX6_readUnit_97 : decode cX6_readUnit 97 = .ok (.iconst 1, 1) := by decide +kernel
theorem dX6_readUnit_98 : decode cX6_readUnit 98 = .ok (.goto 4, 3) := by decide +kernel
theorem dX6_readUnit_101 : decode cX6_readUnit 101 = .ok (.iconst 0, 1) := by decide +kernel
theorem dX6_readUnit_102 : decode cX6_readUnit 102 = .ok (.ireturn, 1) := by decide +kernel
theorem dX6_opens_0 : decode cX6_opens 0 = .ok (.iload_n 1, 1) := by decide +kernel
theorem dX6_opens_1 : decode cX6_opens 1 = .ok (.bipush 6, 2) := by decide +kernel
theorem dX6_opens_3 : decode cX6_opens 3 = .ok (.if_icmp .lt 5, 3) := by decide +kernel
theorem dX6_opens_6 : decode cX6_opens 6 = .ok (.iconst 0, 1) := by decide +kernel
theorem dX6_opens_7 : decode cX6_opens 7 = .ok (.ireturn, 1) := by decide +kernel
theorem dX6_opens_8 : decode cX6_opens 8 = .ok (.aload_n 0, 1) := by decide +kernel
theorem dX6_opens_9 : decode cX6_opens 9 = .ok (.dup, 1) := by decide +kernel
theorem dX6_opens_10 : decode cX6_opens 10 = .ok (.getfield 20, 3) := by decide +kernel
theorem dX6_opens_13 : decode cX6_opens 13 = .ok (.iconst 1, 1) := by decide +kernel
theorem dX6_opens_14 : decode cX6_opens 14 = .ok (.iadd, 1) := by decide +kernel
theorem dX6_opens_15 : decode cX6_opens 15 = .ok (.putfield 20, 3) := by decide +kernel
theorem dX6_opens_18 : decode cX6_opens 18 = .ok (.iconst 1, 1) := by decide +kernel
theorem dX6_opens_19 : decode cX6_opens 19 = .ok (.ireturn, 1) := by decide +kernel
theorem dX6_isComparison_0 : decode cX6_isComparison 0 = .ok (.iload_n 0, 1) := by decide +kernel
theorem dX6_isComparison_1 : decode cX6_isComparison 1 = .ok (.bipush 61, 2) := by decide +kernel
theorem dX6_isComparison_3 : decode cX6_isComparison 3 = .ok (.if_icmp .eq 15, 3) := by decide +kernel
theorem dX6_isComparison_6 : decode cX6_isComparison 6 = .ok (.iload_n 0, 1) := by decide +kernel
theorem dX6_isComparison_7 : decode cX6_isComparison 7 = .ok (.bipush 60, 2) := by decide +kernel
theorem dX6_isComparison_9 : decode cX6_isComparison 9 = .ok (.if_icmp .eq 9, 3) := by decide +kernel
theorem dX6_isComparison_12 : decode cX6_isComparison 12 = .ok (.iload_n 0, 1) := by decide +kernel
theorem dX6_isComparison_13 : decode cX6_isComparison 13 = .ok (.bipush 62, 2) := by decide +kernel
theorem dX6_isComparison_15 : decode cX6_isComparison 15 = .ok (.if_icmp .ne 7, 3) := by decide +kernel
theorem dX6_isComparison_18 : decode cX6_isComparison 18 = .ok (.iconst 1, 1) := by decide +kernel
theorem dX6_isComparison_19 : decode cX6_isComparison 19 = .ok (.goto 4, 3) := by decide +kernel
theorem dX6_isComparison_22 : decode cX6_isComparison 22 = .ok (.iconst 0, 1) := by decide +kernel
theorem dX6_isComparison_23 : decode cX6_isComparison 23 = .ok (.ireturn, 1) := by decide +kernel
theorem dX6_readComparison_0 : decode cX6_readComparison 0 = .ok (.aload_n 0, 1) := by decide +kernel
theorem dX6_readComparison_1 : decode cX6_readComparison 1 = .ok (.invokevirtual 39, 3) := by decide +kernel
theorem dX6_readComparison_4 : decode cX6_readComparison 4 = .ok (.istore_n 2, 1) := by decide +kernel
theorem dX6_readComparison_5 : decode cX6_readComparison 5 = .ok (.iload_n 2, 1) := by decide +kernel
theorem dX6_readComparison_6 : decode cX6_readComparison 6 = .ok (.invokestatic 52, 3) := by decide +kernel
theorem dX6_readComparison_9 : decode cX6_readComparison 9 = .ok (.ifCond .ne 5, 3) := by decide +kernel
theorem dX6_readComparison_12 : decode cX6_readComparison 12 = .ok (.iconst 0, 1) := by decide +kernel
theorem dX6_readComparison_13 : decode cX6_readComparison 13 = .ok (.ireturn, 1) := by decide +kernel
theorem dX6_readComparison_14 : decode cX6_readComparison 14 = .ok (.aload_n 0, 1) := by decide +kernel
theorem dX6_readComparison_15 : decode cX6_readComparison 15 = .ok (.dup, 1) := by decide +kernel
theorem dX6_readComparison_16 : decode cX6_readComparison 16 = .ok (.getfield 20, 3) := by decide +kernel
theorem dX6_readComparison_19 : decode cX6_readComparison 19 = .ok (.iconst 1, 1) := by decide +kernel
theorem dX6_readComparison_20 : decode cX6_readComparison 20 = .ok (.iadd, 1) := by decide +kernel
theorem dX6_readComparison_21 : decode cX6_readComparison 21 = .ok (.putfield 20, 3) := by decide +kernel
theorem dX6_readComparison_24 : decode cX6_readComparison 24 = .ok (.aload_n 0, 1) := by decide +kernel
theorem dX6_readComparison_25 : decode cX6_readComparison 25 = .ok (.iload_n 1, 1) := by decide +kernel
theorem dX6_readComparison_26 : decode cX6_readComparison 26 = .ok (.invokevirtual 49, 3) := by decide +kernel
theorem dX6_readComparison_29 : decode cX6_readComparison 29 = .ok (.ifCond .ne 5, 3) := by decide +kernel
theorem dX6_readComparison_32 : decode cX6_readComparison 32 = .ok (.iconst 0, 1) := by decide +kernel
theorem dX6_readComparison_33 : decode cX6_readComparison 33 = .ok (.ireturn, 1) := by decide +kernel
theorem dX6_readComparison_34 : decode cX6_readComparison 34 = .ok (.aload_n 0, 1) := by decide +kernel
theorem dX6_readComparison_35 : decode cX6_readComparison 35 = .ok (.getfield 14, 3) := by decide +kernel
theorem dX6_readComparison_38 : decode cX6_readComparison 38 = .ok (.iload_n 2, 1) := by decide +kernel
theorem dX6_readComparison_39 : decode cX6_readComparison 39 = .ok (.bipush 61, 2) := by decide +kernel
theorem dX6_readComparison_41 : decode cX6_readComparison 41 = .ok (.if_icmp .ne 8, 3) := by decide +kernel
theorem dX6_readComparison_44 : decode cX6_readComparison 44 = .ok (.bipush (-15), 2) := by decide +kernel
theorem dX6_readComparison_46 : decode cX6_readComparison 46 = .ok (.goto 16, 3) := by decide +kernel
theorem dX6_readComparison_49 : decode cX6_readComparison 49 = .ok (.iload_n 2, 1) := by decide +kernel
theorem dX6_readComparison_50 : decode cX6_readComparison 50 = .ok (.bipush 60, 2) := by decide +kernel
theorem dX6_readComparison_52 : decode cX6_readComparison 52 = .ok (.if_icmp .ne 8, 3) := by decide +kernel
theorem dX6_readComparison_55 : decode cX6_readComparison 55 = .ok (.bipush (-16), 2) := by decide +kernel
theorem dX6_readComparison_57 : decode cX6_readComparison 57 = .ok (.goto 5, 3) := by decide +kernel
theorem dX6_readComparison_60 : decode cX6_readComparison 60 = .ok (.bipush (-17), 2) := by decide +kernel
theorem dX6_readComparison_62 : decode cX6_readComparison 62 = .ok (.invokevirtual 35, 3) := by decide +kernel
theorem dX6_readComparison_65 : decode cX6_readComparison 65 = .ok (.iconst 1, 1) := by decide +kernel
theorem dX6_readComparison_66 : decode cX6_readComparison 66 = .ok (.ireturn, 1) := by decide +kernel
theorem dX6_readSum_0 : decode cX6_readSum 0 = .ok (.aload_n 0, 1) := by decide +kernel
theorem dX6_readSum_1 : decode cX6_readSum 1 = .ok (.iload_n 1, 1) := by decide +kernel
theorem dX6_readSum_2 : decode cX6_readSum 2 = .ok (.invokevirtual 70, 3) := by decide +kernel
theorem dX6_readSum_5 : decode cX6_readSum 5 = .ok (.ifCond .ne 5, 3) := by decide +kernel
theorem dX6_readSum_8 : decode cX6_readSum 8 = .ok (.iconst 0, 1) := by decide +kernel
theorem dX6_readSum_9 : decode cX6_readSum 9 = .ok (.ireturn, 1) := by decide +kernel
theorem dX6_readSum_10 : decode cX6_readSum 10 = .ok (.iconst 0, 1) := by decide +kernel
theorem dX6_readSum_11 : decode cX6_readSum 11 = .ok (.istore_n 2, 1) := by decide +kernel
theorem dX6_readSum_12 : decode cX6_readSum 12 = .ok (.iload_n 2, 1) := by decide +kernel
theorem dX6_readSum_13 : decode cX6_readSum 13 = .ok (.sipush 240, 3) := by decide +kernel
theorem dX6_readSum_16 : decode cX6_readSum 16 = .ok (.if_icmp .ge 68, 3) := by decide +kernel
theorem dX6_readSum_19 : decode cX6_readSum 19 = .ok (.aload_n 0, 1) := by decide +kernel
theorem dX6_readSum_20 : decode cX6_readSum 20 = .ok (.invokevirtual 39, 3) := by decide +kernel
theorem dX6_readSum_23 : decode cX6_readSum 23 = .ok (.istore_n 3, 1) := by decide +kernel
theorem dX6_readSum_24 : decode cX6_readSum 24 = .ok (.iload_n 3, 1) := by decide +kernel
theorem dX6_readSum_25 : decode cX6_readSum 25 = .ok (.bipush 43, 2) := by decide +kernel
theorem dX6_readSum_27 : decode cX6_readSum 27 = .ok (.if_icmp .eq 11, 3) := by decide +kernel
theorem dX6_readSum_30 : decode cX6_readSum 30 = .ok (.iload_n 3, 1) := by decide +kernel
theorem dX6_readSum_31 : decode cX6_readSum 31 = .ok (.bipush 45, 2) := by decide +kernel
theorem dX6_readSum_33 : decode cX6_readSum 33 = .ok (.if_icmp .eq 5, 3) := by decide +kernel
theorem dX6_readSum_36 : decode cX6_readSum 36 = .ok (.iconst 1, 1) := by decide +kernel
theorem dX6_readSum_37 : decode cX6_readSum 37 = .ok (.ireturn, 1) := by decide +kernel
theorem dX6_readSum_38 : decode cX6_readSum 38 = .ok (.aload_n 0, 1) := by decide +kernel
theorem dX6_readSum_39 : decode cX6_readSum 39 = .ok (.dup, 1) := by decide +kernel
theorem dX6_readSum_40 : decode cX6_readSum 40 = .ok (.getfield 20, 3) := by decide +kernel
theorem dX6_readSum_43 : decode cX6_readSum 43 = .ok (.iconst 1, 1) := by decide +kernel
theorem dX6_readSum_44 : decode cX6_readSum 44 = .ok (.iadd, 1) := by decide +kernel
theorem dX6_readSum_45 : decode cX6_readSum 45 = .ok (.putfield 20, 3) := by decide +kernel
theorem dX6_readSum_48 : decode cX6_readSum 48 = .ok (.aload_n 0, 1) := by decide +kernel
theorem dX6_readSum_49 : decode cX6_readSum 49 = .ok (.iload_n 1, 1) := by decide +kernel
theorem dX6_readSum_50 : decode cX6_readSum 50 = .ok (.invokevirtual 70, 3) := by decide +kernel
theorem dX6_readSum_53 : decode cX6_readSum 53 = .ok (.ifCond .ne 5, 3) := by decide +kernel
theorem dX6_readSum_56 : decode cX6_readSum 56 = .ok (.iconst 0, 1) := by decide +kernel
theorem dX6_readSum_57 : decode cX6_readSum 57 = .ok (.ireturn, 1) := by decide +kernel
theorem dX6_readSum_58 : decode cX6_readSum 58 = .ok (.aload_n 0, 1) := by decide +kernel
theorem dX6_readSum_59 : decode cX6_readSum 59 = .ok (.getfield 14, 3) := by decide +kernel
theorem dX6_readSum_62 : decode cX6_readSum 62 = .ok (.iload_n 3, 1) := by decide +kernel
theorem dX6_readSum_63 : decode cX6_readSum 63 = .ok (.bipush 43, 2) := by decide +kernel
theorem dX6_readSum_65 : decode cX6_readSum 65 = .ok (.if_icmp .ne 8, 3) := by decide +kernel
theorem dX6_readSum_68 : decode cX6_readSum 68 = .ok (.bipush (-11), 2) := by decide +kernel
theorem dX6_readSum_70 : decode cX6_readSum 70 = .ok (.goto 5, 3) := by decide +kernel
theorem dX6_readSum_73 : decode cX6_readSum 73 = .ok (.bipush (-12), 2) := by decide +kernel
theorem dX6_readSum_75 : decode cX6_readSum 75 = .ok (.invokevirtual 35, 3) := by decide +kernel
theorem dX6_readSum_78 : decode cX6_readSum 78 = .ok (.iinc 2 1, 3) := by decide +kernel
theorem dX6_readSum_81 : decode cX6_readSum 81 = .ok (.goto (-69), 3) := by decide +kernel
theorem dX6_readSum_84 : decode cX6_readSum 84 = .ok (.iconst 0, 1) := by decide +kernel
theorem dX6_readSum_85 : decode cX6_readSum 85 = .ok (.ireturn, 1) := by decide +kernel
theorem dX6_readTerm_0 : decode cX6_readTerm 0 = .ok (.aload_n 0, 1) := by decide +kernel
theorem dX6_readTerm_1 : decode cX6_readTerm 1 = .ok (.iload_n 1, 1) := by decide +kernel
theorem dX6_readTerm_2 : decode cX6_readTerm 2 = .ok (.invokevirtual 73, 3) := by decide +kernel
theorem dX6_readTerm_5 : decode cX6_readTerm 5 = .ok (.ifCond .ne 5, 3) := by decide +kernel
theorem dX6_readTerm_8 : decode cX6_readTerm 8 = .ok (.iconst 0, 1) := by decide +kernel
theorem dX6_readTerm_9 : decode cX6_readTerm 9 = .ok (.ireturn, 1) := by decide +kernel
theorem dX6_readTerm_10 : decode cX6_readTerm 10 = .ok (.iconst 0, 1) := by decide +kernel
theorem dX6_readTerm_11 : decode cX6_readTerm 11 = .ok (.istore_n 2, 1) := by decide +kernel
theorem dX6_readTerm_12 : decode cX6_readTerm 12 = .ok (.iload_n 2, 1) := by decide +kernel
theorem dX6_readTerm_13 : decode cX6_readTerm 13 = .ok (.sipush 240, 3) := by decide +kernel
theorem dX6_readTerm_16 : decode cX6_readTerm 16 = .ok (.if_icmp .ge 68, 3) := by decide +kernel
theorem dX6_readTerm_19 : decode cX6_readTerm 19 = .ok (.aload_n 0, 1) := by decide +kernel
theorem dX6_readTerm_20 : decode cX6_readTerm 20 = .ok (.invokevirtual 39, 3) := by decide +kernel
theorem dX6_readTerm_23 : decode cX6_readTerm 23 = .ok (.istore_n 3, 1) := by decide +kernel
theorem dX6_readTerm_24 : decode cX6_readTerm 24 = .ok (.iload_n 3, 1) := by decide +kernel
theorem dX6_readTerm_25 : decode cX6_readTerm 25 = .ok (.bipush 42, 2) := by decide +kernel
theorem dX6_readTerm_27 : decode cX6_readTerm 27 = .ok (.if_icmp .eq 11, 3) := by decide +kernel
theorem dX6_readTerm_30 : decode cX6_readTerm 30 = .ok (.iload_n 3, 1) := by decide +kernel
theorem dX6_readTerm_31 : decode cX6_readTerm 31 = .ok (.bipush 47, 2) := by decide +kernel
theorem dX6_readTerm_33 : decode cX6_readTerm 33 = .ok (.if_icmp .eq 5, 3) := by decide +kernel
theorem dX6_readTerm_36 : decode cX6_readTerm 36 = .ok (.iconst 1, 1) := by decide +kernel
theorem dX6_readTerm_37 : decode cX6_readTerm 37 = .ok (.ireturn, 1) := by decide +kernel
theorem dX6_readTerm_38 : decode cX6_readTerm 38 = .ok (.aload_n 0, 1) := by decide +kernel
theorem dX6_readTerm_39 : decode cX6_readTerm 39 = .ok (.dup, 1) := by decide +kernel
theorem dX6_readTerm_40 : decode cX6_readTerm 40 = .ok (.getfield 20, 3) := by decide +kernel
theorem dX6_readTerm_43 : decode cX6_readTerm 43 = .ok (.iconst 1, 1) := by decide +kernel
theorem dX6_readTerm_44 : decode cX6_readTerm 44 = .ok (.iadd, 1) := by decide +kernel
theorem dX6_readTerm_45 : decode cX6_readTerm 45 = .ok (.putfield 20, 3) := by decide +kernel
theorem dX6_readTerm_48 : decode cX6_readTerm 48 = .ok (.aload_n 0, 1) := by decide +kernel
theorem dX6_readTerm_49 : decode cX6_readTerm 49 = .ok (.iload_n 1, 1) := by decide +kernel
theorem dX6_readTerm_50 : decode cX6_readTerm 50 = .ok (.invokevirtual 73, 3) := by decide +kernel
theorem dX6_readTerm_53 : decode cX6_readTerm 53 = .ok (.ifCond .ne 5, 3) := by decide +kernel
theorem dX6_readTerm_56 : decode cX6_readTerm 56 = .ok (.iconst 0, 1) := by decide +kernel
theorem dX6_readTerm_57 : decode cX6_readTerm 57 = .ok (.ireturn, 1) := by decide +kernel
theorem dX6_readTerm_58 : decode cX6_readTerm 58 = .ok (.aload_n 0, 1) := by decide +kernel
theorem dX6_readTerm_59 : decode cX6_readTerm 59 = .ok (.getfield 14, 3) := by decide +kernel
theorem dX6_readTerm_62 : decode cX6_readTerm 62 = .ok (.iload_n 3, 1) := by decide +kernel
theorem dX6_readTerm_63 : decode cX6_readTerm 63 = .ok (.bipush 42, 2) := by decide +kernel
theorem dX6_readTerm_65 : decode cX6_readTerm 65 = .ok (.if_icmp .ne 8, 3) := by decide +kernel
theorem dX6_readTerm_68 : decode cX6_readTerm 68 = .ok (.bipush (-13), 2) := by decide +kernel
theorem dX6_readTerm_70 : decode cX6_readTerm 70 = .ok (.goto 5, 3) := by decide +kernel
theorem dX6_readTerm_73 : decode cX6_readTerm 73 = .ok (.bipush (-14), 2) := by decide +kernel
theorem dX6_readTerm_75 : decode cX6_readTerm 75 = .ok (.invokevirtual 35, 3) := by decide +kernel
theorem dX6_readTerm_78 : decode cX6_readTerm 78 = .ok (.iinc 2 1, 3) := by decide +kernel
theorem dX6_readTerm_81 : decode cX6_readTerm 81 = .ok (.goto (-69), 3) := by decide +kernel
theorem dX6_readTerm_84 : decode cX6_readTerm 84 = .ok (.iconst 0, 1) := by decide +kernel
theorem dX6_readTerm_85 : decode cX6_readTerm 85 = .ok (.ireturn, 1) := by decide +kernel
theorem dX6_readAtom_0 : decode cX6_readAtom 0 = .ok (.aload_n 0, 1) := by decide +kernel
theorem dX6_readAtom_1 : decode cX6_readAtom 1 = .ok (.invokevirtual 39, 3) := by decide +kernel
theorem dX6_readAtom_4 : decode cX6_readAtom 4 = .ok (.istore_n 2, 1) := by decide +kernel
theorem dX6_readAtom_5 : decode cX6_readAtom 5 = .ok (.iload_n 2, 1) := by decide +kernel
theorem dX6_readAtom_6 : decode cX6_readAtom 6 = .ok (.bipush 91, 2) := by decide +kernel
theorem dX6_readAtom_8 : decode cX6_readAtom 8 = .ok (.if_icmp .ne 36, 3) := by decide +kernel
theorem dX6_readAtom_11 : decode cX6_readAtom 11 = .ok (.aload_n 0, 1) := by decide +kernel
theorem dX6_readAtom_12 : decode cX6_readAtom 12 = .ok (.iload_n 1, 1) := by decide +kernel
theorem dX6_readAtom_13 : decode cX6_readAtom 13 = .ok (.invokevirtual 67, 3) := by decide +kernel
theorem dX6_readAtom_16 : decode cX6_readAtom 16 = .ok (.ifCond .eq 26, 3) := by decide +kernel
theorem dX6_readAtom_19 : decode cX6_readAtom 19 = .ok (.aload_n 0, 1) := by decide +kernel
theorem dX6_readAtom_20 : decode cX6_readAtom 20 = .ok (.iload_n 1, 1) := by decide +kernel
theorem dX6_readAtom_21 : decode cX6_readAtom 21 = .ok (.iconst 1, 1) := by decide +kernel
theorem dX6_readAtom_22 : decode cX6_readAtom 22 = .ok (.iadd, 1) := by decide +kernel
theorem dX6_readAtom_23 : decode cX6_readAtom 23 = .ok (.invokevirtual 49, 3) := by decide +kernel
theorem dX6_readAtom_26 : decode cX6_readAtom 26 = .ok (.ifCond .eq 16, 3) := by decide +kernel
theorem dX6_readAtom_29 : decode cX6_readAtom 29 = .ok (.aload_n 0, 1) := by decide +kernel
theorem dX6_readAtom_30 : decode cX6_readAtom 30 = .ok (.bipush 93, 2) := by decide +kernel
theorem dX6_readAtom_32 : decode cX6_readAtom 32 = .ok (.invokevirtual 27, 3) := by decide +kernel
theorem dX6_readAtom_35 : decode cX6_readAtom 35 = .ok (.ifCond .eq 7, 3) := by decide +kernel
theorem dX6_readAtom_38 : decode cX6_readAtom 38 = .ok (.iconst 1, 1) := by decide +kernel
theorem dX6_readAtom_39 : decode cX6_readAtom 39 = .ok (.goto 4, 3) := by decide +kernel
theorem dX6_readAtom_42 : decode cX6_readAtom 42 = .ok (.iconst 0, 1) := by decide +kernel
theorem dX6_readAtom_43 : decode cX6_readAtom 43 = .ok (.ireturn, 1) := by decide +kernel
theorem dX6_readAtom_44 : decode cX6_readAtom 44 = .ok (.iload_n 2, 1) := by decide +kernel
theorem dX6_readAtom_45 : decode cX6_readAtom 45 = .ok (.invokestatic 76, 3) := by decide +kernel
theorem dX6_readAtom_48 : decode cX6_readAtom 48 = .ok (.ifCond .eq 25, 3) := by decide +kernel
theorem dX6_readAtom_51 : decode cX6_readAtom 51 = .ok (.aload_n 0, 1) := by decide +kernel
theorem dX6_readAtom_52 : decode cX6_readAtom 52 = .ok (.iconst 4, 1) := by decide +kernel
theorem dX6_readAtom_53 : decode cX6_readAtom 53 = .ok (.invokevirtual 79, 3) := by decide +kernel
theorem dX6_readAtom_56 : decode cX6_readAtom 56 = .ok (.istore_n 3, 1) := by decide +kernel
theorem dX6_readAtom_57 : decode cX6_readAtom 57 = .ok (.iload_n 3, 1) := by decide +kernel
theorem dX6_readAtom_58 : decode cX6_readAtom 58 = .ok (.ifCond .ge 5, 3) := by decide +kernel
theorem dX6_readAtom_61 : decode cX6_readAtom 61 = .ok (.iconst 0, 1) := by decide +kernel
theorem dX6_readAtom_62 : decode cX6_readAtom 62 = .ok (.ireturn, 1) := by decide +kernel
theorem dX6_readAtom_63 : decode cX6_readAtom 63 = .ok (.aload_n 0, 1) := by decide +kernel
theorem dX6_readAtom_64 : decode cX6_readAtom 64 = .ok (.getfield 14, 3) := by decide +kernel
theorem dX6_readAtom_67 : decode cX6_readAtom 67 = .ok (.iload_n 3, 1) := by decide +kernel
theorem dX6_readAtom_68 : decode cX6_readAtom 68 = .ok (.invokevirtual 35, 3) := by decide +kernel
theorem dX6_readAtom_71 : decode cX6_readAtom 71 = .ok (.iconst 1, 1) := by decide +kernel
theorem dX6_readAtom_72 : decode cX6_readAtom 72 = .ok (.ireturn, 1) := by decide +kernel
theorem dX6_readAtom_73 : decode cX6_readAtom 73 = .ok (.iload_n 2, 1) := by decide +kernel
theorem dX6_readAtom_74 : decode cX6_readAtom 74 = .ok (.iconst (-1), 1) := by decide +kernel
theorem dX6_readAtom_75 : decode cX6_readAtom 75 = .ok (.if_icmp .ne 7, 3) := by decide +kernel
theorem dX6_readAtom_78 : decode cX6_readAtom 78 = .ok (.iconst (-1), 1) := by decide +kernel
theorem dX6_readAtom_79 : decode cX6_readAtom 79 = .ok (.goto 10, 3) := by decide +kernel
theorem dX6_readAtom_82 : decode cX6_readAtom 82 = .ok (.ldc 83, 2) := by decide +kernel
theorem dX6_readAtom_84 : decode cX6_readAtom 84 = .ok (.iload_n 2, 1) := by decide +kernel
theorem dX6_readAtom_85 : decode cX6_readAtom 85 = .ok (.i2c, 1) := by decide +kernel
theorem dX6_readAtom_86 : decode cX6_readAtom 86 = .ok (.invokevirtual 85, 3) := by decide +kernel
theorem dX6_readAtom_89 : decode cX6_readAtom 89 = .ok (.istore_n 3, 1) := by decide +kernel
theorem dX6_readAtom_90 : decode cX6_readAtom 90 = .ok (.iload_n 3, 1) := by decide +kernel
theorem dX6_readAtom_91 : decode cX6_readAtom 91 = .ok (.ifCond .ge 5, 3) := by decide +kernel
theorem dX6_readAtom_94 : decode cX6_readAtom 94 = .ok (.iconst 0, 1) := by decide +kernel
theorem dX6_readAtom_95 : decode cX6_readAtom 95 = .ok (.ireturn, 1) := by decide +kernel
theorem dX6_readAtom_96 : decode cX6_readAtom 96 = .ok (.aload_n 0, 1) := by decide +kernel
theorem dX6_readAtom_97 : decode cX6_readAtom 97 = .ok (.dup, 1) := by decide +kernel
theorem dX6_readAtom_98 : decode cX6_readAtom 98 = .ok (.getfield 20, 3) := by decide +kernel
theorem dX6_readAtom_101 : decode cX6_readAtom 101 = .ok (.iconst 1, 1) := by decide +kernel
theorem dX6_readAtom_102 : decode cX6_readAtom 102 = .ok (.iadd, 1) := by decide +kernel
theorem dX6_readAtom_103 : decode cX6_readAtom 103 = .ok (.putfield 20, 3) := by decide +kernel
theorem dX6_readAtom_106 : decode cX6_readAtom 106 = .ok (.aload_n 0, 1) := by decide +kernel
theorem dX6_readAtom_107 : decode cX6_readAtom 107 = .ok (.getfield 14, 3) := by decide +kernel
theorem dX6_readAtom_110 : decode cX6_readAtom 110 = .ok (.iconst (-1), 1) := by decide +kernel
theorem dX6_readAtom_111 : decode cX6_readAtom 111 = .ok (.iload_n 3, 1) := by decide +kernel
theorem dX6_readAtom_112 : decode cX6_readAtom 112 = .ok (.isub, 1) := by decide +kernel
theorem dX6_readAtom_113 : decode cX6_readAtom 113 = .ok (.invokevirtual 35, 3) := by decide +kernel
theorem dX6_readAtom_116 : decode cX6_readAtom 116 = .ok (.iconst 1, 1) := by decide +kernel
theorem dX6_readAtom_117 : decode cX6_readAtom 117 = .ok (.ireturn, 1) := by decide +kernel
theorem dX7_init_0 : decode cX7_init 0 = .ok (.aload_n 0, 1) := by decide +kernel
theorem dX7_init_1 : decode cX7_init 1 = .ok (.invokespecial 3, 3) := by decide +kernel
theorem dX7_init_4 : decode cX7_init 4 = .ok (.aload_n 0, 1) := by decide +kernel
theorem dX7_init_5 : decode cX7_init 5 = .ok (.bipush 8, 2) := by decide +kernel
theorem dX7_init_7 : decode cX7_init 7 = .ok (.newarray .int, 2) := by decide +kernel
theorem dX7_init_9 : decode cX7_init 9 = .ok (.putfield 9, 3) := by decide +kernel
theorem dX7_init_12 : decode cX7_init 12 = .ok (.aload_n 0, 1) := by decide +kernel
theorem dX7_init_13 : decode cX7_init 13 = .ok (.bipush 8, 2) := by decide +kernel
theorem dX7_init_15 : decode cX7_init 15 = .ok (.newarray .int, 2) := by decide +kernel
theorem dX7_init_17 : decode cX7_init 17 = .ok (.putfield 15, 3) := by decide +kernel
theorem dX7_init_20 : decode cX7_init 20 = .ok (.aload_n 0, 1) := by decide +kernel
theorem dX7_init_21 : decode cX7_init 21 = .ok (.bipush 48, 2) := by decide +kernel
theorem dX7_init_23 : decode cX7_init 23 = .ok (.newarray .int, 2) := by decide +kernel
theorem dX7_init_25 : decode cX7_init 25 = .ok (.putfield 18, 3) := by decide +kernel
theorem dX7_init_28 : decode cX7_init 28 = .ok (.aload_n 0, 1) := by decide +kernel
theorem dX7_init_29 : decode cX7_init 29 = .ok (.bipush 60, 2) := by decide +kernel
theorem dX7_init_31 : decode cX7_init 31 = .ok (.newarray .int, 2) := by decide +kernel
theorem dX7_init_33 : decode cX7_init 33 = .ok (.putfield 21, 3) := by decide +kernel
theorem dX7_init_36 : decode cX7_init 36 = .ok (.return_, 1) := by decide +kernel
theorem dX7_letterIn_0 : decode cX7_letterIn 0 = .ok (.iload_n 0, 1) := by decide +kernel
theorem dX7_letterIn_1 : decode cX7_letterIn 1 = .ok (.bipush 15, 2) := by decide +kernel
theorem dX7_letterIn_3 : decode cX7_letterIn 3 = .ok (.iand, 1) := by decide +kernel
theorem dX7_letterIn_4 : decode cX7_letterIn 4 = .ok (.ireturn, 1) := by decide +kernel
theorem dX7_placeIn_0 : decode cX7_placeIn 0 = .ok (.iload_n 0, 1) := by decide +kernel
theorem dX7_placeIn_1 : decode cX7_placeIn 1 = .ok (.iconst 1, 1) := by decide +kernel
theorem dX7_placeIn_2 : decode cX7_placeIn 2 = .ok (.ishr, 1) := by decide +kernel
theorem dX7_placeIn_3 : decode cX7_placeIn 3 = .ok (.bipush 7, 2) := by decide +kernel
theorem dX7_placeIn_5 : decode cX7_placeIn 5 = .ok (.iand, 1) := by decide +kernel
theorem dX7_placeIn_6 : decode cX7_placeIn 6 = .ok (.ireturn, 1) := by decide +kernel
theorem dX7_overIn_0 : decode cX7_overIn 0 = .ok (.iload_n 0, 1) := by decide +kernel
theorem dX7_overIn_1 : decode cX7_overIn 1 = .ok (.iconst 4, 1) := by decide +kernel
theorem dX7_overIn_2 : decode cX7_overIn 2 = .ok (.ishr, 1) := by decide +kernel
theorem dX7_overIn_3 : decode cX7_overIn 3 = .ok (.bipush 7, 2) := by decide +kernel
theorem dX7_overIn_5 : decode cX7_overIn 5 = .ok (.iand, 1) := by decide +kernel
theorem dX7_overIn_6 : decode cX7_overIn 6 = .ok (.ireturn, 1) := by decide +kernel
theorem dX7_underIn_0 : decode cX7_underIn 0 = .ok (.iload_n 0, 1) := by decide +kernel
theorem dX7_underIn_1 : decode cX7_underIn 1 = .ok (.bipush 7, 2) := by decide +kernel
theorem dX7_underIn_3 : decode cX7_underIn 3 = .ok (.ishr, 1) := by decide +kernel
theorem dX7_underIn_4 : decode cX7_underIn 4 = .ok (.bipush 7, 2) := by decide +kernel
theorem dX7_underIn_6 : decode cX7_underIn 6 = .ok (.iand, 1) := by decide +kernel
theorem dX7_underIn_7 : decode cX7_underIn 7 = .ok (.ireturn, 1) := by decide +kernel
theorem dX7_tookIn_0 : decode cX7_tookIn 0 = .ok (.iload_n 0, 1) := by decide +kernel
theorem dX7_tookIn_1 : decode cX7_tookIn 1 = .ok (.bipush 10, 2) := by decide +kernel
theorem dX7_tookIn_3 : decode cX7_tookIn 3 = .ok (.ishr, 1) := by decide +kernel
theorem dX7_tookIn_4 : decode cX7_tookIn 4 = .ok (.bipush 15, 2) := by decide +kernel
theorem dX7_tookIn_6 : decode cX7_tookIn 6 = .ok (.iand, 1) := by decide +kernel
theorem dX7_tookIn_7 : decode cX7_tookIn 7 = .ok (.ireturn, 1) := by decide +kernel
theorem dX7_layerIn_0 : decode cX7_layerIn 0 = .ok (.iload_n 0, 1) := by decide +kernel
theorem dX7_layerIn_1 : decode cX7_layerIn 1 = .ok (.bipush 14, 2) := by decide +kernel
theorem dX7_layerIn_3 : decode cX7_layerIn 3 = .ok (.ishr, 1) := by decide +kernel
theorem dX7_layerIn_4 : decode cX7_layerIn 4 = .ok (.bipush 63, 2) := by decide +kernel
theorem dX7_layerIn_6 : decode cX7_layerIn 6 = .ok (.iand, 1) := by decide +kernel
theorem dX7_layerIn_7 : decode cX7_layerIn 7 = .ok (.ireturn, 1) := by decide +kernel
theorem dX7_beginAs_0 : decode cX7_beginAs 0 = .ok (.aload_n 0, 1) := by decide +kernel
theorem dX7_beginAs_1 : decode cX7_beginAs 1 = .ok (.aload_n 1, 1) := by decide +kernel
theorem dX7_beginAs_2 : decode cX7_beginAs 2 = .ok (.getfield 24, 3) := by decide +kernel
theorem dX7_beginAs_5 : decode cX7_beginAs 5 = .ok (.putfield 30, 3) := by decide +kernel
theorem dX7_beginAs_8 : decode cX7_beginAs 8 = .ok (.aload_n 0, 1) := by decide +kernel
theorem dX7_beginAs_9 : decode cX7_beginAs 9 = .ok (.iconst 0, 1) := by decide +kernel
theorem dX7_beginAs_10 : decode cX7_beginAs 10 = .ok (.putfield 33, 3) := by decide +kernel
theorem dX7_beginAs_13 : decode cX7_beginAs 13 = .ok (.aload_n 0, 1) := by decide +kernel
theorem dX7_beginAs_14 : decode cX7_beginAs 14 = .ok (.aload_n 1, 1) := by decide +kernel
theorem dX7_beginAs_15 : decode cX7_beginAs 15 = .ok (.invokevirtual 36, 3) := by decide +kernel
theorem dX7_beginAs_18 : decode cX7_beginAs 18 = .ok (.putfield 40, 3) := by decide +kernel
theorem dX7_beginAs_21 : decode cX7_beginAs 21 = .ok (.aload_n 0, 1) := by decide +kernel
theorem dX7_beginAs_22 : decode cX7_beginAs 22 = .ok (.iconst 0, 1) := by decide +kernel
theorem dX7_beginAs_23 : decode cX7_beginAs 23 = .ok (.putfield 43, 3) := by decide +kernel
theorem dX7_beginAs_26 : decode cX7_beginAs 26 = .ok (.iconst 0, 1) := by decide +kernel
theorem dX7_beginAs_27 : decode cX7_beginAs 27 = .ok (.istore_n 2, 1) := by decide +kernel
theorem dX7_beginAs_28 : decode cX7_beginAs 28 = .ok (.iload_n 2, 1) := by decide +kernel
theorem dX7_beginAs_29 : decode cX7_beginAs 29 = .ok (.bipush 8, 2) := by decide +kernel
theorem dX7_beginAs_31 : decode cX7_beginAs 31 = .ok (.if_icmp .ge 28, 3) := by decide +kernel
theorem dX7_beginAs_34 : decode cX7_beginAs 34 = .ok (.aload_n 0, 1) := by decide +kernel
theorem dX7_beginAs_35 : decode cX7_beginAs 35 = .ok (.getfield 9, 3) := by decide +kernel
theorem dX7_beginAs_38 : decode cX7_beginAs 38 = .ok (.iload_n 2, 1) := by decide +kernel
theorem dX7_beginAs_39 : decode cX7_beginAs 39 = .ok (.iload_n 2, 1) := by decide +kernel
theorem dX7_beginAs_40 : decode cX7_beginAs 40 = .ok (.iastore, 1) := by decide +kernel
theorem dX7_beginAs_41 : decode cX7_beginAs 41 = .ok (.aload_n 0, 1) := by decide +kernel
theorem dX7_beginAs_42 : decode cX7_beginAs 42 = .ok (.getfield 15, 3) := by decide +kernel
theorem dX7_beginAs_45 : decode cX7_beginAs 45 = .ok (.iload_n 2, 1) := by decide +kernel
theorem dX7_beginAs_46 : decode cX7_beginAs 46 = .ok (.aload_n 1, 1) := by decide +kernel
theorem dX7_beginAs_47 : decode cX7_beginAs 47 = .ok (.iload_n 2, 1) := by decide +kernel
theorem dX7_beginAs_48 : decode cX7_beginAs 48 = .ok (.iconst 1, 1) := by decide +kernel
theorem dX7_beginAs_49 : decode cX7_beginAs 49 = .ok (.invokevirtual 46, 3) := by decide +kernel
theorem dX7_beginAs_52 : decode cX7_beginAs 52 = .ok (.iastore, 1) := by decide +kernel
theorem dX7_beginAs_53 : decode cX7_beginAs 53 = .ok (.iinc 2 1, 3) := by decide +kernel
theorem dX7_beginAs_56 : decode cX7_beginAs 56 = .ok (.goto (-28), 3) := by decide +kernel
theorem dX7_beginAs_59 : decode cX7_beginAs 59 = .ok (.return_, 1) := by decide +kernel
theorem dX7_standAs_0 : decode cX7_standAs 0 = .ok (.aload_n 0, 1) := by decide +kernel
theorem dX7_standAs_1 : decode cX7_standAs 1 = .ok (.aload_n 1, 1) := by decide +kernel
theorem dX7_standAs_2 : decode cX7_standAs 2 = .ok (.getfield 30, 3) := by decide +kernel
theorem dX7_standAs_5 : decode cX7_standAs 5 = .ok (.putfield 30, 3) := by decide +kernel
theorem dX7_standAs_8 : decode cX7_standAs 8 = .ok (.aload_n 0, 1) := by decide +kernel
theorem dX7_standAs_9 : decode cX7_standAs 9 = .ok (.aload_n 1, 1) := by decide +kernel
theorem dX7_standAs_10 : decode cX7_standAs 10 = .ok (.getfield 33, 3) := by decide +kernel
theorem dX7_standAs_13 : decode cX7_standAs 13 = .ok (.putfield 33, 3) := by decide +kernel
theorem dX7_standAs_16 : decode cX7_standAs 16 = .ok (.aload_n 0, 1) := by decide +kernel
theorem dX7_standAs_17 : decode cX7_standAs 17 = .ok (.aload_n 1, 1) := by decide +kernel
theorem dX7_standAs_18 : decode cX7_standAs 18 = .ok (.getfield 40, 3) := by decide +kernel
theorem dX7_standAs_21 : decode cX7_standAs 21 = .ok (.putfield 40, 3) := by decide +kernel
theorem dX7_standAs_24 : decode cX7_standAs 24 = .ok (.aload_n 0, 1) := by decide +kernel
theorem dX7_standAs_25 : decode cX7_standAs 25 = .ok (.aload_n 1, 1) := by decide +kernel
theorem dX7_standAs_26 : decode cX7_standAs 26 = .ok (.getfield 43, 3) := by decide +kernel
theorem dX7_standAs_29 : decode cX7_standAs 29 = .ok (.putfield 43, 3) := by decide +kernel
theorem dX7_standAs_32 : decode cX7_standAs 32 = .ok (.aload_n 1, 1) := by decide +kernel
theorem dX7_standAs_33 : decode cX7_standAs 33 = .ok (.getfield 9, 3) := by decide +kernel
theorem dX7_standAs_36 : decode cX7_standAs 36 = .ok (.iconst 0, 1) := by decide +kernel
theorem dX7_standAs_37 : decode cX7_standAs 37 = .ok (.aload_n 0, 1) := by decide +kernel
theorem dX7_standAs_38 : decode cX7_standAs 38 = .ok (.getfield 9, 3) := by decide +kernel
theorem dX7_standAs_41 : decode cX7_standAs 41 = .ok (.iconst 0, 1) := by decide +kernel
theorem dX7_standAs_42 : decode cX7_standAs 42 = .ok (.bipush 8, 2) := by decide +kernel
theorem dX7_standAs_44 : decode cX7_standAs 44 = .ok (.invokestatic 50, 3) := by decide +kernel
theorem dX7_standAs_47 : decode cX7_standAs 47 = .ok (.aload_n 1, 1) := by decide +kernel
theorem dX7_standAs_48 : decode cX7_standAs 48 = .ok (.getfield 15, 3) := by decide +kernel
theorem dX7_standAs_51 : decode cX7_standAs 51 = .ok (.iconst 0, 1) := by decide +kernel
theorem dX7_standAs_52 : decode cX7_standAs 52 = .ok (.aload_n 0, 1) := by decide +kernel
theorem dX7_standAs_53 : decode cX7_standAs 53 = .ok (.getfield 15, 3) := by decide +kernel
theorem dX7_standAs_56 : decode cX7_standAs 56 = .ok (.iconst 0, 1) := by decide +kernel
theorem dX7_standAs_57 : decode cX7_standAs 57 = .ok (.bipush 8, 2) := by decide +kernel
theorem dX7_standAs_59 : decode cX7_standAs 59 = .ok (.invokestatic 50, 3) := by decide +kernel
theorem dX7_standAs_62 : decode cX7_standAs 62 = .ok (.aload_n 1, 1) := by decide +kernel
theorem dX7_standAs_63 : decode cX7_standAs 63 = .ok (.getfield 18, 3) := by decide +kernel
theorem dX7_standAs_66 : decode cX7_standAs 66 = .ok (.iconst 0, 1) := by decide +kernel
theorem dX7_standAs_67 : decode cX7_standAs 67 = .ok (.aload_n 0, 1) := by decide +kernel
theorem dX7_standAs_68 : decode cX7_standAs 68 = .ok (.getfield 18, 3) := by decide +kernel
theorem dX7_standAs_71 : decode cX7_standAs 71 = .ok (.iconst 0, 1) := by decide +kernel
theorem dX7_standAs_72 : decode cX7_standAs 72 = .ok (.bipush 48, 2) := by decide +kernel
theorem dX7_standAs_74 : decode cX7_standAs 74 = .ok (.invokestatic 50, 3) := by decide +kernel
theorem dX7_standAs_77 : decode cX7_standAs 77 = .ok (.return_, 1) := by decide +kernel
theorem dX7_copyFrom_0 : decode cX7_copyFrom 0 = .ok (.aload_n 0, 1) := by decide +kernel
theorem dX7_copyFrom_1 : decode cX7_copyFrom 1 = .ok (.aload_n 1, 1) := by decide +kernel
theorem dX7_copyFrom_2 : decode cX7_copyFrom 2 = .ok (.invokevirtual 56, 3) := by decide +kernel
theorem dX7_copyFrom_5 : decode cX7_copyFrom 5 = .ok (.aload_n 1, 1) := by decide +kernel
theorem dX7_copyFrom_6 : decode cX7_copyFrom 6 = .ok (.getfield 21, 3) := by decide +kernel
theorem dX7_copyFrom_9 : decode cX7_copyFrom 9 = .ok (.iconst 0, 1) := by decide +kernel
theorem dX7_copyFrom_10 : decode cX7_copyFrom 10 = .ok (.aload_n 0, 1) := by decide +kernel
theorem dX7_copyFrom_11 : decode cX7_copyFrom 11 = .ok (.getfield 21, 3) := by decide +kernel
theorem dX7_copyFrom_14 : decode cX7_copyFrom 14 = .ok (.iconst 0, 1) := by decide +kernel
