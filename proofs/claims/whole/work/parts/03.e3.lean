theorem dX12_stripe_16 : decode cX12_stripe 16 = .ok (.aload_n 0, 1) := by decide +kernel
theorem dX12_stripe_17 : decode cX12_stripe 17 = .ok (.iload_n 2, 1) := by decide +kernel
theorem dX12_stripe_18 : decode cX12_stripe 18 = .ok (.iconst 0, 1) := by decide +kernel
theorem dX12_stripe_19 : decode cX12_stripe 19 = .ok (.invokevirtual 286, 3) := by decide +kernel
theorem dX12_stripe_22 : decode cX12_stripe 22 = .ok (.ireturn, 1) := by decide +kernel
theorem dX12_gameOf_0 : decode cX12_gameOf 0 = .ok (.iload_n 2, 1) := by decide +kernel
theorem dX12_gameOf_1 : decode cX12_gameOf 1 = .ok (.iconst 2, 1) := by decide +kernel
theorem dX12_gameOf_2 : decode cX12_gameOf 2 = .ok (.if_icmp .eq 8, 3) := by decide +kernel
theorem dX12_gameOf_5 : decode cX12_gameOf 5 = .ok (.iload_n 3, 1) := by decide +kernel
theorem dX12_gameOf_6 : decode cX12_gameOf 6 = .ok (.iconst 2, 1) := by decide +kernel
theorem dX12_gameOf_7 : decode cX12_gameOf 7 = .ok (.if_icmp .ne 5, 3) := by decide +kernel
theorem dX12_gameOf_10 : decode cX12_gameOf 10 = .ok (.iconst 0, 1) := by decide +kernel
theorem dX12_gameOf_11 : decode cX12_gameOf 11 = .ok (.ireturn, 1) := by decide +kernel
theorem dX12_gameOf_12 : decode cX12_gameOf 12 = .ok (.iload_n 2, 1) := by decide +kernel
theorem dX12_gameOf_13 : decode cX12_gameOf 13 = .ok (.iload_n 3, 1) := by decide +kernel
theorem dX12_gameOf_14 : decode cX12_gameOf 14 = .ok (.if_icmp .ne 14, 3) := by decide +kernel
theorem dX12_gameOf_17 : decode cX12_gameOf 17 = .ok (.iload_n 2, 1) := by decide +kernel
theorem dX12_gameOf_18 : decode cX12_gameOf 18 = .ok (.ifCond .ne 8, 3) := by decide +kernel
theorem dX12_gameOf_21 : decode cX12_gameOf 21 = .ok (.bipush (-2), 2) := by decide +kernel
theorem dX12_gameOf_23 : decode cX12_gameOf 23 = .ok (.goto 4, 3) := by decide +kernel
theorem dX12_gameOf_26 : decode cX12_gameOf 26 = .ok (.iconst (-1), 1) := by decide +kernel
theorem dX12_gameOf_27 : decode cX12_gameOf 27 = .ok (.ireturn, 1) := by decide +kernel
theorem dX12_gameOf_28 : decode cX12_gameOf 28 = .ok (.iconst 2, 1) := by decide +kernel
theorem dX12_gameOf_29 : decode cX12_gameOf 29 = .ok (.iload_n 1, 1) := by decide +kernel
theorem dX12_gameOf_30 : decode cX12_gameOf 30 = .ok (.imul, 1) := by decide +kernel
theorem dX12_gameOf_31 : decode cX12_gameOf 31 = .ok (.iload_n 2, 1) := by decide +kernel
theorem dX12_gameOf_32 : decode cX12_gameOf 32 = .ok (.iadd, 1) := by decide +kernel
theorem dX12_gameOf_33 : decode cX12_gameOf 33 = .ok (.istore 5, 2) := by decide +kernel
theorem dX12_gameOf_35 : decode cX12_gameOf 35 = .ok (.aload_n 0, 1) := by decide +kernel
theorem dX12_gameOf_36 : decode cX12_gameOf 36 = .ok (.iload 5, 2) := by decide +kernel
theorem dX12_gameOf_38 : decode cX12_gameOf 38 = .ok (.invokevirtual 370, 3) := by decide +kernel
theorem dX12_gameOf_41 : decode cX12_gameOf 41 = .ok (.ifCond .ne 6, 3) := by decide +kernel
theorem dX12_gameOf_44 : decode cX12_gameOf 44 = .ok (.bipush (-3), 2) := by decide +kernel
theorem dX12_gameOf_46 : decode cX12_gameOf 46 = .ok (.ireturn, 1) := by decide +kernel
theorem dX12_gameOf_47 : decode cX12_gameOf 47 = .ok (.aload_n 0, 1) := by decide +kernel
theorem dX12_gameOf_48 : decode cX12_gameOf 48 = .ok (.iload 5, 2) := by decide +kernel
theorem dX12_gameOf_50 : decode cX12_gameOf 50 = .ok (.invokevirtual 340, 3) := by decide +kernel
theorem dX12_gameOf_53 : decode cX12_gameOf 53 = .ok (.iconst (-1), 1) := by decide +kernel
theorem dX12_gameOf_54 : decode cX12_gameOf 54 = .ok (.if_icmp .eq 5, 3) := by decide +kernel
theorem dX12_gameOf_57 : decode cX12_gameOf 57 = .ok (.iconst 4, 1) := by decide +kernel
theorem dX12_gameOf_58 : decode cX12_gameOf 58 = .ok (.ireturn, 1) := by decide +kernel
theorem dX12_gameOf_59 : decode cX12_gameOf 59 = .ok (.iload 4, 2) := by decide +kernel
theorem dX12_gameOf_61 : decode cX12_gameOf 61 = .ok (.ifCond .ne 7, 3) := by decide +kernel
theorem dX12_gameOf_64 : decode cX12_gameOf 64 = .ok (.iload_n 2, 1) := by decide +kernel
theorem dX12_gameOf_65 : decode cX12_gameOf 65 = .ok (.goto 4, 3) := by decide +kernel
theorem dX12_gameOf_68 : decode cX12_gameOf 68 = .ok (.iload_n 3, 1) := by decide +kernel
theorem dX12_gameOf_69 : decode cX12_gameOf 69 = .ok (.ifCond .ne 8, 3) := by decide +kernel
theorem dX12_gameOf_72 : decode cX12_gameOf 72 = .ok (.bipush 6, 2) := by decide +kernel
theorem dX12_gameOf_74 : decode cX12_gameOf 74 = .ok (.goto 4, 3) := by decide +kernel
theorem dX12_gameOf_77 : decode cX12_gameOf 77 = .ok (.iconst 5, 1) := by decide +kernel
theorem dX12_gameOf_78 : decode cX12_gameOf 78 = .ok (.aload_n 0, 1) := by decide +kernel
theorem dX12_gameOf_79 : decode cX12_gameOf 79 = .ok (.iload 5, 2) := by decide +kernel
theorem dX12_gameOf_81 : decode cX12_gameOf 81 = .ok (.invokevirtual 337, 3) := by decide +kernel
theorem dX12_gameOf_84 : decode cX12_gameOf 84 = .ok (.isub, 1) := by decide +kernel
theorem dX12_gameOf_85 : decode cX12_gameOf 85 = .ok (.ireturn, 1) := by decide +kernel
theorem dX12_game_0 : decode cX12_game 0 = .ok (.aload_n 0, 1) := by decide +kernel
theorem dX12_game_1 : decode cX12_game 1 = .ok (.iload_n 1, 1) := by decide +kernel
theorem dX12_game_2 : decode cX12_game 2 = .ok (.invokevirtual 373, 3) := by decide +kernel
theorem dX12_game_5 : decode cX12_game 5 = .ok (.ifCond .eq 43, 3) := by decide +kernel
theorem dX12_game_8 : decode cX12_game 8 = .ok (.iload_n 2, 1) := by decide +kernel
theorem dX12_game_9 : decode cX12_game 9 = .ok (.iconst 0, 1) := by decide +kernel
theorem dX12_game_10 : decode cX12_game 10 = .ok (.iconst 2, 1) := by decide +kernel
theorem dX12_game_11 : decode cX12_game 11 = .ok (.invokestatic 229, 3) := by decide +kernel
theorem dX12_game_14 : decode cX12_game 14 = .ok (.ifCond .eq 34, 3) := by decide +kernel
theorem dX12_game_17 : decode cX12_game 17 = .ok (.iload_n 3, 1) := by decide +kernel
theorem dX12_game_18 : decode cX12_game 18 = .ok (.iconst 0, 1) := by decide +kernel
theorem dX12_game_19 : decode cX12_game 19 = .ok (.iconst 2, 1) := by decide +kernel
theorem dX12_game_20 : decode cX12_game 20 = .ok (.invokestatic 229, 3) := by decide +kernel
theorem dX12_game_23 : decode cX12_game 23 = .ok (.ifCond .eq 25, 3) := by decide +kernel
theorem dX12_game_26 : decode cX12_game 26 = .ok (.iload 4, 2) := by decide +kernel
theorem dX12_game_28 : decode cX12_game 28 = .ok (.iconst 0, 1) := by decide +kernel
theorem dX12_game_29 : decode cX12_game 29 = .ok (.iconst 1, 1) := by decide +kernel
theorem dX12_game_30 : decode cX12_game 30 = .ok (.invokestatic 229, 3) := by decide +kernel
theorem dX12_game_33 : decode cX12_game 33 = .ok (.ifCond .eq 15, 3) := by decide +kernel
theorem dX12_game_36 : decode cX12_game 36 = .ok (.aload_n 0, 1) := by decide +kernel
theorem dX12_game_37 : decode cX12_game 37 = .ok (.iload_n 1, 1) := by decide +kernel
theorem dX12_game_38 : decode cX12_game 38 = .ok (.iload_n 2, 1) := by decide +kernel
theorem dX12_game_39 : decode cX12_game 39 = .ok (.iload_n 3, 1) := by decide +kernel
theorem dX12_game_40 : decode cX12_game 40 = .ok (.iload 4, 2) := by decide +kernel
theorem dX12_game_42 : decode cX12_game 42 = .ok (.invokevirtual 492, 3) := by decide +kernel
theorem dX12_game_45 : decode cX12_game 45 = .ok (.goto 6, 3) := by decide +kernel
theorem dX12_game_48 : decode cX12_game 48 = .ok (.ldc_w 433, 3) := by decide +kernel
theorem dX12_game_51 : decode cX12_game 51 = .ok (.ireturn, 1) := by decide +kernel
theorem dX12_isRest_0 : decode cX12_isRest 0 = .ok (.iconst 0, 1) := by decide +kernel
theorem dX12_isRest_1 : decode cX12_isRest 1 = .ok (.istore 4, 2) := by decide +kernel
theorem dX12_isRest_3 : decode cX12_isRest 3 = .ok (.iload 4, 2) := by decide +kernel
theorem dX12_isRest_5 : decode cX12_isRest 5 = .ok (.iconst 3, 1) := by decide +kernel
theorem dX12_isRest_6 : decode cX12_isRest 6 = .ok (.if_icmp .ge 51, 3) := by decide +kernel
theorem dX12_isRest_9 : decode cX12_isRest 9 = .ok (.aload_n 0, 1) := by decide +kernel
theorem dX12_isRest_10 : decode cX12_isRest 10 = .ok (.iload_n 1, 1) := by decide +kernel
theorem dX12_isRest_11 : decode cX12_isRest 11 = .ok (.iload 4, 2) := by decide +kernel
theorem dX12_isRest_13 : decode cX12_isRest 13 = .ok (.iload_n 3, 1) := by decide +kernel
theorem dX12_isRest_14 : decode cX12_isRest 14 = .ok (.iconst 0, 1) := by decide +kernel
theorem dX12_isRest_15 : decode cX12_isRest 15 = .ok (.invokevirtual 492, 3) := by decide +kernel
theorem dX12_isRest_18 : decode cX12_isRest 18 = .ok (.aload_n 0, 1) := by decide +kernel
theorem dX12_isRest_19 : decode cX12_isRest 19 = .ok (.iload_n 1, 1) := by decide +kernel
theorem dX12_isRest_20 : decode cX12_isRest 20 = .ok (.iload_n 2, 1) := by decide +kernel
theorem dX12_isRest_21 : decode cX12_isRest 21 = .ok (.iload_n 3, 1) := by decide +kernel
theorem dX12_isRest_22 : decode cX12_isRest 22 = .ok (.iconst 0, 1) := by decide +kernel
theorem dX12_isRest_23 : decode cX12_isRest 23 = .ok (.invokevirtual 492, 3) := by decide +kernel
theorem dX12_isRest_26 : decode cX12_isRest 26 = .ok (.if_icmp .gt 23, 3) := by decide +kernel
theorem dX12_isRest_29 : decode cX12_isRest 29 = .ok (.aload_n 0, 1) := by decide +kernel
theorem dX12_isRest_30 : decode cX12_isRest 30 = .ok (.iload_n 1, 1) := by decide +kernel
theorem dX12_isRest_31 : decode cX12_isRest 31 = .ok (.iload_n 2, 1) := by decide +kernel
theorem dX12_isRest_32 : decode cX12_isRest 32 = .ok (.iload 4, 2) := by decide +kernel
theorem dX12_isRest_34 : decode cX12_isRest 34 = .ok (.iconst 1, 1) := by decide +kernel
theorem dX12_isRest_35 : decode cX12_isRest 35 = .ok (.invokevirtual 492, 3) := by decide +kernel
theorem dX12_isRest_38 : decode cX12_isRest 38 = .ok (.aload_n 0, 1) := by decide +kernel
theorem dX12_isRest_39 : decode cX12_isRest 39 = .ok (.iload_n 1, 1) := by decide +kernel
theorem dX12_isRest_40 : decode cX12_isRest 40 = .ok (.iload_n 2, 1) := by decide +kernel
theorem dX12_isRest_41 : decode cX12_isRest 41 = .ok (.iload_n 3, 1) := by decide +kernel
theorem dX12_isRest_42 : decode cX12_isRest 42 = .ok (.iconst 1, 1) := by decide +kernel
theorem dX12_isRest_43 : decode cX12_isRest 43 = .ok (.invokevirtual 492, 3) := by decide +kernel
theorem dX12_isRest_46 : decode cX12_isRest 46 = .ok (.if_icmp .le 5, 3) := by decide +kernel
theorem dX12_isRest_49 : decode cX12_isRest 49 = .ok (.iconst 0, 1) := by decide +kernel
theorem dX12_isRest_50 : decode cX12_isRest 50 = .ok (.ireturn, 1) := by decide +kernel
theorem dX12_isRest_51 : decode cX12_isRest 51 = .ok (.iinc 4 1, 3) := by decide +kernel
theorem dX12_isRest_54 : decode cX12_isRest 54 = .ok (.goto (-51), 3) := by decide +kernel
theorem dX12_isRest_57 : decode cX12_isRest 57 = .ok (.iconst 1, 1) := by decide +kernel
theorem dX12_isRest_58 : decode cX12_isRest 58 = .ok (.ireturn, 1) := by decide +kernel
theorem dX12_rests_0 : decode cX12_rests 0 = .ok (.aload_n 0, 1) := by decide +kernel
theorem dX12_rests_1 : decode cX12_rests 1 = .ok (.iload_n 1, 1) := by decide +kernel
theorem dX12_rests_2 : decode cX12_rests 2 = .ok (.invokevirtual 373, 3) := by decide +kernel
theorem dX12_rests_5 : decode cX12_rests 5 = .ok (.ifCond .eq 8, 3) := by decide +kernel
theorem dX12_rests_8 : decode cX12_rests 8 = .ok (.iload_n 2, 1) := by decide +kernel
theorem dX12_rests_9 : decode cX12_rests 9 = .ok (.iconst (-1), 1) := by decide +kernel
theorem dX12_rests_10 : decode cX12_rests 10 = .ok (.if_icmp .ge 5, 3) := by decide +kernel
theorem dX12_rests_13 : decode cX12_rests 13 = .ok (.iconst (-1), 1) := by decide +kernel
theorem dX12_rests_14 : decode cX12_rests 14 = .ok (.ireturn, 1) := by decide +kernel
theorem dX12_rests_15 : decode cX12_rests 15 = .ok (.iconst 0, 1) := by decide +kernel
theorem dX12_rests_16 : decode cX12_rests 16 = .ok (.istore_n 3, 1) := by decide +kernel
theorem dX12_rests_17 : decode cX12_rests 17 = .ok (.iconst 0, 1) := by decide +kernel
theorem dX12_rests_18 : decode cX12_rests 18 = .ok (.istore 4, 2) := by decide +kernel
theorem dX12_rests_20 : decode cX12_rests 20 = .ok (.iload 4, 2) := by decide +kernel
theorem dX12_rests_22 : decode cX12_rests 22 = .ok (.bipush 9, 2) := by decide +kernel
theorem dX12_rests_24 : decode cX12_rests 24 = .ok (.if_icmp .ge 46, 3) := by decide +kernel
theorem dX12_rests_27 : decode cX12_rests 27 = .ok (.aload_n 0, 1) := by decide +kernel
theorem dX12_rests_28 : decode cX12_rests 28 = .ok (.iload_n 1, 1) := by decide +kernel
theorem dX12_rests_29 : decode cX12_rests 29 = .ok (.iload 4, 2) := by decide +kernel
theorem dX12_rests_31 : decode cX12_rests 31 = .ok (.iconst 3, 1) := by decide +kernel
theorem dX12_rests_32 : decode cX12_rests 32 = .ok (.idiv, 1) := by decide +kernel
theorem dX12_rests_33 : decode cX12_rests 33 = .ok (.iload 4, 2) := by decide +kernel
theorem dX12_rests_35 : decode cX12_rests 35 = .ok (.iconst 3, 1) := by decide +kernel
theorem dX12_rests_36 : decode cX12_rests 36 = .ok (.irem, 1) := by decide +kernel
theorem dX12_rests_37 : decode cX12_rests 37 = .ok (.invokevirtual 496, 3) := by decide +kernel
theorem dX12_rests_40 : decode cX12_rests 40 = .ok (.ifCond .eq 24, 3) := by decide +kernel
theorem dX12_rests_43 : decode cX12_rests 43 = .ok (.iload_n 3, 1) := by decide +kernel
theorem dX12_rests_44 : decode cX12_rests 44 = .ok (.iload_n 2, 1) := by decide +kernel
theorem dX12_rests_45 : decode cX12_rests 45 = .ok (.if_icmp .ne 16, 3) := by decide +kernel
theorem dX12_rests_48 : decode cX12_rests 48 = .ok (.bipush 10, 2) := by decide +kernel
theorem dX12_rests_50 : decode cX12_rests 50 = .ok (.iload 4, 2) := by decide +kernel
theorem dX12_rests_52 : decode cX12_rests 52 = .ok (.iconst 3, 1) := by decide +kernel
theorem dX12_rests_53 : decode cX12_rests 53 = .ok (.idiv, 1) := by decide +kernel
theorem dX12_rests_54 : decode cX12_rests 54 = .ok (.imul, 1) := by decide +kernel
theorem dX12_rests_55 : decode cX12_rests 55 = .ok (.iload 4, 2) := by decide +kernel
theorem dX12_rests_57 : decode cX12_rests 57 = .ok (.iconst 3, 1) := by decide +kernel
theorem dX12_rests_58 : decode cX12_rests 58 = .ok (.irem, 1) := by decide +kernel
theorem dX12_rests_59 : decode cX12_rests 59 = .ok (.iadd, 1) := by decide +kernel
theorem dX12_rests_60 : decode cX12_rests 60 = .ok (.ireturn, 1) := by decide +kernel
theorem dX12_rests_61 : decode cX12_rests 61 = .ok (.iinc 3 1, 3) := by decide +kernel
theorem dX12_rests_64 : decode cX12_rests 64 = .ok (.iinc 4 1, 3) := by decide +kernel
theorem dX12_rests_67 : decode cX12_rests 67 = .ok (.goto (-47), 3) := by decide +kernel
theorem dX12_rests_70 : decode cX12_rests 70 = .ok (.iload_n 2, 1) := by decide +kernel
theorem dX12_rests_71 : decode cX12_rests 71 = .ok (.iconst (-1), 1) := by decide +kernel
theorem dX12_rests_72 : decode cX12_rests 72 = .ok (.if_icmp .ne 7, 3) := by decide +kernel
theorem dX12_rests_75 : decode cX12_rests 75 = .ok (.iload_n 3, 1) := by decide +kernel
theorem dX12_rests_76 : decode cX12_rests 76 = .ok (.goto 4, 3) := by decide +kernel
theorem dX12_rests_79 : decode cX12_rests 79 = .ok (.iconst (-1), 1) := by decide +kernel
theorem dX12_rests_80 : decode cX12_rests 80 = .ok (.ireturn, 1) := by decide +kernel
theorem dX12_oddsFrom_0 : decode cX12_oddsFrom 0 = .ok (.iload_n 2, 1) := by decide +kernel
theorem dX12_oddsFrom_1 : decode cX12_oddsFrom 1 = .ok (.aload_n 0, 1) := by decide +kernel
theorem dX12_oddsFrom_2 : decode cX12_oddsFrom 2 = .ok (.getfield 55, 3) := by decide +kernel
theorem dX12_oddsFrom_5 : decode cX12_oddsFrom 5 = .ok (.iload_n 1, 1) := by decide +kernel
theorem dX12_oddsFrom_6 : decode cX12_oddsFrom 6 = .ok (.iaload, 1) := by decide +kernel
theorem dX12_oddsFrom_7 : decode cX12_oddsFrom 7 = .ok (.if_icmp .ne 21, 3) := by decide +kernel
theorem dX12_oddsFrom_10 : decode cX12_oddsFrom 10 = .ok (.aload_n 0, 1) := by decide +kernel
theorem dX12_oddsFrom_11 : decode cX12_oddsFrom 11 = .ok (.iload_n 1, 1) := by decide +kernel
theorem dX12_oddsFrom_12 : decode cX12_oddsFrom 12 = .ok (.iload_n 3, 1) := by decide +kernel
theorem dX12_oddsFrom_13 : decode cX12_oddsFrom 13 = .ok (.invokevirtual 499, 3) := by decide +kernel
theorem dX12_oddsFrom_16 : decode cX12_oddsFrom 16 = .ok (.iload 5, 2) := by decide +kernel
theorem dX12_oddsFrom_18 : decode cX12_oddsFrom 18 = .ok (.if_icmp .gt 8, 3) := by decide +kernel
theorem dX12_oddsFrom_21 : decode cX12_oddsFrom 21 = .ok (.iload 6, 2) := by decide +kernel
theorem dX12_oddsFrom_23 : decode cX12_oddsFrom 23 = .ok (.goto 4, 3) := by decide +kernel
theorem dX12_oddsFrom_26 : decode cX12_oddsFrom 26 = .ok (.iconst 0, 1) := by decide +kernel
theorem dX12_oddsFrom_27 : decode cX12_oddsFrom 27 = .ok (.ireturn, 1) := by decide +kernel
theorem dX12_oddsFrom_28 : decode cX12_oddsFrom 28 = .ok (.aload_n 0, 1) := by decide +kernel
theorem dX12_oddsFrom_29 : decode cX12_oddsFrom 29 = .ok (.iload_n 1, 1) := by decide +kernel
theorem dX12_oddsFrom_30 : decode cX12_oddsFrom 30 = .ok (.iload_n 2, 1) := by decide +kernel
theorem dX12_oddsFrom_31 : decode cX12_oddsFrom 31 = .ok (.invokevirtual 410, 3) := by decide +kernel
theorem dX12_oddsFrom_34 : decode cX12_oddsFrom 34 = .ok (.bipush 20, 2) := by decide +kernel
theorem dX12_oddsFrom_36 : decode cX12_oddsFrom 36 = .ok (.if_icmp .ne 19, 3) := by decide +kernel
theorem dX12_oddsFrom_39 : decode cX12_oddsFrom 39 = .ok (.aload_n 0, 1) := by decide +kernel
theorem dX12_oddsFrom_40 : decode cX12_oddsFrom 40 = .ok (.iload_n 1, 1) := by decide +kernel
theorem dX12_oddsFrom_41 : decode cX12_oddsFrom 41 = .ok (.iload_n 2, 1) := by decide +kernel
theorem dX12_oddsFrom_42 : decode cX12_oddsFrom 42 = .ok (.iconst 1, 1) := by decide +kernel
theorem dX12_oddsFrom_43 : decode cX12_oddsFrom 43 = .ok (.iadd, 1) := by decide +kernel
theorem dX12_oddsFrom_44 : decode cX12_oddsFrom 44 = .ok (.iload_n 3, 1) := by decide +kernel
theorem dX12_oddsFrom_45 : decode cX12_oddsFrom 45 = .ok (.iload 4, 2) := by decide +kernel
theorem dX12_oddsFrom_47 : decode cX12_oddsFrom 47 = .ok (.iload 5, 2) := by decide +kernel
theorem dX12_oddsFrom_49 : decode cX12_oddsFrom 49 = .ok (.iload 6, 2) := by decide +kernel
theorem dX12_oddsFrom_51 : decode cX12_oddsFrom 51 = .ok (.invokevirtual 502, 3) := by decide +kernel
theorem dX12_oddsFrom_54 : decode cX12_oddsFrom 54 = .ok (.ireturn, 1) := by decide +kernel
theorem dX12_oddsFrom_55 : decode cX12_oddsFrom 55 = .ok (.iload 6, 2) := by decide +kernel
theorem dX12_oddsFrom_57 : decode cX12_oddsFrom 57 = .ok (.i2l, 1) := by decide +kernel
theorem dX12_oddsFrom_58 : decode cX12_oddsFrom 58 = .ok (.iload 4, 2) := by decide +kernel
theorem dX12_oddsFrom_60 : decode cX12_oddsFrom 60 = .ok (.i2l, 1) := by decide +kernel
theorem dX12_oddsFrom_61 : decode cX12_oddsFrom 61 = .ok (.lmul, 1) := by decide +kernel
theorem dX12_oddsFrom_62 : decode cX12_oddsFrom 62 = .ok (.ldc2_w 505, 3) := by decide +kernel
theorem dX12_oddsFrom_65 : decode cX12_oddsFrom 65 = .ok (.ldiv, 1) := by decide +kernel
theorem dX12_oddsFrom_66 : decode cX12_oddsFrom 66 = .ok (.l2i, 1) := by decide +kernel
theorem dX12_oddsFrom_67 : decode cX12_oddsFrom 67 = .ok (.istore 7, 2) := by decide +kernel
theorem dX12_oddsFrom_69 : decode cX12_oddsFrom 69 = .ok (.aload_n 0, 1) := by decide +kernel
theorem dX12_oddsFrom_70 : decode cX12_oddsFrom 70 = .ok (.iload_n 1, 1) := by decide +kernel
theorem dX12_oddsFrom_71 : decode cX12_oddsFrom 71 = .ok (.iload_n 2, 1) := by decide +kernel
theorem dX12_oddsFrom_72 : decode cX12_oddsFrom 72 = .ok (.iconst 1, 1) := by decide +kernel
theorem dX12_oddsFrom_73 : decode cX12_oddsFrom 73 = .ok (.iadd, 1) := by decide +kernel
theorem dX12_oddsFrom_74 : decode cX12_oddsFrom 74 = .ok (.iload_n 3, 1) := by decide +kernel
theorem dX12_oddsFrom_75 : decode cX12_oddsFrom 75 = .ok (.iconst 1, 1) := by decide +kernel
theorem dX12_oddsFrom_76 : decode cX12_oddsFrom 76 = .ok (.iload_n 2, 1) := by decide +kernel
theorem dX12_oddsFrom_77 : decode cX12_oddsFrom 77 = .ok (.ishl, 1) := by decide +kernel
theorem dX12_oddsFrom_78 : decode cX12_oddsFrom 78 = .ok (.ior, 1) := by decide +kernel
theorem dX12_oddsFrom_79 : decode cX12_oddsFrom 79 = .ok (.iload 4, 2) := by decide +kernel
theorem dX12_oddsFrom_81 : decode cX12_oddsFrom 81 = .ok (.iload 5, 2) := by decide +kernel
theorem dX12_oddsFrom_83 : decode cX12_oddsFrom 83 = .ok (.iload 7, 2) := by decide +kernel
theorem dX12_oddsFrom_85 : decode cX12_oddsFrom 85 = .ok (.invokevirtual 502, 3) := by decide +kernel
theorem dX12_oddsFrom_88 : decode cX12_oddsFrom 88 = .ok (.aload_n 0, 1) := by decide +kernel
theorem dX12_oddsFrom_89 : decode cX12_oddsFrom 89 = .ok (.iload_n 1, 1) := by decide +kernel
theorem dX12_oddsFrom_90 : decode cX12_oddsFrom 90 = .ok (.iload_n 2, 1) := by decide +kernel
theorem dX12_oddsFrom_91 : decode cX12_oddsFrom 91 = .ok (.iconst 1, 1) := by decide +kernel
theorem dX12_oddsFrom_92 : decode cX12_oddsFrom 92 = .ok (.iadd, 1) := by decide +kernel
theorem dX12_oddsFrom_93 : decode cX12_oddsFrom 93 = .ok (.iload_n 3, 1) := by decide +kernel
theorem dX12_oddsFrom_94 : decode cX12_oddsFrom 94 = .ok (.iload 4, 2) := by decide +kernel
theorem dX12_oddsFrom_96 : decode cX12_oddsFrom 96 = .ok (.iload 5, 2) := by decide +kernel
theorem dX12_oddsFrom_98 : decode cX12_oddsFrom 98 = .ok (.iload 6, 2) := by decide +kernel
theorem dX12_oddsFrom_100 : decode cX12_oddsFrom 100 = .ok (.iload 7, 2) := by decide +kernel
theorem dX12_oddsFrom_102 : decode cX12_oddsFrom 102 = .ok (.isub, 1) := by decide +kernel
theorem dX12_oddsFrom_103 : decode cX12_oddsFrom 103 = .ok (.invokevirtual 502, 3) := by decide +kernel
theorem dX12_oddsFrom_106 : decode cX12_oddsFrom 106 = .ok (.iadd, 1) := by decide +kernel
theorem dX12_oddsFrom_107 : decode cX12_oddsFrom 107 = .ok (.ireturn, 1) := by decide +kernel
theorem dX12_manyBy_0 : decode cX12_manyBy 0 = .ok (.aload_n 0, 1) := by decide +kernel
theorem dX12_manyBy_1 : decode cX12_manyBy 1 = .ok (.invokevirtual 388, 3) := by decide +kernel
theorem dX12_manyBy_4 : decode cX12_manyBy 4 = .ok (.iconst 0, 1) := by decide +kernel
theorem dX12_manyBy_5 : decode cX12_manyBy 5 = .ok (.istore_n 3, 1) := by decide +kernel
theorem dX12_manyBy_6 : decode cX12_manyBy 6 = .ok (.iload_n 3, 1) := by decide +kernel
theorem dX12_manyBy_7 : decode cX12_manyBy 7 = .ok (.aload_n 0, 1) := by decide +kernel
theorem dX12_manyBy_8 : decode cX12_manyBy 8 = .ok (.getfield 55, 3) := by decide +kernel
theorem dX12_manyBy_11 : decode cX12_manyBy 11 = .ok (.iload_n 1, 1) := by decide +kernel
theorem dX12_manyBy_12 : decode cX12_manyBy 12 = .ok (.iaload, 1) := by decide +kernel
theorem dX12_manyBy_13 : decode cX12_manyBy 13 = .ok (.if_icmp .ge 44, 3) := by decide +kernel
theorem dX12_manyBy_16 : decode cX12_manyBy 16 = .ok (.aload_n 0, 1) := by decide +kernel
theorem dX12_manyBy_17 : decode cX12_manyBy 17 = .ok (.iload_n 1, 1) := by decide +kernel
theorem dX12_manyBy_18 : decode cX12_manyBy 18 = .ok (.iload_n 3, 1) := by decide +kernel
theorem dX12_manyBy_19 : decode cX12_manyBy 19 = .ok (.invokevirtual 410, 3) := by decide +kernel
theorem dX12_manyBy_22 : decode cX12_manyBy 22 = .ok (.bipush 20, 2) := by decide +kernel
theorem dX12_manyBy_24 : decode cX12_manyBy 24 = .ok (.if_icmp .eq 27, 3) := by decide +kernel
theorem dX12_manyBy_27 : decode cX12_manyBy 27 = .ok (.aload_n 0, 1) := by decide +kernel
theorem dX12_manyBy_28 : decode cX12_manyBy 28 = .ok (.aload_n 0, 1) := by decide +kernel
theorem dX12_manyBy_29 : decode cX12_manyBy 29 = .ok (.iload_n 1, 1) := by decide +kernel
theorem dX12_manyBy_30 : decode cX12_manyBy 30 = .ok (.iload_n 3, 1) := by decide +kernel
theorem dX12_manyBy_31 : decode cX12_manyBy 31 = .ok (.invokevirtual 410, 3) := by decide +kernel
theorem dX12_manyBy_34 : decode cX12_manyBy 34 = .ok (.iload_n 2, 1) := by decide +kernel
theorem dX12_manyBy_35 : decode cX12_manyBy 35 = .ok (.iload_n 3, 1) := by decide +kernel
theorem dX12_manyBy_36 : decode cX12_manyBy 36 = .ok (.invokestatic 240, 3) := by decide +kernel
theorem dX12_manyBy_39 : decode cX12_manyBy 39 = .ok (.ifCond .eq 7, 3) := by decide +kernel
theorem dX12_manyBy_42 : decode cX12_manyBy 42 = .ok (.iconst 1, 1) := by decide +kernel
theorem dX12_manyBy_43 : decode cX12_manyBy 43 = .ok (.goto 4, 3) := by decide +kernel
theorem dX12_manyBy_46 : decode cX12_manyBy 46 = .ok (.iconst 0, 1) := by decide +kernel
theorem dX12_manyBy_47 : decode cX12_manyBy 47 = .ok (.ixor, 1) := by decide +kernel
theorem dX12_manyBy_48 : decode cX12_manyBy 48 = .ok (.invokevirtual 444, 3) := by decide +kernel
theorem dX12_manyBy_51 : decode cX12_manyBy 51 = .ok (.iinc 3 1, 3) := by decide +kernel
theorem dX12_manyBy_54 : decode cX12_manyBy 54 = .ok (.goto (-48), 3) := by decide +kernel
theorem dX12_manyBy_57 : decode cX12_manyBy 57 = .ok (.aload_n 0, 1) := by decide +kernel
theorem dX12_manyBy_58 : decode cX12_manyBy 58 = .ok (.getfield 382, 3) := by decide +kernel
theorem dX12_manyBy_61 : decode cX12_manyBy 61 = .ok (.ireturn, 1) := by decide +kernel
theorem dX12_odds_0 : decode cX12_odds 0 = .ok (.aload_n 0, 1) := by decide +kernel
theorem dX12_odds_1 : decode cX12_odds 1 = .ok (.iload_n 1, 1) := by decide +kernel
theorem dX12_odds_2 : decode cX12_odds 2 = .ok (.invokevirtual 407, 3) := by decide +kernel
theorem dX12_odds_5 : decode cX12_odds 5 = .ok (.ifCond .eq 34, 3) := by decide +kernel
theorem dX12_odds_8 : decode cX12_odds 8 = .ok (.aload_n 0, 1) := by decide +kernel
theorem dX12_odds_9 : decode cX12_odds 9 = .ok (.getfield 55, 3) := by decide +kernel
theorem dX12_odds_12 : decode cX12_odds 12 = .ok (.iload_n 1, 1) := by decide +kernel
theorem dX12_odds_13 : decode cX12_odds 13 = .ok (.iaload, 1) := by decide +kernel
theorem dX12_odds_14 : decode cX12_odds 14 = .ok (.bipush 8, 2) := by decide +kernel
theorem dX12_odds_16 : decode cX12_odds 16 = .ok (.if_icmp .gt 23, 3) := by decide +kernel
theorem dX12_odds_19 : decode cX12_odds 19 = .ok (.iload_n 2, 1) := by decide +kernel
theorem dX12_odds_20 : decode cX12_odds 20 = .ok (.iconst 0, 1) := by decide +kernel
theorem dX12_odds_21 : decode cX12_odds 21 = .ok (.bipush 100, 2) := by decide +kernel
theorem dX12_odds_23 : decode cX12_odds 23 = .ok (.invokestatic 229, 3) := by decide +kernel
theorem dX12_odds_26 : decode cX12_odds 26 = .ok (.ifCond .eq 13, 3) := by decide +kernel
theorem dX12_odds_29 : decode cX12_odds 29 = .ok (.iload_n 3, 1) := by decide +kernel
theorem dX12_odds_30 : decode cX12_odds 30 = .ok (.iconst 0, 1) := by decide +kernel
theorem dX12_odds_31 : decode cX12_odds 31 = .ok (.bipush 60, 2) := by decide +kernel
theorem dX12_odds_33 : decode cX12_odds 33 = .ok (.invokestatic 229, 3) := by decide +kernel
theorem dX12_odds_36 : decode cX12_odds 36 = .ok (.ifCond .ne 5, 3) := by decide +kernel
theorem dX12_odds_39 : decode cX12_odds 39 = .ok (.iconst (-1), 1) := by decide +kernel
theorem dX12_odds_40 : decode cX12_odds 40 = .ok (.ireturn, 1) := by decide +kernel
theorem dX12_odds_41 : decode cX12_odds 41 = .ok (.aload_n 0, 1) := by decide +kernel
theorem dX12_odds_42 : decode cX12_odds 42 = .ok (.iload_n 1, 1) := by decide +kernel
theorem dX12_odds_43 : decode cX12_odds 43 = .ok (.iconst 0, 1) := by decide +kernel
theorem dX12_odds_44 : decode cX12_odds 44 = .ok (.iconst 0, 1) := by decide +kernel
theorem dX12_odds_45 : decode cX12_odds 45 = .ok (.iload_n 2, 1) := by decide +kernel
theorem dX12_odds_46 : decode cX12_odds 46 = .ok (.iload_n 3, 1) := by decide +kernel
theorem dX12_odds_47 : decode cX12_odds 47 = .ok (.ldc_w 507, 3) := by decide +kernel
theorem dX12_odds_50 : decode cX12_odds 50 = .ok (.invokevirtual 502, 3) := by decide +kernel
theorem dX12_odds_53 : decode cX12_odds 53 = .ok (.ireturn, 1) := by decide +kernel
theorem dX12_takenAll_0 : decode cX12_takenAll 0 = .ok (.iconst 0, 1) := by decide +kernel
theorem dX12_takenAll_1 : decode cX12_takenAll 1 = .ok (.istore_n 1, 1) := by decide +kernel
theorem dX12_takenAll_2 : decode cX12_takenAll 2 = .ok (.iconst 0, 1) := by decide +kernel
theorem dX12_takenAll_3 : decode cX12_takenAll 3 = .ok (.istore_n 2, 1) := by decide +kernel
theorem dX12_takenAll_4 : decode cX12_takenAll 4 = .ok (.iload_n 2, 1) := by decide +kernel
theorem dX12_takenAll_5 : decode cX12_takenAll 5 = .ok (.aload_n 0, 1) := by decide +kernel
theorem dX12_takenAll_6 : decode cX12_takenAll 6 = .ok (.getfield 283, 3) := by decide +kernel
theorem dX12_takenAll_9 : decode cX12_takenAll 9 = .ok (.if_icmp .ge 17, 3) := by decide +kernel
theorem dX12_takenAll_12 : decode cX12_takenAll 12 = .ok (.iload_n 1, 1) := by decide +kernel
theorem dX12_takenAll_13 : decode cX12_takenAll 13 = .ok (.aload_n 0, 1) := by decide +kernel
theorem dX12_takenAll_14 : decode cX12_takenAll 14 = .ok (.iload_n 2, 1) := by decide +kernel
theorem dX12_takenAll_15 : decode cX12_takenAll 15 = .ok (.invokevirtual 334, 3) := by decide +kernel
theorem dX12_takenAll_18 : decode cX12_takenAll 18 = .ok (.iadd, 1) := by decide +kernel
theorem dX12_takenAll_19 : decode cX12_takenAll 19 = .ok (.istore_n 1, 1) := by decide +kernel
theorem dX12_takenAll_20 : decode cX12_takenAll 20 = .ok (.iinc 2 1, 3) := by decide +kernel
theorem dX12_takenAll_23 : decode cX12_takenAll 23 = .ok (.goto (-19), 3) := by decide +kernel
theorem dX12_takenAll_26 : decode cX12_takenAll 26 = .ok (.iload_n 1, 1) := by decide +kernel
theorem dX12_takenAll_27 : decode cX12_takenAll 27 = .ok (.ireturn, 1) := by decide +kernel
theorem dX12_shares_0 : decode cX12_shares 0 = .ok (.aload_n 0, 1) := by decide +kernel
theorem dX12_shares_1 : decode cX12_shares 1 = .ok (.iload_n 1, 1) := by decide +kernel
theorem dX12_shares_2 : decode cX12_shares 2 = .ok (.invokevirtual 373, 3) := by decide +kernel
theorem dX12_shares_5 : decode cX12_shares 5 = .ok (.ifCond .eq 14, 3) := by decide +kernel
theorem dX12_shares_8 : decode cX12_shares 8 = .ok (.iload_n 2, 1) := by decide +kernel
theorem dX12_shares_9 : decode cX12_shares 9 = .ok (.iconst 0, 1) := by decide +kernel
theorem dX12_shares_10 : decode cX12_shares 10 = .ok (.sipush 999, 3) := by decide +kernel
theorem dX12_shares_13 : decode cX12_shares 13 = .ok (.invokestatic 229, 3) := by decide +kernel
theorem dX12_shares_16 : decode cX12_shares 16 = .ok (.ifCond .ne 5, 3) := by decide +kernel
theorem dX12_shares_19 : decode cX12_shares 19 = .ok (.iconst (-1), 1) := by decide +kernel
theorem dX12_shares_20 : decode cX12_shares 20 = .ok (.ireturn, 1) := by decide +kernel
theorem dX12_shares_21 : decode cX12_shares 21 = .ok (.aload_n 0, 1) := by decide +kernel
theorem dX12_shares_22 : decode cX12_shares 22 = .ok (.invokevirtual 508, 3) := by decide +kernel
theorem dX12_shares_25 : decode cX12_shares 25 = .ok (.ifCond .ne 7, 3) := by decide +kernel
theorem dX12_shares_28 : decode cX12_shares 28 = .ok (.iconst 0, 1) := by decide +kernel
theorem dX12_shares_29 : decode cX12_shares 29 = .ok (.goto 15, 3) := by decide +kernel
theorem dX12_shares_32 : decode cX12_shares 32 = .ok (.iload_n 2, 1) := by decide +kernel
theorem dX12_shares_33 : decode cX12_shares 33 = .ok (.aload_n 0, 1) := by decide +kernel
theorem dX12_shares_34 : decode cX12_shares 34 = .ok (.iload_n 1, 1) := by decide +kernel
theorem dX12_shares_35 : decode cX12_shares 35 = .ok (.invokevirtual 334, 3) := by decide +kernel
theorem dX12_shares_38 : decode cX12_shares 38 = .ok (.imul, 1) := by decide +kernel
theorem dX12_shares_39 : decode cX12_shares 39 = .ok (.aload_n 0, 1) := by decide +kernel
theorem dX12_shares_40 : decode cX12_shares 40 = .ok (.invokevirtual 508, 3) := by decide +kernel
theorem dX12_shares_43 : decode cX12_shares 43 = .ok (.idiv, 1) := by decide +kernel
theorem dX12_shares_44 : decode cX12_shares 44 = .ok (.ireturn, 1) := by decide +kernel
theorem dX12_valueOf_0 : decode cX12_valueOf 0 = .ok (.iload_n 2, 1) := by decide +kernel
theorem dX12_valueOf_1 : decode cX12_valueOf 1 = .ok (.tableswitch 46 0 2 #[27, 33, 40], 27) := by decide +kernel
theorem dX12_valueOf_28 : decode cX12_valueOf 28 = .ok (.aload_n 0, 1) := by decide +kernel
theorem dX12_valueOf_29 : decode cX12_valueOf 29 = .ok (.iload_n 1, 1) := by decide +kernel
theorem dX12_valueOf_30 : decode cX12_valueOf 30 = .ok (.invokevirtual 343, 3) := by decide +kernel
theorem dX12_valueOf_33 : decode cX12_valueOf 33 = .ok (.ireturn, 1) := by decide +kernel
theorem dX12_valueOf_34 : decode cX12_valueOf 34 = .ok (.aload_n 0, 1) := by decide +kernel
theorem dX12_valueOf_35 : decode cX12_valueOf 35 = .ok (.iload_n 1, 1) := by decide +kernel
theorem dX12_valueOf_36 : decode cX12_valueOf 36 = .ok (.invokevirtual 343, 3) := by decide +kernel
theorem dX12_valueOf_39 : decode cX12_valueOf 39 = .ok (.ineg, 1) := by decide +kernel
theorem dX12_valueOf_40 : decode cX12_valueOf 40 = .ok (.ireturn, 1) := by decide +kernel
theorem dX12_valueOf_41 : decode cX12_valueOf 41 = .ok (.aload_n 0, 1) := by decide +kernel
theorem dX12_valueOf_42 : decode cX12_valueOf 42 = .ok (.iload_n 1, 1) := by decide +kernel
theorem dX12_valueOf_43 : decode cX12_valueOf 43 = .ok (.invokevirtual 379, 3) := by decide +kernel
theorem dX12_valueOf_46 : decode cX12_valueOf 46 = .ok (.ireturn, 1) := by decide +kernel
theorem dX12_valueOf_47 : decode cX12_valueOf 47 = .ok (.aload_n 0, 1) := by decide +kernel
theorem dX12_valueOf_48 : decode cX12_valueOf 48 = .ok (.iload_n 1, 1) := by decide +kernel
theorem dX12_valueOf_49 : decode cX12_valueOf 49 = .ok (.iconst 2, 1) := by decide +kernel
theorem dX12_valueOf_50 : decode cX12_valueOf 50 = .ok (.invokevirtual 286, 3) := by decide +kernel
theorem dX12_valueOf_53 : decode cX12_valueOf 53 = .ok (.ireturn, 1) := by decide +kernel
theorem dX12_topBy_0 : decode cX12_topBy 0 = .ok (.iconst 0, 1) := by decide +kernel
theorem dX12_topBy_1 : decode cX12_topBy 1 = .ok (.istore_n 2, 1) := by decide +kernel
theorem dX12_topBy_2 : decode cX12_topBy 2 = .ok (.iconst 1, 1) := by decide +kernel
theorem dX12_topBy_3 : decode cX12_topBy 3 = .ok (.istore_n 3, 1) := by decide +kernel
theorem dX12_topBy_4 : decode cX12_topBy 4 = .ok (.iload_n 3, 1) := by decide +kernel
theorem dX12_topBy_5 : decode cX12_topBy 5 = .ok (.aload_n 0, 1) := by decide +kernel
theorem dX12_topBy_6 : decode cX12_topBy 6 = .ok (.getfield 283, 3) := by decide +kernel
theorem dX12_topBy_9 : decode cX12_topBy 9 = .ok (.if_icmp .ge 30, 3) := by decide +kernel
theorem dX12_topBy_12 : decode cX12_topBy 12 = .ok (.aload_n 0, 1) := by decide +kernel
theorem dX12_topBy_13 : decode cX12_topBy 13 = .ok (.iload_n 3, 1) := by decide +kernel
theorem dX12_topBy_14 : decode cX12_topBy 14 = .ok (.iload_n 1, 1) := by decide +kernel
theorem dX12_topBy_15 : decode cX12_topBy 15 = .ok (.invokevirtual 511, 3) := by decide +kernel
theorem dX12_topBy_18 : decode cX12_topBy 18 = .ok (.aload_n 0, 1) := by decide +kernel
theorem dX12_topBy_19 : decode cX12_topBy 19 = .ok (.iload_n 2, 1) := by decide +kernel
theorem dX12_topBy_20 : decode cX12_topBy 20 = .ok (.iload_n 1, 1) := by decide +kernel
theorem dX12_topBy_21 : decode cX12_topBy 21 = .ok (.invokevirtual 511, 3) := by decide +kernel
theorem dX12_topBy_24 : decode cX12_topBy 24 = .ok (.if_icmp .le 7, 3) := by decide +kernel
theorem dX12_topBy_27 : decode cX12_topBy 27 = .ok (.iload_n 3, 1) := by decide +kernel
theorem dX12_topBy_28 : decode cX12_topBy 28 = .ok (.goto 4, 3) := by decide +kernel
theorem dX12_topBy_31 : decode cX12_topBy 31 = .ok (.iload_n 2, 1) := by decide +kernel
theorem dX12_topBy_32 : decode cX12_topBy 32 = .ok (.istore_n 2, 1) := by decide +kernel
theorem dX12_topBy_33 : decode cX12_topBy 33 = .ok (.iinc 3 1, 3) := by decide +kernel
theorem dX12_topBy_36 : decode cX12_topBy 36 = .ok (.goto (-32), 3) := by decide +kernel
theorem dX12_topBy_39 : decode cX12_topBy 39 = .ok (.iload_n 2, 1) := by decide +kernel
theorem dX12_topBy_40 : decode cX12_topBy 40 = .ok (.ireturn, 1) := by decide +kernel
theorem dX12_depth_0 : decode cX12_depth 0 = .ok (.iconst 0, 1) := by decide +kernel
theorem dX12_depth_1 : decode cX12_depth 1 = .ok (.istore_n 1, 1) := by decide +kernel
theorem dX12_depth_2 : decode cX12_depth 2 = .ok (.iconst 0, 1) := by decide +kernel
theorem dX12_depth_3 : decode cX12_depth 3 = .ok (.istore_n 2, 1) := by decide +kernel
theorem dX12_depth_4 : decode cX12_depth 4 = .ok (.iload_n 2, 1) := by decide +kernel
theorem dX12_depth_5 : decode cX12_depth 5 = .ok (.aload_n 0, 1) := by decide +kernel
theorem dX12_depth_6 : decode cX12_depth 6 = .ok (.getfield 58, 3) := by decide +kernel
theorem dX12_depth_9 : decode cX12_depth 9 = .ok (.bipush 14, 2) := by decide +kernel
theorem dX12_depth_11 : decode cX12_depth 11 = .ok (.iaload, 1) := by decide +kernel
theorem dX12_depth_12 : decode cX12_depth 12 = .ok (.if_icmp .ge 20, 3) := by decide +kernel
theorem dX12_depth_15 : decode cX12_depth 15 = .ok (.iload_n 1, 1) := by decide +kernel
theorem dX12_depth_16 : decode cX12_depth 16 = .ok (.aload_n 0, 1) := by decide +kernel
theorem dX12_depth_17 : decode cX12_depth 17 = .ok (.iload_n 2, 1) := by decide +kernel
theorem dX12_depth_18 : decode cX12_depth 18 = .ok (.iconst 4, 1) := by decide +kernel
theorem dX12_depth_19 : decode cX12_depth 19 = .ok (.invokevirtual 311, 3) := by decide +kernel
theorem dX12_depth_22 : decode cX12_depth 22 = .ok (.invokestatic 320, 3) := by decide +kernel
theorem dX12_depth_25 : decode cX12_depth 25 = .ok (.istore_n 1, 1) := by decide +kernel
theorem dX12_depth_26 : decode cX12_depth 26 = .ok (.iinc 2 1, 3) := by decide +kernel
theorem dX12_depth_29 : decode cX12_depth 29 = .ok (.goto (-25), 3) := by decide +kernel
theorem dX12_depth_32 : decode cX12_depth 32 = .ok (.iload_n 1, 1) := by decide +kernel
theorem dX12_depth_33 : decode cX12_depth 33 = .ok (.ireturn, 1) := by decide +kernel
theorem dX12_orderRow_0 : decode cX12_orderRow 0 = .ok (.iconst 0, 1) := by decide +kernel
theorem dX12_orderRow_1 : decode cX12_orderRow 1 = .ok (.istore_n 1, 1) := by decide +kernel
theorem dX12_orderRow_2 : decode cX12_orderRow 2 = .ok (.iconst 0, 1) := by decide +kernel
theorem dX12_orderRow_3 : decode cX12_orderRow 3 = .ok (.istore_n 2, 1) := by decide +kernel
theorem dX12_orderRow_4 : decode cX12_orderRow 4 = .ok (.iload_n 2, 1) := by decide +kernel
theorem dX12_orderRow_5 : decode cX12_orderRow 5 = .ok (.aload_n 0, 1) := by decide +kernel
theorem dX12_orderRow_6 : decode cX12_orderRow 6 = .ok (.getfield 283, 3) := by decide +kernel
theorem dX12_orderRow_9 : decode cX12_orderRow 9 = .ok (.if_icmp .ge 23, 3) := by decide +kernel
theorem dX12_orderRow_12 : decode cX12_orderRow 12 = .ok (.bipush 10, 2) := by decide +kernel
theorem dX12_orderRow_14 : decode cX12_orderRow 14 = .ok (.iload_n 1, 1) := by decide +kernel
theorem dX12_orderRow_15 : decode cX12_orderRow 15 = .ok (.imul, 1) := by decide +kernel
theorem dX12_orderRow_16 : decode cX12_orderRow 16 = .ok (.aload_n 0, 1) := by decide +kernel
theorem dX12_orderRow_17 : decode cX12_orderRow 17 = .ok (.getfield 58, 3) := by decide +kernel
theorem dX12_orderRow_20 : decode cX12_orderRow 20 = .ok (.iconst 0, 1) := by decide +kernel
theorem dX12_orderRow_21 : decode cX12_orderRow 21 = .ok (.iload_n 2, 1) := by decide +kernel
theorem dX12_orderRow_22 : decode cX12_orderRow 22 = .ok (.iadd, 1) := by decide +kernel
theorem dX12_orderRow_23 : decode cX12_orderRow 23 = .ok (.iaload, 1) := by decide +kernel
theorem dX12_orderRow_24 : decode cX12_orderRow 24 = .ok (.iadd, 1) := by decide +kernel
theorem dX12_orderRow_25 : decode cX12_orderRow 25 = .ok (.istore_n 1, 1) := by decide +kernel
theorem dX12_orderRow_26 : decode cX12_orderRow 26 = .ok (.iinc 2 1, 3) := by decide +kernel
theorem dX12_orderRow_29 : decode cX12_orderRow 29 = .ok (.goto (-25), 3) := by decide +kernel
theorem dX12_orderRow_32 : decode cX12_orderRow 32 = .ok (.iload_n 1, 1) := by decide +kernel
theorem dX12_orderRow_33 : decode cX12_orderRow 33 = .ok (.ireturn, 1) := by decide +kernel
theorem dX12_freeOnes_0 : decode cX12_freeOnes 0 = .ok (.iconst 0, 1) := by decide +kernel
theorem dX12_freeOnes_1 : decode cX12_freeOnes 1 = .ok (.istore_n 1, 1) := by decide +kernel
theorem dX12_freeOnes_2 : decode cX12_freeOnes 2 = .ok (.iconst 0, 1) := by decide +kernel
theorem dX12_freeOnes_3 : decode cX12_freeOnes 3 = .ok (.istore_n 2, 1) := by decide +kernel
theorem dX12_freeOnes_4 : decode cX12_freeOnes 4 = .ok (.iload_n 2, 1) := by decide +kernel
theorem dX12_freeOnes_5 : decode cX12_freeOnes 5 = .ok (.aload_n 0, 1) := by decide +kernel
theorem dX12_freeOnes_6 : decode cX12_freeOnes 6 = .ok (.getfield 283, 3) := by decide +kernel
theorem dX12_freeOnes_9 : decode cX12_freeOnes 9 = .ok (.if_icmp .ge 27, 3) := by decide +kernel
theorem dX12_freeOnes_12 : decode cX12_freeOnes 12 = .ok (.iload_n 1, 1) := by decide +kernel
theorem dX12_freeOnes_13 : decode cX12_freeOnes 13 = .ok (.aload_n 0, 1) := by decide +kernel
theorem dX12_freeOnes_14 : decode cX12_freeOnes 14 = .ok (.iload_n 2, 1) := by decide +kernel
theorem dX12_freeOnes_15 : decode cX12_freeOnes 15 = .ok (.invokevirtual 379, 3) := by decide +kernel
theorem dX12_freeOnes_18 : decode cX12_freeOnes 18 = .ok (.ifCond .ne 9, 3) := by decide +kernel
theorem dX12_freeOnes_21 : decode cX12_freeOnes 21 = .ok (.iconst 1, 1) := by decide +kernel
theorem dX12_freeOnes_22 : decode cX12_freeOnes 22 = .ok (.iload_n 2, 1) := by decide +kernel
theorem dX12_freeOnes_23 : decode cX12_freeOnes 23 = .ok (.ishl, 1) := by decide +kernel
theorem dX12_freeOnes_24 : decode cX12_freeOnes 24 = .ok (.goto 4, 3) := by decide +kernel
theorem dX12_freeOnes_27 : decode cX12_freeOnes 27 = .ok (.iconst 0, 1) := by decide +kernel
theorem dX12_freeOnes_28 : decode cX12_freeOnes 28 = .ok (.ior, 1) := by decide +kernel
theorem dX12_freeOnes_29 : decode cX12_freeOnes 29 = .ok (.istore_n 1, 1) := by decide +kernel
theorem dX12_freeOnes_30 : decode cX12_freeOnes 30 = .ok (.iinc 2 1, 3) := by decide +kernel
theorem dX12_freeOnes_33 : decode cX12_freeOnes 33 = .ok (.goto (-29), 3) := by decide +kernel
theorem dX12_freeOnes_36 : decode cX12_freeOnes 36 = .ok (.iload_n 1, 1) := by decide +kernel
theorem dX12_freeOnes_37 : decode cX12_freeOnes 37 = .ok (.ireturn, 1) := by decide +kernel
theorem dX12_changes_0 : decode cX12_changes 0 = .ok (.aload_n 0, 1) := by decide +kernel
theorem dX12_changes_1 : decode cX12_changes 1 = .ok (.invokevirtual 388, 3) := by decide +kernel
theorem dX12_changes_4 : decode cX12_changes 4 = .ok (.aload_n 0, 1) := by decide +kernel
theorem dX12_changes_5 : decode cX12_changes 5 = .ok (.invokevirtual 391, 3) := by decide +kernel
theorem dX12_changes_8 : decode cX12_changes 8 = .ok (.iconst 0, 1) := by decide +kernel
theorem dX12_changes_9 : decode cX12_changes 9 = .ok (.istore_n 1, 1) := by decide +kernel
theorem dX12_changes_10 : decode cX12_changes 10 = .ok (.iconst 1, 1) := by decide +kernel
theorem dX12_changes_11 : decode cX12_changes 11 = .ok (.istore_n 2, 1) := by decide +kernel
theorem dX12_changes_12 : decode cX12_changes 12 = .ok (.iload_n 2, 1) := by decide +kernel
theorem dX12_changes_13 : decode cX12_changes 13 = .ok (.aload_n 0, 1) := by decide +kernel
theorem dX12_changes_14 : decode cX12_changes 14 = .ok (.getfield 58, 3) := by decide +kernel
theorem dX12_changes_17 : decode cX12_changes 17 = .ok (.bipush 14, 2) := by decide +kernel
theorem dX12_changes_19 : decode cX12_changes 19 = .ok (.iaload, 1) := by decide +kernel
theorem dX12_changes_20 : decode cX12_changes 20 = .ok (.if_icmp .ge 54, 3) := by decide +kernel
theorem dX12_changes_23 : decode cX12_changes 23 = .ok (.iload_n 1, 1) := by decide +kernel
theorem dX12_changes_24 : decode cX12_changes 24 = .ok (.aload_n 0, 1) := by decide +kernel
theorem dX12_changes_25 : decode cX12_changes 25 = .ok (.aload_n 0, 1) := by decide +kernel
theorem dX12_changes_26 : decode cX12_changes 26 = .ok (.aload_n 0, 1) := by decide +kernel
theorem dX12_changes_27 : decode cX12_changes 27 = .ok (.getfield 71, 3) := by decide +kernel
theorem dX12_changes_30 : decode cX12_changes 30 = .ok (.iload_n 2, 1) := by decide +kernel
theorem dX12_changes_31 : decode cX12_changes 31 = .ok (.iaload, 1) := by decide +kernel
theorem dX12_changes_32 : decode cX12_changes 32 = .ok (.iconst 1, 1) := by decide +kernel
theorem dX12_changes_33 : decode cX12_changes 33 = .ok (.invokevirtual 311, 3) := by decide +kernel
theorem dX12_changes_36 : decode cX12_changes 36 = .ok (.iconst 0, 1) := by decide +kernel
theorem dX12_changes_37 : decode cX12_changes 37 = .ok (.invokevirtual 286, 3) := by decide +kernel
theorem dX12_changes_40 : decode cX12_changes 40 = .ok (.aload_n 0, 1) := by decide +kernel
theorem dX12_changes_41 : decode cX12_changes 41 = .ok (.aload_n 0, 1) := by decide +kernel
theorem dX12_changes_42 : decode cX12_changes 42 = .ok (.aload_n 0, 1) := by decide +kernel
theorem dX12_changes_43 : decode cX12_changes 43 = .ok (.getfield 71, 3) := by decide +kernel
theorem dX12_changes_46 : decode cX12_changes 46 = .ok (.iload_n 2, 1) := by decide +kernel
theorem dX12_changes_47 : decode cX12_changes 47 = .ok (.iconst 1, 1) := by decide +kernel
theorem dX12_changes_48 : decode cX12_changes 48 = .ok (.isub, 1) := by decide +kernel
theorem dX12_changes_49 : decode cX12_changes 49 = .ok (.iaload, 1) := by decide +kernel
theorem dX12_changes_50 : decode cX12_changes 50 = .ok (.iconst 1, 1) := by decide +kernel
theorem dX12_changes_51 : decode cX12_changes 51 = .ok (.invokevirtual 311, 3) := by decide +kernel
theorem dX12_changes_54 : decode cX12_changes 54 = .ok (.iconst 0, 1) := by decide +kernel
theorem dX12_changes_55 : decode cX12_changes 55 = .ok (.invokevirtual 286, 3) := by decide +kernel
theorem dX12_changes_58 : decode cX12_changes 58 = .ok (.if_icmp .eq 7, 3) := by decide +kernel
theorem dX12_changes_61 : decode cX12_changes 61 = .ok (.iconst 1, 1) := by decide +kernel
theorem dX12_changes_62 : decode cX12_changes 62 = .ok (.goto 4, 3) := by decide +kernel
theorem dX12_changes_65 : decode cX12_changes 65 = .ok (.iconst 0, 1) := by decide +kernel
theorem dX12_changes_66 : decode cX12_changes 66 = .ok (.iadd, 1) := by decide +kernel
theorem dX12_changes_67 : decode cX12_changes 67 = .ok (.istore_n 1, 1) := by decide +kernel
theorem dX12_changes_68 : decode cX12_changes 68 = .ok (.iinc 2 1, 3) := by decide +kernel
theorem dX12_changes_71 : decode cX12_changes 71 = .ok (.goto (-59), 3) := by decide +kernel
theorem dX12_changes_74 : decode cX12_changes 74 = .ok (.iload_n 1, 1) := by decide +kernel
theorem dX12_changes_75 : decode cX12_changes 75 = .ok (.ireturn, 1) := by decide +kernel
theorem dX12_twist_0 : decode cX12_twist 0 = .ok (.iconst 0, 1) := by decide +kernel
theorem dX12_twist_1 : decode cX12_twist 1 = .ok (.istore_n 1, 1) := by decide +kernel
theorem dX12_twist_2 : decode cX12_twist 2 = .ok (.iconst 0, 1) := by decide +kernel
theorem dX12_twist_3 : decode cX12_twist 3 = .ok (.istore_n 2, 1) := by decide +kernel
theorem dX12_twist_4 : decode cX12_twist 4 = .ok (.iload_n 2, 1) := by decide +kernel
theorem dX12_twist_5 : decode cX12_twist 5 = .ok (.aload_n 0, 1) := by decide +kernel
theorem dX12_twist_6 : decode cX12_twist 6 = .ok (.getfield 58, 3) := by decide +kernel
theorem dX12_twist_9 : decode cX12_twist 9 = .ok (.bipush 14, 2) := by decide +kernel
theorem dX12_twist_11 : decode cX12_twist 11 = .ok (.iaload, 1) := by decide +kernel
theorem dX12_twist_12 : decode cX12_twist 12 = .ok (.if_icmp .ge 28, 3) := by decide +kernel
theorem dX12_twist_15 : decode cX12_twist 15 = .ok (.iload_n 1, 1) := by decide +kernel
theorem dX12_twist_16 : decode cX12_twist 16 = .ok (.aload_n 0, 1) := by decide +kernel
theorem dX12_twist_17 : decode cX12_twist 17 = .ok (.iload_n 2, 1) := by decide +kernel
theorem dX12_twist_18 : decode cX12_twist 18 = .ok (.iconst 0, 1) := by decide +kernel
theorem dX12_twist_19 : decode cX12_twist 19 = .ok (.invokevirtual 311, 3) := by decide +kernel
theorem dX12_twist_22 : decode cX12_twist 22 = .ok (.iconst 2, 1) := by decide +kernel
theorem dX12_twist_23 : decode cX12_twist 23 = .ok (.irem, 1) := by decide +kernel
theorem dX12_twist_24 : decode cX12_twist 24 = .ok (.ifCond .ne 7, 3) := by decide +kernel
theorem dX12_twist_27 : decode cX12_twist 27 = .ok (.iconst 1, 1) := by decide +kernel
theorem dX12_twist_28 : decode cX12_twist 28 = .ok (.goto 4, 3) := by decide +kernel
theorem dX12_twist_31 : decode cX12_twist 31 = .ok (.iconst (-1), 1) := by decide +kernel
theorem dX12_twist_32 : decode cX12_twist 32 = .ok (.iadd, 1) := by decide +kernel
theorem dX12_twist_33 : decode cX12_twist 33 = .ok (.istore_n 1, 1) := by decide +kernel
theorem dX12_twist_34 : decode cX12_twist 34 = .ok (.iinc 2 1, 3) := by decide +kernel
theorem dX12_twist_37 : decode cX12_twist 37 = .ok (.goto (-33), 3) := by decide +kernel
theorem dX12_twist_40 : decode cX12_twist 40 = .ok (.iload_n 1, 1) := by decide +kernel
theorem dX12_twist_41 : decode cX12_twist 41 = .ok (.ireturn, 1) := by decide +kernel
theorem dX12_homeMany_0 : decode cX12_homeMany 0 = .ok (.iconst 0, 1) := by decide +kernel
theorem dX12_homeMany_1 : decode cX12_homeMany 1 = .ok (.istore_n 1, 1) := by decide +kernel
theorem dX12_homeMany_2 : decode cX12_homeMany 2 = .ok (.iconst 0, 1) := by decide +kernel
theorem dX12_homeMany_3 : decode cX12_homeMany 3 = .ok (.istore_n 2, 1) := by decide +kernel
theorem dX12_homeMany_4 : decode cX12_homeMany 4 = .ok (.iload_n 2, 1) := by decide +kernel
theorem dX12_homeMany_5 : decode cX12_homeMany 5 = .ok (.aload_n 0, 1) := by decide +kernel
theorem dX12_homeMany_6 : decode cX12_homeMany 6 = .ok (.getfield 283, 3) := by decide +kernel
theorem dX12_homeMany_9 : decode cX12_homeMany 9 = .ok (.if_icmp .ge 29, 3) := by decide +kernel
theorem dX12_homeMany_12 : decode cX12_homeMany 12 = .ok (.iload_n 1, 1) := by decide +kernel
theorem dX12_homeMany_13 : decode cX12_homeMany 13 = .ok (.aload_n 0, 1) := by decide +kernel
theorem dX12_homeMany_14 : decode cX12_homeMany 14 = .ok (.getfield 58, 3) := by decide +kernel
theorem dX12_homeMany_17 : decode cX12_homeMany 17 = .ok (.iconst 0, 1) := by decide +kernel
theorem dX12_homeMany_18 : decode cX12_homeMany 18 = .ok (.iload_n 2, 1) := by decide +kernel
theorem dX12_homeMany_19 : decode cX12_homeMany 19 = .ok (.iadd, 1) := by decide +kernel
theorem dX12_homeMany_20 : decode cX12_homeMany 20 = .ok (.iaload, 1) := by decide +kernel
theorem dX12_homeMany_21 : decode cX12_homeMany 21 = .ok (.iload_n 2, 1) := by decide +kernel
theorem dX12_homeMany_22 : decode cX12_homeMany 22 = .ok (.if_icmp .ne 7, 3) := by decide +kernel
theorem dX12_homeMany_25 : decode cX12_homeMany 25 = .ok (.iconst 1, 1) := by decide +kernel
theorem dX12_homeMany_26 : decode cX12_homeMany 26 = .ok (.goto 4, 3) := by decide +kernel
theorem dX12_homeMany_29 : decode cX12_homeMany 29 = .ok (.iconst 0, 1) := by decide +kernel
theorem dX12_homeMany_30 : decode cX12_homeMany 30 = .ok (.iadd, 1) := by decide +kernel
theorem dX12_homeMany_31 : decode cX12_homeMany 31 = .ok (.istore_n 1, 1) := by decide +kernel
theorem dX12_homeMany_32 : decode cX12_homeMany 32 = .ok (.iinc 2 1, 3) := by decide +kernel
theorem dX12_homeMany_35 : decode cX12_homeMany 35 = .ok (.goto (-31), 3) := by decide +kernel
theorem dX12_homeMany_38 : decode cX12_homeMany 38 = .ok (.iload_n 1, 1) := by decide +kernel
theorem dX12_homeMany_39 : decode cX12_homeMany 39 = .ok (.ireturn, 1) := by decide +kernel
theorem dX12_most_0 : decode cX12_most 0 = .ok (.aload_n 0, 1) := by decide +kernel
theorem dX12_most_1 : decode cX12_most 1 = .ok (.getfield 283, 3) := by decide +kernel
theorem dX12_most_4 : decode cX12_most 4 = .ok (.ifCond .eq 13, 3) := by decide +kernel
theorem dX12_most_7 : decode cX12_most 7 = .ok (.iload_n 1, 1) := by decide +kernel
theorem dX12_most_8 : decode cX12_most 8 = .ok (.iconst 0, 1) := by decide +kernel
theorem dX12_most_9 : decode cX12_most 9 = .ok (.bipush 12, 2) := by decide +kernel
theorem dX12_most_11 : decode cX12_most 11 = .ok (.invokestatic 229, 3) := by decide +kernel
theorem dX12_most_14 : decode cX12_most 14 = .ok (.ifCond .ne 7, 3) := by decide +kernel
theorem dX12_most_17 : decode cX12_most 17 = .ok (.ldc_w 433, 3) := by decide +kernel
theorem dX12_most_20 : decode cX12_most 20 = .ok (.ireturn, 1) := by decide +kernel
theorem dX12_most_21 : decode cX12_most 21 = .ok (.iload_n 1, 1) := by decide +kernel
theorem dX12_most_22 : decode cX12_most 22 = .ok (.tableswitch 97 4 12 #[50, 55, 60, 66, 72, 77, 82, 87, 92], 50) := by decide +kernel
theorem dX12_most_72 : decode cX12_most 72 = .ok (.aload_n 0, 1) := by decide +kernel
theorem dX12_most_73 : decode cX12_most 73 = .ok (.invokevirtual 514, 3) := by decide +kernel
theorem dX12_most_76 : decode cX12_most 76 = .ok (.ireturn, 1) := by decide +kernel
theorem dX12_most_77 : decode cX12_most 77 = .ok (.aload_n 0, 1) := by decide +kernel
theorem dX12_most_78 : decode cX12_most 78 = .ok (.invokevirtual 517, 3) := by decide +kernel
theorem dX12_most_81 : decode cX12_most 81 = .ok (.ireturn, 1) := by decide +kernel
theorem dX12_most_82 : decode cX12_most 82 = .ok (.aload_n 0, 1) := by decide +kernel
theorem dX12_most_83 : decode cX12_most 83 = .ok (.iconst 1, 1) := by decide +kernel
theorem dX12_most_84 : decode cX12_most 84 = .ok (.invokevirtual 355, 3) := by decide +kernel
theorem dX12_most_87 : decode cX12_most 87 = .ok (.ireturn, 1) := by decide +kernel
theorem dX12_most_88 : decode cX12_most 88 = .ok (.aload_n 0, 1) := by decide +kernel
theorem dX12_most_89 : decode cX12_most 89 = .ok (.iconst 0, 1) := by decide +kernel
theorem dX12_most_90 : decode cX12_most 90 = .ok (.invokevirtual 355, 3) := by decide +kernel
theorem dX12_most_93 : decode cX12_most 93 = .ok (.ireturn, 1) := by decide +kernel
theorem dX12_most_94 : decode cX12_most 94 = .ok (.aload_n 0, 1) := by decide +kernel
theorem dX12_most_95 : decode cX12_most 95 = .ok (.invokevirtual 520, 3) := by decide +kernel
theorem dX12_most_98 : decode cX12_most 98 = .ok (.ireturn, 1) := by decide +kernel
theorem dX12_most_99 : decode cX12_most 99 = .ok (.aload_n 0, 1) := by decide +kernel
theorem dX12_most_100 : decode cX12_most 100 = .ok (.invokevirtual 523, 3) := by decide +kernel
theorem dX12_most_103 : decode cX12_most 103 = .ok (.ireturn, 1) := by decide +kernel
theorem dX12_most_104 : decode cX12_most 104 = .ok (.aload_n 0, 1) := by decide +kernel
theorem dX12_most_105 : decode cX12_most 105 = .ok (.invokevirtual 526, 3) := by decide +kernel
theorem dX12_most_108 : decode cX12_most 108 = .ok (.ireturn, 1) := by decide +kernel
theorem dX12_most_109 : decode cX12_most 109 = .ok (.aload_n 0, 1) := by decide +kernel
theorem dX12_most_110 : decode cX12_most 110 = .ok (.invokevirtual 508, 3) := by decide +kernel
theorem dX12_most_113 : decode cX12_most 113 = .ok (.ireturn, 1) := by decide +kernel
theorem dX12_most_114 : decode cX12_most 114 = .ok (.aload_n 0, 1) := by decide +kernel
theorem dX12_most_115 : decode cX12_most 115 = .ok (.invokevirtual 529, 3) := by decide +kernel
theorem dX12_most_118 : decode cX12_most 118 = .ok (.ireturn, 1) := by decide +kernel
theorem dX12_most_119 : decode cX12_most 119 = .ok (.aload_n 0, 1) := by decide +kernel
theorem dX12_most_120 : decode cX12_most 120 = .ok (.iload_n 1, 1) := by decide +kernel
theorem dX12_most_121 : decode cX12_most 121 = .ok (.invokevirtual 532, 3) := by decide +kernel
theorem dX12_most_124 : decode cX12_most 124 = .ok (.ireturn, 1) := by decide +kernel
theorem dX12_image_0 : decode cX12_image 0 = .ok (.aload_n 0, 1) := by decide +kernel
theorem dX12_image_1 : decode cX12_image 1 = .ok (.getfield 283, 3) := by decide +kernel
theorem dX12_image_4 : decode cX12_image 4 = .ok (.ifCond .ne 5, 3) := by decide +kernel
theorem dX12_image_7 : decode cX12_image 7 = .ok (.iconst (-1), 1) := by decide +kernel
theorem dX12_image_8 : decode cX12_image 8 = .ok (.ireturn, 1) := by decide +kernel
theorem dX12_image_9 : decode cX12_image 9 = .ok (.iconst 0, 1) := by decide +kernel
theorem dX12_image_10 : decode cX12_image 10 = .ok (.istore_n 1, 1) := by decide +kernel
theorem dX12_image_11 : decode cX12_image 11 = .ok (.iload_n 1, 1) := by decide +kernel
theorem dX12_image_12 : decode cX12_image 12 = .ok (.sipush 398, 3) := by decide +kernel
theorem dX12_image_15 : decode cX12_image 15 = .ok (.if_icmp .ge 21, 3) := by decide +kernel
theorem dX12_image_18 : decode cX12_image 18 = .ok (.aload_n 0, 1) := by decide +kernel
theorem dX12_image_19 : decode cX12_image 19 = .ok (.getfield 111, 3) := by decide +kernel
theorem dX12_image_22 : decode cX12_image 22 = .ok (.iload_n 1, 1) := by decide +kernel
theorem dX12_image_23 : decode cX12_image 23 = .ok (.aload_n 0, 1) := by decide +kernel
theorem dX12_image_24 : decode cX12_image 24 = .ok (.getfield 58, 3) := by decide +kernel
theorem dX12_image_27 : decode cX12_image 27 = .ok (.iload_n 1, 1) := by decide +kernel
theorem dX12_image_28 : decode cX12_image 28 = .ok (.iaload, 1) := by decide +kernel
theorem dX12_image_29 : decode cX12_image 29 = .ok (.iastore, 1) := by decide +kernel
theorem dX12_image_30 : decode cX12_image 30 = .ok (.iinc 1 1, 3) := by decide +kernel
theorem dX12_image_33 : decode cX12_image 33 = .ok (.goto (-22), 3) := by decide +kernel
theorem dX12_image_36 : decode cX12_image 36 = .ok (.aload_n 0, 1) := by decide +kernel
theorem dX12_image_37 : decode cX12_image 37 = .ok (.iconst 1, 1) := by decide +kernel
theorem dX12_image_38 : decode cX12_image 38 = .ok (.putfield 295, 3) := by decide +kernel
theorem dX12_image_41 : decode cX12_image 41 = .ok (.aload_n 0, 1) := by decide +kernel
theorem dX12_image_42 : decode cX12_image 42 = .ok (.getfield 58, 3) := by decide +kernel
theorem dX12_image_45 : decode cX12_image 45 = .ok (.sipush 216, 3) := by decide +kernel
theorem dX12_image_48 : decode cX12_image 48 = .ok (.iaload, 1) := by decide +kernel
theorem dX12_image_49 : decode cX12_image 49 = .ok (.ireturn, 1) := by decide +kernel
theorem dX12_back_0 : decode cX12_back 0 = .ok (.aload_n 0, 1) := by decide +kernel
theorem dX12_back_1 : decode cX12_back 1 = .ok (.getfield 295, 3) := by decide +kernel
theorem dX12_back_4 : decode cX12_back 4 = .ok (.ifCond .ne 5, 3) := by decide +kernel
theorem dX12_back_7 : decode cX12_back 7 = .ok (.iconst (-1), 1) := by decide +kernel
theorem dX12_back_8 : decode cX12_back 8 = .ok (.ireturn, 1) := by decide +kernel
theorem dX12_back_9 : decode cX12_back 9 = .ok (.iconst 0, 1) := by decide +kernel
theorem dX12_back_10 : decode cX12_back 10 = .ok (.istore_n 1, 1) := by decide +kernel
theorem dX12_back_11 : decode cX12_back 11 = .ok (.iload_n 1, 1) := by decide +kernel
theorem dX12_back_12 : decode cX12_back 12 = .ok (.sipush 398, 3) := by decide +kernel
theorem dX12_back_15 : decode cX12_back 15 = .ok (.if_icmp .ge 21, 3) := by decide +kernel
theorem dX12_back_18 : decode cX12_back 18 = .ok (.aload_n 0, 1) := by decide +kernel
theorem dX12_back_19 : decode cX12_back 19 = .ok (.getfield 58, 3) := by decide +kernel
theorem dX12_back_22 : decode cX12_back 22 = .ok (.iload_n 1, 1) := by decide +kernel
theorem dX12_back_23 : decode cX12_back 23 = .ok (.aload_n 0, 1) := by decide +kernel
theorem dX12_back_24 : decode cX12_back 24 = .ok (.getfield 111, 3) := by decide +kernel
theorem dX12_back_27 : decode cX12_back 27 = .ok (.iload_n 1, 1) := by decide +kernel
theorem dX12_back_28 : decode cX12_back 28 = .ok (.iaload, 1) := by decide +kernel
theorem dX12_back_29 : decode cX12_back 29 = .ok (.iastore, 1) := by decide +kernel
theorem dX12_back_30 : decode cX12_back 30 = .ok (.iinc 1 1, 3) := by decide +kernel
theorem dX12_back_33 : decode cX12_back 33 = .ok (.goto (-22), 3) := by decide +kernel
theorem dX12_back_36 : decode cX12_back 36 = .ok (.aload_n 0, 1) := by decide +kernel
theorem dX12_back_37 : decode cX12_back 37 = .ok (.iconst 0, 1) := by decide +kernel
theorem dX12_back_38 : decode cX12_back 38 = .ok (.putfield 292, 3) := by decide +kernel
theorem dX12_back_41 : decode cX12_back 41 = .ok (.aload_n 0, 1) := by decide +kernel
theorem dX12_back_42 : decode cX12_back 42 = .ok (.getfield 58, 3) := by decide +kernel
theorem dX12_back_45 : decode cX12_back 45 = .ok (.sipush 216, 3) := by decide +kernel
theorem dX12_back_48 : decode cX12_back 48 = .ok (.iaload, 1) := by decide +kernel
theorem dX12_back_49 : decode cX12_back 49 = .ok (.ireturn, 1) := by decide +kernel
theorem dX12_count_0 : decode cX12_count 0 = .ok (.iload_n 1, 1) := by decide +kernel
theorem dX12_count_1 : decode cX12_count 1 = .ok (.tableswitch 116 0 9 #[55, 60, 68, 73, 78, 83, 88, 97, 102, 111], 55) := by decide +kernel
theorem dX12_count_56 : decode cX12_count 56 = .ok (.aload_n 0, 1) := by decide +kernel
theorem dX12_count_57 : decode cX12_count 57 = .ok (.getfield 283, 3) := by decide +kernel
theorem dX12_count_60 : decode cX12_count 60 = .ok (.ireturn, 1) := by decide +kernel
theorem dX12_count_61 : decode cX12_count 61 = .ok (.aload_n 0, 1) := by decide +kernel
theorem dX12_count_62 : decode cX12_count 62 = .ok (.getfield 58, 3) := by decide +kernel
theorem dX12_count_65 : decode cX12_count 65 = .ok (.bipush 14, 2) := by decide +kernel
theorem dX12_count_67 : decode cX12_count 67 = .ok (.iaload, 1) := by decide +kernel
theorem dX12_count_68 : decode cX12_count 68 = .ok (.ireturn, 1) := by decide +kernel
theorem dX12_count_69 : decode cX12_count 69 = .ok (.aload_n 0, 1) := by decide +kernel
theorem dX12_count_70 : decode cX12_count 70 = .ok (.getfield 302, 3) := by decide +kernel
theorem dX12_count_73 : decode cX12_count 73 = .ok (.ireturn, 1) := by decide +kernel
theorem dX12_count_74 : decode cX12_count 74 = .ok (.aload_n 0, 1) := by decide +kernel
theorem dX12_count_75 : decode cX12_count 75 = .ok (.getfield 305, 3) := by decide +kernel
theorem dX12_count_78 : decode cX12_count 78 = .ok (.ireturn, 1) := by decide +kernel
theorem dX12_count_79 : decode cX12_count 79 = .ok (.aload_n 0, 1) := by decide +kernel
theorem dX12_count_80 : decode cX12_count 80 = .ok (.getfield 121, 3) := by decide +kernel
theorem dX12_count_83 : decode cX12_count 83 = .ok (.ireturn, 1) := by decide +kernel
theorem dX12_count_84 : decode cX12_count 84 = .ok (.aload_n 0, 1) := by decide +kernel
theorem dX12_count_85 : decode cX12_count 85 = .ok (.getfield 64, 3) := by decide +kernel
theorem dX12_count_88 : decode cX12_count 88 = .ok (.ireturn, 1) := by decide +kernel
theorem dX12_count_89 : decode cX12_count 89 = .ok (.aload_n 0, 1) := by decide +kernel
theorem dX12_count_90 : decode cX12_count 90 = .ok (.getfield 58, 3) := by decide +kernel
theorem dX12_count_93 : decode cX12_count 93 = .ok (.sipush 216, 3) := by decide +kernel
theorem dX12_count_96 : decode cX12_count 96 = .ok (.iaload, 1) := by decide +kernel
theorem dX12_count_97 : decode cX12_count 97 = .ok (.ireturn, 1) := by decide +kernel
theorem dX12_count_98 : decode cX12_count 98 = .ok (.aload_n 0, 1) := by decide +kernel
theorem dX12_count_99 : decode cX12_count 99 = .ok (.getfield 289, 3) := by decide +kernel
theorem dX12_count_102 : decode cX12_count 102 = .ok (.ireturn, 1) := by decide +kernel
theorem dX12_count_103 : decode cX12_count 103 = .ok (.aload_n 0, 1) := by decide +kernel
theorem dX12_count_104 : decode cX12_count 104 = .ok (.getfield 58, 3) := by decide +kernel
theorem dX12_count_107 : decode cX12_count 107 = .ok (.sipush 217, 3) := by decide +kernel
theorem dX12_count_110 : decode cX12_count 110 = .ok (.iaload, 1) := by decide +kernel
theorem dX12_count_111 : decode cX12_count 111 = .ok (.ireturn, 1) := by decide +kernel
theorem dX12_count_112 : decode cX12_count 112 = .ok (.aload_n 0, 1) := by decide +kernel
theorem dX12_count_113 : decode cX12_count 113 = .ok (.getfield 292, 3) := by decide +kernel
theorem dX12_count_116 : decode cX12_count 116 = .ok (.ireturn, 1) := by decide +kernel
theorem dX12_count_117 : decode cX12_count 117 = .ok (.ldc_w 433, 3) := by decide +kernel
theorem dX12_count_120 : decode cX12_count 120 = .ok (.ireturn, 1) := by decide +kernel
