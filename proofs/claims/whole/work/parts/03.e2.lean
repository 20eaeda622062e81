theorem dX12_keep_82 : decode cX12_keep 82 = .ok (.iinc 1 1, 3) := by decide +kernel
theorem dX12_keep_85 : decode cX12_keep 85 = .ok (.goto (-31), 3) := by decide +kernel
theorem dX12_keep_88 : decode cX12_keep 88 = .ok (.aload_n 0, 1) := by decide +kernel
theorem dX12_keep_89 : decode cX12_keep 89 = .ok (.dup, 1) := by decide +kernel
theorem dX12_keep_90 : decode cX12_keep 90 = .ok (.getfield 292, 3) := by decide +kernel
theorem dX12_keep_93 : decode cX12_keep 93 = .ok (.iconst 1, 1) := by decide +kernel
theorem dX12_keep_94 : decode cX12_keep 94 = .ok (.iadd, 1) := by decide +kernel
theorem dX12_keep_95 : decode cX12_keep 95 = .ok (.putfield 292, 3) := by decide +kernel
theorem dX12_keep_98 : decode cX12_keep 98 = .ok (.return_, 1) := by decide +kernel
theorem dX12_isRefused_0 : decode cX12_isRefused 0 = .ok (.iload_n 1, 1) := by decide +kernel
theorem dX12_isRefused_1 : decode cX12_isRefused 1 = .ok (.iconst (-1), 1) := by decide +kernel
theorem dX12_isRefused_2 : decode cX12_isRefused 2 = .ok (.if_icmp .eq 13, 3) := by decide +kernel
theorem dX12_isRefused_5 : decode cX12_isRefused 5 = .ok (.aload_n 0, 1) := by decide +kernel
theorem dX12_isRefused_6 : decode cX12_isRefused 6 = .ok (.getfield 61, 3) := by decide +kernel
theorem dX12_isRefused_9 : decode cX12_isRefused 9 = .ok (.iload_n 1, 1) := by decide +kernel
theorem dX12_isRefused_10 : decode cX12_isRefused 10 = .ok (.dup2, 1) := by decide +kernel
theorem dX12_isRefused_11 : decode cX12_isRefused 11 = .ok (.iaload, 1) := by decide +kernel
theorem dX12_isRefused_12 : decode cX12_isRefused 12 = .ok (.iconst 1, 1) := by decide +kernel
theorem dX12_isRefused_13 : decode cX12_isRefused 13 = .ok (.iadd, 1) := by decide +kernel
theorem dX12_isRefused_14 : decode cX12_isRefused 14 = .ok (.iastore, 1) := by decide +kernel
theorem dX12_isRefused_15 : decode cX12_isRefused 15 = .ok (.iload_n 1, 1) := by decide +kernel
theorem dX12_isRefused_16 : decode cX12_isRefused 16 = .ok (.iconst (-1), 1) := by decide +kernel
theorem dX12_isRefused_17 : decode cX12_isRefused 17 = .ok (.if_icmp .eq 7, 3) := by decide +kernel
theorem dX12_isRefused_20 : decode cX12_isRefused 20 = .ok (.iconst 1, 1) := by decide +kernel
theorem dX12_isRefused_21 : decode cX12_isRefused 21 = .ok (.goto 4, 3) := by decide +kernel
theorem dX12_isRefused_24 : decode cX12_isRefused 24 = .ok (.iconst 0, 1) := by decide +kernel
theorem dX12_isRefused_25 : decode cX12_isRefused 25 = .ok (.ireturn, 1) := by decide +kernel
theorem dX12_cross_0 : decode cX12_cross 0 = .ok (.iconst 2, 1) := by decide +kernel
theorem dX12_cross_1 : decode cX12_cross 1 = .ok (.iload_n 1, 1) := by decide +kernel
theorem dX12_cross_2 : decode cX12_cross 2 = .ok (.imul, 1) := by decide +kernel
theorem dX12_cross_3 : decode cX12_cross 3 = .ok (.iload_n 2, 1) := by decide +kernel
theorem dX12_cross_4 : decode cX12_cross 4 = .ok (.ifCond .eq 7, 3) := by decide +kernel
theorem dX12_cross_7 : decode cX12_cross 7 = .ok (.iconst 0, 1) := by decide +kernel
theorem dX12_cross_8 : decode cX12_cross 8 = .ok (.goto 4, 3) := by decide +kernel
theorem dX12_cross_11 : decode cX12_cross 11 = .ok (.iconst 1, 1) := by decide +kernel
theorem dX12_cross_12 : decode cX12_cross 12 = .ok (.iadd, 1) := by decide +kernel
theorem dX12_cross_13 : decode cX12_cross 13 = .ok (.istore_n 3, 1) := by decide +kernel
theorem dX12_cross_14 : decode cX12_cross 14 = .ok (.aload_n 0, 1) := by decide +kernel
theorem dX12_cross_15 : decode cX12_cross 15 = .ok (.aload_n 0, 1) := by decide +kernel
theorem dX12_cross_16 : decode cX12_cross 16 = .ok (.getfield 283, 3) := by decide +kernel
theorem dX12_cross_19 : decode cX12_cross 19 = .ok (.ifCond .ne 7, 3) := by decide +kernel
theorem dX12_cross_22 : decode cX12_cross 22 = .ok (.iconst 0, 1) := by decide +kernel
theorem dX12_cross_23 : decode cX12_cross 23 = .ok (.goto 51, 3) := by decide +kernel
theorem dX12_cross_26 : decode cX12_cross 26 = .ok (.aload_n 0, 1) := by decide +kernel
theorem dX12_cross_27 : decode cX12_cross 27 = .ok (.iload_n 1, 1) := by decide +kernel
theorem dX12_cross_28 : decode cX12_cross 28 = .ok (.invokevirtual 373, 3) := by decide +kernel
theorem dX12_cross_31 : decode cX12_cross 31 = .ok (.ifCond .ne 7, 3) := by decide +kernel
theorem dX12_cross_34 : decode cX12_cross 34 = .ok (.iconst 1, 1) := by decide +kernel
theorem dX12_cross_35 : decode cX12_cross 35 = .ok (.goto 39, 3) := by decide +kernel
theorem dX12_cross_38 : decode cX12_cross 38 = .ok (.aload_n 0, 1) := by decide +kernel
theorem dX12_cross_39 : decode cX12_cross 39 = .ok (.iload_n 3, 1) := by decide +kernel
theorem dX12_cross_40 : decode cX12_cross 40 = .ok (.invokevirtual 346, 3) := by decide +kernel
theorem dX12_cross_43 : decode cX12_cross 43 = .ok (.ifCond .eq 7, 3) := by decide +kernel
theorem dX12_cross_46 : decode cX12_cross 46 = .ok (.iconst 2, 1) := by decide +kernel
theorem dX12_cross_47 : decode cX12_cross 47 = .ok (.goto 27, 3) := by decide +kernel
theorem dX12_cross_50 : decode cX12_cross 50 = .ok (.aload_n 0, 1) := by decide +kernel
theorem dX12_cross_51 : decode cX12_cross 51 = .ok (.iload_n 3, 1) := by decide +kernel
theorem dX12_cross_52 : decode cX12_cross 52 = .ok (.invokevirtual 349, 3) := by decide +kernel
theorem dX12_cross_55 : decode cX12_cross 55 = .ok (.ifCond .eq 7, 3) := by decide +kernel
theorem dX12_cross_58 : decode cX12_cross 58 = .ok (.iconst 3, 1) := by decide +kernel
theorem dX12_cross_59 : decode cX12_cross 59 = .ok (.goto 15, 3) := by decide +kernel
theorem dX12_cross_62 : decode cX12_cross 62 = .ok (.aload_n 0, 1) := by decide +kernel
theorem dX12_cross_63 : decode cX12_cross 63 = .ok (.invokevirtual 394, 3) := by decide +kernel
theorem dX12_cross_66 : decode cX12_cross 66 = .ok (.ifCond .eq 7, 3) := by decide +kernel
theorem dX12_cross_69 : decode cX12_cross 69 = .ok (.iconst 4, 1) := by decide +kernel
theorem dX12_cross_70 : decode cX12_cross 70 = .ok (.goto 4, 3) := by decide +kernel
theorem dX12_cross_73 : decode cX12_cross 73 = .ok (.iconst (-1), 1) := by decide +kernel
theorem dX12_cross_74 : decode cX12_cross 74 = .ok (.invokevirtual 398, 3) := by decide +kernel
theorem dX12_cross_77 : decode cX12_cross 77 = .ok (.ifCond .eq 5, 3) := by decide +kernel
theorem dX12_cross_80 : decode cX12_cross 80 = .ok (.iconst (-1), 1) := by decide +kernel
theorem dX12_cross_81 : decode cX12_cross 81 = .ok (.ireturn, 1) := by decide +kernel
theorem dX12_cross_82 : decode cX12_cross 82 = .ok (.aload_n 0, 1) := by decide +kernel
theorem dX12_cross_83 : decode cX12_cross 83 = .ok (.invokevirtual 401, 3) := by decide +kernel
theorem dX12_cross_86 : decode cX12_cross 86 = .ok (.aload_n 0, 1) := by decide +kernel
theorem dX12_cross_87 : decode cX12_cross 87 = .ok (.iload_n 3, 1) := by decide +kernel
theorem dX12_cross_88 : decode cX12_cross 88 = .ok (.invokevirtual 404, 3) := by decide +kernel
theorem dX12_cross_91 : decode cX12_cross 91 = .ok (.ireturn, 1) := by decide +kernel
theorem dX12_beat_0 : decode cX12_beat 0 = .ok (.aload_n 0, 1) := by decide +kernel
theorem dX12_beat_1 : decode cX12_beat 1 = .ok (.aload_n 0, 1) := by decide +kernel
theorem dX12_beat_2 : decode cX12_beat 2 = .ok (.getfield 283, 3) := by decide +kernel
theorem dX12_beat_5 : decode cX12_beat 5 = .ok (.ifCond .ne 7, 3) := by decide +kernel
theorem dX12_beat_8 : decode cX12_beat 8 = .ok (.iconst 0, 1) := by decide +kernel
theorem dX12_beat_9 : decode cX12_beat 9 = .ok (.goto 15, 3) := by decide +kernel
theorem dX12_beat_12 : decode cX12_beat 12 = .ok (.aload_n 0, 1) := by decide +kernel
theorem dX12_beat_13 : decode cX12_beat 13 = .ok (.invokevirtual 394, 3) := by decide +kernel
theorem dX12_beat_16 : decode cX12_beat 16 = .ok (.ifCond .eq 7, 3) := by decide +kernel
theorem dX12_beat_19 : decode cX12_beat 19 = .ok (.iconst 4, 1) := by decide +kernel
theorem dX12_beat_20 : decode cX12_beat 20 = .ok (.goto 4, 3) := by decide +kernel
theorem dX12_beat_23 : decode cX12_beat 23 = .ok (.iconst (-1), 1) := by decide +kernel
theorem dX12_beat_24 : decode cX12_beat 24 = .ok (.invokevirtual 398, 3) := by decide +kernel
theorem dX12_beat_27 : decode cX12_beat 27 = .ok (.ifCond .eq 5, 3) := by decide +kernel
theorem dX12_beat_30 : decode cX12_beat 30 = .ok (.iconst (-1), 1) := by decide +kernel
theorem dX12_beat_31 : decode cX12_beat 31 = .ok (.ireturn, 1) := by decide +kernel
theorem dX12_beat_32 : decode cX12_beat 32 = .ok (.aload_n 0, 1) := by decide +kernel
theorem dX12_beat_33 : decode cX12_beat 33 = .ok (.invokevirtual 401, 3) := by decide +kernel
theorem dX12_beat_36 : decode cX12_beat 36 = .ok (.aload_n 0, 1) := by decide +kernel
theorem dX12_beat_37 : decode cX12_beat 37 = .ok (.bipush 20, 2) := by decide +kernel
theorem dX12_beat_39 : decode cX12_beat 39 = .ok (.invokevirtual 404, 3) := by decide +kernel
theorem dX12_beat_42 : decode cX12_beat 42 = .ok (.pop, 1) := by decide +kernel
theorem dX12_beat_43 : decode cX12_beat 43 = .ok (.aload_n 0, 1) := by decide +kernel
theorem dX12_beat_44 : decode cX12_beat 44 = .ok (.getfield 58, 3) := by decide +kernel
theorem dX12_beat_47 : decode cX12_beat 47 = .ok (.sipush 216, 3) := by decide +kernel
theorem dX12_beat_50 : decode cX12_beat 50 = .ok (.iaload, 1) := by decide +kernel
theorem dX12_beat_51 : decode cX12_beat 51 = .ok (.ireturn, 1) := by decide +kernel
theorem dX12_dance_0 : decode cX12_dance 0 = .ok (.aload_n 0, 1) := by decide +kernel
theorem dX12_dance_1 : decode cX12_dance 1 = .ok (.aload_n 0, 1) := by decide +kernel
theorem dX12_dance_2 : decode cX12_dance 2 = .ok (.iload_n 1, 1) := by decide +kernel
theorem dX12_dance_3 : decode cX12_dance 3 = .ok (.invokevirtual 407, 3) := by decide +kernel
theorem dX12_dance_6 : decode cX12_dance 6 = .ok (.ifCond .ne 7, 3) := by decide +kernel
theorem dX12_dance_9 : decode cX12_dance 9 = .ok (.iconst 0, 1) := by decide +kernel
theorem dX12_dance_10 : decode cX12_dance 10 = .ok (.goto 15, 3) := by decide +kernel
theorem dX12_dance_13 : decode cX12_dance 13 = .ok (.aload_n 0, 1) := by decide +kernel
theorem dX12_dance_14 : decode cX12_dance 14 = .ok (.invokevirtual 394, 3) := by decide +kernel
theorem dX12_dance_17 : decode cX12_dance 17 = .ok (.ifCond .eq 7, 3) := by decide +kernel
theorem dX12_dance_20 : decode cX12_dance 20 = .ok (.iconst 4, 1) := by decide +kernel
theorem dX12_dance_21 : decode cX12_dance 21 = .ok (.goto 4, 3) := by decide +kernel
theorem dX12_dance_24 : decode cX12_dance 24 = .ok (.iconst (-1), 1) := by decide +kernel
theorem dX12_dance_25 : decode cX12_dance 25 = .ok (.invokevirtual 398, 3) := by decide +kernel
theorem dX12_dance_28 : decode cX12_dance 28 = .ok (.ifCond .eq 5, 3) := by decide +kernel
theorem dX12_dance_31 : decode cX12_dance 31 = .ok (.iconst (-1), 1) := by decide +kernel
theorem dX12_dance_32 : decode cX12_dance 32 = .ok (.ireturn, 1) := by decide +kernel
theorem dX12_dance_33 : decode cX12_dance 33 = .ok (.iconst 0, 1) := by decide +kernel
theorem dX12_dance_34 : decode cX12_dance 34 = .ok (.istore_n 2, 1) := by decide +kernel
theorem dX12_dance_35 : decode cX12_dance 35 = .ok (.iload_n 2, 1) := by decide +kernel
theorem dX12_dance_36 : decode cX12_dance 36 = .ok (.aload_n 0, 1) := by decide +kernel
theorem dX12_dance_37 : decode cX12_dance 37 = .ok (.getfield 55, 3) := by decide +kernel
theorem dX12_dance_40 : decode cX12_dance 40 = .ok (.iload_n 1, 1) := by decide +kernel
theorem dX12_dance_41 : decode cX12_dance 41 = .ok (.iaload, 1) := by decide +kernel
theorem dX12_dance_42 : decode cX12_dance 42 = .ok (.if_icmp .ge 44, 3) := by decide +kernel
theorem dX12_dance_45 : decode cX12_dance 45 = .ok (.aload_n 0, 1) := by decide +kernel
theorem dX12_dance_46 : decode cX12_dance 46 = .ok (.invokevirtual 394, 3) := by decide +kernel
theorem dX12_dance_49 : decode cX12_dance 49 = .ok (.ifCond .ne 37, 3) := by decide +kernel
theorem dX12_dance_52 : decode cX12_dance 52 = .ok (.aload_n 0, 1) := by decide +kernel
theorem dX12_dance_53 : decode cX12_dance 53 = .ok (.aload_n 0, 1) := by decide +kernel
theorem dX12_dance_54 : decode cX12_dance 54 = .ok (.iload_n 1, 1) := by decide +kernel
theorem dX12_dance_55 : decode cX12_dance 55 = .ok (.iload_n 2, 1) := by decide +kernel
theorem dX12_dance_56 : decode cX12_dance 56 = .ok (.invokevirtual 410, 3) := by decide +kernel
theorem dX12_dance_59 : decode cX12_dance 59 = .ok (.invokevirtual 413, 3) := by decide +kernel
theorem dX12_dance_62 : decode cX12_dance 62 = .ok (.ifCond .eq 24, 3) := by decide +kernel
theorem dX12_dance_65 : decode cX12_dance 65 = .ok (.aload_n 0, 1) := by decide +kernel
theorem dX12_dance_66 : decode cX12_dance 66 = .ok (.invokevirtual 401, 3) := by decide +kernel
theorem dX12_dance_69 : decode cX12_dance 69 = .ok (.aload_n 0, 1) := by decide +kernel
theorem dX12_dance_70 : decode cX12_dance 70 = .ok (.aload_n 0, 1) := by decide +kernel
theorem dX12_dance_71 : decode cX12_dance 71 = .ok (.iload_n 1, 1) := by decide +kernel
theorem dX12_dance_72 : decode cX12_dance 72 = .ok (.iload_n 2, 1) := by decide +kernel
theorem dX12_dance_73 : decode cX12_dance 73 = .ok (.invokevirtual 410, 3) := by decide +kernel
theorem dX12_dance_76 : decode cX12_dance 76 = .ok (.invokevirtual 404, 3) := by decide +kernel
theorem dX12_dance_79 : decode cX12_dance 79 = .ok (.pop, 1) := by decide +kernel
theorem dX12_dance_80 : decode cX12_dance 80 = .ok (.iinc 2 1, 3) := by decide +kernel
theorem dX12_dance_83 : decode cX12_dance 83 = .ok (.goto (-48), 3) := by decide +kernel
theorem dX12_dance_86 : decode cX12_dance 86 = .ok (.iload_n 2, 1) := by decide +kernel
theorem dX12_dance_87 : decode cX12_dance 87 = .ok (.ireturn, 1) := by decide +kernel
theorem dX12_down_0 : decode cX12_down 0 = .ok (.aload_n 0, 1) := by decide +kernel
theorem dX12_down_1 : decode cX12_down 1 = .ok (.aload_n 0, 1) := by decide +kernel
theorem dX12_down_2 : decode cX12_down 2 = .ok (.getfield 283, 3) := by decide +kernel
theorem dX12_down_5 : decode cX12_down 5 = .ok (.ifCond .ne 7, 3) := by decide +kernel
theorem dX12_down_8 : decode cX12_down 8 = .ok (.iconst 0, 1) := by decide +kernel
theorem dX12_down_9 : decode cX12_down 9 = .ok (.goto 43, 3) := by decide +kernel
theorem dX12_down_12 : decode cX12_down 12 = .ok (.iload_n 1, 1) := by decide +kernel
theorem dX12_down_13 : decode cX12_down 13 = .ok (.iconst 1, 1) := by decide +kernel
theorem dX12_down_14 : decode cX12_down 14 = .ok (.bipush 9, 2) := by decide +kernel
theorem dX12_down_16 : decode cX12_down 16 = .ok (.invokestatic 229, 3) := by decide +kernel
theorem dX12_down_19 : decode cX12_down 19 = .ok (.ifCond .ne 7, 3) := by decide +kernel
theorem dX12_down_22 : decode cX12_down 22 = .ok (.iconst 1, 1) := by decide +kernel
theorem dX12_down_23 : decode cX12_down 23 = .ok (.goto 29, 3) := by decide +kernel
theorem dX12_down_26 : decode cX12_down 26 = .ok (.aload_n 0, 1) := by decide +kernel
theorem dX12_down_27 : decode cX12_down 27 = .ok (.getfield 58, 3) := by decide +kernel
theorem dX12_down_30 : decode cX12_down 30 = .ok (.bipush 14, 2) := by decide +kernel
theorem dX12_down_32 : decode cX12_down 32 = .ok (.iaload, 1) := by decide +kernel
theorem dX12_down_33 : decode cX12_down 33 = .ok (.ifCond .ne 7, 3) := by decide +kernel
theorem dX12_down_36 : decode cX12_down 36 = .ok (.iconst 2, 1) := by decide +kernel
theorem dX12_down_37 : decode cX12_down 37 = .ok (.goto 15, 3) := by decide +kernel
theorem dX12_down_40 : decode cX12_down 40 = .ok (.aload_n 0, 1) := by decide +kernel
theorem dX12_down_41 : decode cX12_down 41 = .ok (.invokevirtual 394, 3) := by decide +kernel
theorem dX12_down_44 : decode cX12_down 44 = .ok (.ifCond .eq 7, 3) := by decide +kernel
theorem dX12_down_47 : decode cX12_down 47 = .ok (.iconst 4, 1) := by decide +kernel
theorem dX12_down_48 : decode cX12_down 48 = .ok (.goto 4, 3) := by decide +kernel
theorem dX12_down_51 : decode cX12_down 51 = .ok (.iconst (-1), 1) := by decide +kernel
theorem dX12_down_52 : decode cX12_down 52 = .ok (.invokevirtual 398, 3) := by decide +kernel
theorem dX12_down_55 : decode cX12_down 55 = .ok (.ifCond .eq 5, 3) := by decide +kernel
theorem dX12_down_58 : decode cX12_down 58 = .ok (.iconst (-1), 1) := by decide +kernel
theorem dX12_down_59 : decode cX12_down 59 = .ok (.ireturn, 1) := by decide +kernel
theorem dX12_down_60 : decode cX12_down 60 = .ok (.iconst 0, 1) := by decide +kernel
theorem dX12_down_61 : decode cX12_down 61 = .ok (.istore_n 2, 1) := by decide +kernel
theorem dX12_down_62 : decode cX12_down 62 = .ok (.iload_n 2, 1) := by decide +kernel
theorem dX12_down_63 : decode cX12_down 63 = .ok (.iload_n 1, 1) := by decide +kernel
theorem dX12_down_64 : decode cX12_down 64 = .ok (.if_icmp .ge 39, 3) := by decide +kernel
theorem dX12_down_67 : decode cX12_down 67 = .ok (.aload_n 0, 1) := by decide +kernel
theorem dX12_down_68 : decode cX12_down 68 = .ok (.invokevirtual 394, 3) := by decide +kernel
theorem dX12_down_71 : decode cX12_down 71 = .ok (.ifCond .ne 32, 3) := by decide +kernel
theorem dX12_down_74 : decode cX12_down 74 = .ok (.aload_n 0, 1) := by decide +kernel
theorem dX12_down_75 : decode cX12_down 75 = .ok (.getfield 58, 3) := by decide +kernel
theorem dX12_down_78 : decode cX12_down 78 = .ok (.bipush 14, 2) := by decide +kernel
theorem dX12_down_80 : decode cX12_down 80 = .ok (.iaload, 1) := by decide +kernel
theorem dX12_down_81 : decode cX12_down 81 = .ok (.ifCond .le 22, 3) := by decide +kernel
theorem dX12_down_84 : decode cX12_down 84 = .ok (.aload_n 0, 1) := by decide +kernel
theorem dX12_down_85 : decode cX12_down 85 = .ok (.invokevirtual 401, 3) := by decide +kernel
theorem dX12_down_88 : decode cX12_down 88 = .ok (.aload_n 0, 1) := by decide +kernel
theorem dX12_down_89 : decode cX12_down 89 = .ok (.aload_n 0, 1) := by decide +kernel
theorem dX12_down_90 : decode cX12_down 90 = .ok (.invokevirtual 416, 3) := by decide +kernel
theorem dX12_down_93 : decode cX12_down 93 = .ok (.invokevirtual 404, 3) := by decide +kernel
theorem dX12_down_96 : decode cX12_down 96 = .ok (.pop, 1) := by decide +kernel
theorem dX12_down_97 : decode cX12_down 97 = .ok (.iinc 2 1, 3) := by decide +kernel
theorem dX12_down_100 : decode cX12_down 100 = .ok (.goto (-38), 3) := by decide +kernel
theorem dX12_down_103 : decode cX12_down 103 = .ok (.iload_n 2, 1) := by decide +kernel
theorem dX12_down_104 : decode cX12_down 104 = .ok (.ireturn, 1) := by decide +kernel
theorem dX12_longer_0 : decode cX12_longer 0 = .ok (.aload_n 0, 1) := by decide +kernel
theorem dX12_longer_1 : decode cX12_longer 1 = .ok (.aload_n 0, 1) := by decide +kernel
theorem dX12_longer_2 : decode cX12_longer 2 = .ok (.iload_n 1, 1) := by decide +kernel
theorem dX12_longer_3 : decode cX12_longer 3 = .ok (.invokevirtual 373, 3) := by decide +kernel
theorem dX12_longer_6 : decode cX12_longer 6 = .ok (.ifCond .ne 7, 3) := by decide +kernel
theorem dX12_longer_9 : decode cX12_longer 9 = .ok (.iconst 0, 1) := by decide +kernel
theorem dX12_longer_10 : decode cX12_longer 10 = .ok (.goto 50, 3) := by decide +kernel
theorem dX12_longer_13 : decode cX12_longer 13 = .ok (.iload_n 2, 1) := by decide +kernel
theorem dX12_longer_14 : decode cX12_longer 14 = .ok (.iconst 1, 1) := by decide +kernel
theorem dX12_longer_15 : decode cX12_longer 15 = .ok (.bipush 20, 2) := by decide +kernel
theorem dX12_longer_17 : decode cX12_longer 17 = .ok (.invokestatic 229, 3) := by decide +kernel
theorem dX12_longer_20 : decode cX12_longer 20 = .ok (.ifCond .ne 7, 3) := by decide +kernel
theorem dX12_longer_23 : decode cX12_longer 23 = .ok (.iconst 1, 1) := by decide +kernel
theorem dX12_longer_24 : decode cX12_longer 24 = .ok (.goto 36, 3) := by decide +kernel
theorem dX12_longer_27 : decode cX12_longer 27 = .ok (.aload_n 0, 1) := by decide +kernel
theorem dX12_longer_28 : decode cX12_longer 28 = .ok (.getfield 58, 3) := by decide +kernel
theorem dX12_longer_31 : decode cX12_longer 31 = .ok (.sipush 215, 3) := by decide +kernel
theorem dX12_longer_34 : decode cX12_longer 34 = .ok (.iaload, 1) := by decide +kernel
theorem dX12_longer_35 : decode cX12_longer 35 = .ok (.iload_n 2, 1) := by decide +kernel
theorem dX12_longer_36 : decode cX12_longer 36 = .ok (.if_icmp .lt 19, 3) := by decide +kernel
theorem dX12_longer_39 : decode cX12_longer 39 = .ok (.aload_n 0, 1) := by decide +kernel
theorem dX12_longer_40 : decode cX12_longer 40 = .ok (.getfield 58, 3) := by decide +kernel
theorem dX12_longer_43 : decode cX12_longer 43 = .ok (.bipush 7, 2) := by decide +kernel
theorem dX12_longer_45 : decode cX12_longer 45 = .ok (.iload_n 1, 1) := by decide +kernel
theorem dX12_longer_46 : decode cX12_longer 46 = .ok (.iadd, 1) := by decide +kernel
theorem dX12_longer_47 : decode cX12_longer 47 = .ok (.iaload, 1) := by decide +kernel
theorem dX12_longer_48 : decode cX12_longer 48 = .ok (.iload_n 2, 1) := by decide +kernel
theorem dX12_longer_49 : decode cX12_longer 49 = .ok (.iadd, 1) := by decide +kernel
theorem dX12_longer_50 : decode cX12_longer 50 = .ok (.bipush 99, 2) := by decide +kernel
theorem dX12_longer_52 : decode cX12_longer 52 = .ok (.if_icmp .le 7, 3) := by decide +kernel
theorem dX12_longer_55 : decode cX12_longer 55 = .ok (.iconst 3, 1) := by decide +kernel
theorem dX12_longer_56 : decode cX12_longer 56 = .ok (.goto 4, 3) := by decide +kernel
theorem dX12_longer_59 : decode cX12_longer 59 = .ok (.iconst (-1), 1) := by decide +kernel
theorem dX12_longer_60 : decode cX12_longer 60 = .ok (.invokevirtual 398, 3) := by decide +kernel
theorem dX12_longer_63 : decode cX12_longer 63 = .ok (.ifCond .eq 5, 3) := by decide +kernel
theorem dX12_longer_66 : decode cX12_longer 66 = .ok (.iconst (-1), 1) := by decide +kernel
theorem dX12_longer_67 : decode cX12_longer 67 = .ok (.ireturn, 1) := by decide +kernel
theorem dX12_longer_68 : decode cX12_longer 68 = .ok (.aload_n 0, 1) := by decide +kernel
theorem dX12_longer_69 : decode cX12_longer 69 = .ok (.invokevirtual 401, 3) := by decide +kernel
theorem dX12_longer_72 : decode cX12_longer 72 = .ok (.aload_n 0, 1) := by decide +kernel
theorem dX12_longer_73 : decode cX12_longer 73 = .ok (.getfield 58, 3) := by decide +kernel
theorem dX12_longer_76 : decode cX12_longer 76 = .ok (.sipush 215, 3) := by decide +kernel
theorem dX12_longer_79 : decode cX12_longer 79 = .ok (.dup2, 1) := by decide +kernel
theorem dX12_longer_80 : decode cX12_longer 80 = .ok (.iaload, 1) := by decide +kernel
theorem dX12_longer_81 : decode cX12_longer 81 = .ok (.iload_n 2, 1) := by decide +kernel
theorem dX12_longer_82 : decode cX12_longer 82 = .ok (.isub, 1) := by decide +kernel
theorem dX12_longer_83 : decode cX12_longer 83 = .ok (.iastore, 1) := by decide +kernel
theorem dX12_longer_84 : decode cX12_longer 84 = .ok (.aload_n 0, 1) := by decide +kernel
theorem dX12_longer_85 : decode cX12_longer 85 = .ok (.getfield 58, 3) := by decide +kernel
theorem dX12_longer_88 : decode cX12_longer 88 = .ok (.bipush 7, 2) := by decide +kernel
theorem dX12_longer_90 : decode cX12_longer 90 = .ok (.iload_n 1, 1) := by decide +kernel
theorem dX12_longer_91 : decode cX12_longer 91 = .ok (.iadd, 1) := by decide +kernel
theorem dX12_longer_92 : decode cX12_longer 92 = .ok (.dup2, 1) := by decide +kernel
theorem dX12_longer_93 : decode cX12_longer 93 = .ok (.iaload, 1) := by decide +kernel
theorem dX12_longer_94 : decode cX12_longer 94 = .ok (.iload_n 2, 1) := by decide +kernel
theorem dX12_longer_95 : decode cX12_longer 95 = .ok (.iadd, 1) := by decide +kernel
theorem dX12_longer_96 : decode cX12_longer 96 = .ok (.iastore, 1) := by decide +kernel
theorem dX12_longer_97 : decode cX12_longer 97 = .ok (.aload_n 0, 1) := by decide +kernel
theorem dX12_longer_98 : decode cX12_longer 98 = .ok (.getfield 58, 3) := by decide +kernel
theorem dX12_longer_101 : decode cX12_longer 101 = .ok (.bipush 7, 2) := by decide +kernel
theorem dX12_longer_103 : decode cX12_longer 103 = .ok (.iload_n 1, 1) := by decide +kernel
theorem dX12_longer_104 : decode cX12_longer 104 = .ok (.iadd, 1) := by decide +kernel
theorem dX12_longer_105 : decode cX12_longer 105 = .ok (.iaload, 1) := by decide +kernel
theorem dX12_longer_106 : decode cX12_longer 106 = .ok (.ireturn, 1) := by decide +kernel
theorem dX12_give_0 : decode cX12_give 0 = .ok (.aload_n 0, 1) := by decide +kernel
theorem dX12_give_1 : decode cX12_give 1 = .ok (.aload_n 0, 1) := by decide +kernel
theorem dX12_give_2 : decode cX12_give 2 = .ok (.getfield 283, 3) := by decide +kernel
theorem dX12_give_5 : decode cX12_give 5 = .ok (.ifCond .ne 7, 3) := by decide +kernel
theorem dX12_give_8 : decode cX12_give 8 = .ok (.iconst 0, 1) := by decide +kernel
theorem dX12_give_9 : decode cX12_give 9 = .ok (.goto 34, 3) := by decide +kernel
theorem dX12_give_12 : decode cX12_give 12 = .ok (.iload_n 1, 1) := by decide +kernel
theorem dX12_give_13 : decode cX12_give 13 = .ok (.iconst 1, 1) := by decide +kernel
theorem dX12_give_14 : decode cX12_give 14 = .ok (.bipush 50, 2) := by decide +kernel
theorem dX12_give_16 : decode cX12_give 16 = .ok (.invokestatic 229, 3) := by decide +kernel
theorem dX12_give_19 : decode cX12_give 19 = .ok (.ifCond .eq 19, 3) := by decide +kernel
theorem dX12_give_22 : decode cX12_give 22 = .ok (.aload_n 0, 1) := by decide +kernel
theorem dX12_give_23 : decode cX12_give 23 = .ok (.getfield 58, 3) := by decide +kernel
theorem dX12_give_26 : decode cX12_give 26 = .ok (.sipush 215, 3) := by decide +kernel
theorem dX12_give_29 : decode cX12_give 29 = .ok (.iaload, 1) := by decide +kernel
theorem dX12_give_30 : decode cX12_give 30 = .ok (.iload_n 1, 1) := by decide +kernel
theorem dX12_give_31 : decode cX12_give 31 = .ok (.iadd, 1) := by decide +kernel
theorem dX12_give_32 : decode cX12_give 32 = .ok (.sipush 999, 3) := by decide +kernel
theorem dX12_give_35 : decode cX12_give 35 = .ok (.if_icmp .le 7, 3) := by decide +kernel
theorem dX12_give_38 : decode cX12_give 38 = .ok (.iconst 1, 1) := by decide +kernel
theorem dX12_give_39 : decode cX12_give 39 = .ok (.goto 4, 3) := by decide +kernel
theorem dX12_give_42 : decode cX12_give 42 = .ok (.iconst (-1), 1) := by decide +kernel
theorem dX12_give_43 : decode cX12_give 43 = .ok (.invokevirtual 398, 3) := by decide +kernel
theorem dX12_give_46 : decode cX12_give 46 = .ok (.ifCond .eq 5, 3) := by decide +kernel
theorem dX12_give_49 : decode cX12_give 49 = .ok (.iconst (-1), 1) := by decide +kernel
theorem dX12_give_50 : decode cX12_give 50 = .ok (.ireturn, 1) := by decide +kernel
theorem dX12_give_51 : decode cX12_give 51 = .ok (.aload_n 0, 1) := by decide +kernel
theorem dX12_give_52 : decode cX12_give 52 = .ok (.invokevirtual 401, 3) := by decide +kernel
theorem dX12_give_55 : decode cX12_give 55 = .ok (.aload_n 0, 1) := by decide +kernel
theorem dX12_give_56 : decode cX12_give 56 = .ok (.getfield 58, 3) := by decide +kernel
theorem dX12_give_59 : decode cX12_give 59 = .ok (.sipush 215, 3) := by decide +kernel
theorem dX12_give_62 : decode cX12_give 62 = .ok (.dup2, 1) := by decide +kernel
theorem dX12_give_63 : decode cX12_give 63 = .ok (.iaload, 1) := by decide +kernel
theorem dX12_give_64 : decode cX12_give 64 = .ok (.iload_n 1, 1) := by decide +kernel
theorem dX12_give_65 : decode cX12_give 65 = .ok (.iadd, 1) := by decide +kernel
theorem dX12_give_66 : decode cX12_give 66 = .ok (.iastore, 1) := by decide +kernel
theorem dX12_give_67 : decode cX12_give 67 = .ok (.aload_n 0, 1) := by decide +kernel
theorem dX12_give_68 : decode cX12_give 68 = .ok (.getfield 58, 3) := by decide +kernel
theorem dX12_give_71 : decode cX12_give 71 = .ok (.sipush 215, 3) := by decide +kernel
theorem dX12_give_74 : decode cX12_give 74 = .ok (.iaload, 1) := by decide +kernel
theorem dX12_give_75 : decode cX12_give 75 = .ok (.ireturn, 1) := by decide +kernel
theorem dX12_draw_0 : decode cX12_draw 0 = .ok (.aload_n 0, 1) := by decide +kernel
theorem dX12_draw_1 : decode cX12_draw 1 = .ok (.aload_n 0, 1) := by decide +kernel
theorem dX12_draw_2 : decode cX12_draw 2 = .ok (.getfield 419, 3) := by decide +kernel
theorem dX12_draw_5 : decode cX12_draw 5 = .ok (.ldc2_w 423, 3) := by decide +kernel
theorem dX12_draw_8 : decode cX12_draw 8 = .ok (.lmul, 1) := by decide +kernel
theorem dX12_draw_9 : decode cX12_draw 9 = .ok (.ldc2_w 425, 3) := by decide +kernel
theorem dX12_draw_12 : decode cX12_draw 12 = .ok (.ladd, 1) := by decide +kernel
theorem dX12_draw_13 : decode cX12_draw 13 = .ok (.putfield 419, 3) := by decide +kernel
theorem dX12_draw_16 : decode cX12_draw 16 = .ok (.aload_n 0, 1) := by decide +kernel
theorem dX12_draw_17 : decode cX12_draw 17 = .ok (.getfield 419, 3) := by decide +kernel
theorem dX12_draw_20 : decode cX12_draw 20 = .ok (.bipush 33, 2) := by decide +kernel
theorem dX12_draw_22 : decode cX12_draw 22 = .ok (.lushr, 1) := by decide +kernel
theorem dX12_draw_23 : decode cX12_draw 23 = .ok (.iload_n 1, 1) := by decide +kernel
theorem dX12_draw_24 : decode cX12_draw 24 = .ok (.i2l, 1) := by decide +kernel
theorem dX12_draw_25 : decode cX12_draw 25 = .ok (.lrem, 1) := by decide +kernel
theorem dX12_draw_26 : decode cX12_draw 26 = .ok (.l2i, 1) := by decide +kernel
theorem dX12_draw_27 : decode cX12_draw 27 = .ok (.ireturn, 1) := by decide +kernel
theorem dX12_drawBeat_0 : decode cX12_drawBeat 0 = .ok (.aload_n 0, 1) := by decide +kernel
theorem dX12_drawBeat_1 : decode cX12_drawBeat 1 = .ok (.aload_n 0, 1) := by decide +kernel
theorem dX12_drawBeat_2 : decode cX12_drawBeat 2 = .ok (.getfield 283, 3) := by decide +kernel
theorem dX12_drawBeat_5 : decode cX12_drawBeat 5 = .ok (.invokevirtual 427, 3) := by decide +kernel
theorem dX12_drawBeat_8 : decode cX12_drawBeat 8 = .ok (.istore_n 1, 1) := by decide +kernel
theorem dX12_drawBeat_9 : decode cX12_drawBeat 9 = .ok (.iconst 2, 1) := by decide +kernel
theorem dX12_drawBeat_10 : decode cX12_drawBeat 10 = .ok (.iload_n 1, 1) := by decide +kernel
theorem dX12_drawBeat_11 : decode cX12_drawBeat 11 = .ok (.imul, 1) := by decide +kernel
theorem dX12_drawBeat_12 : decode cX12_drawBeat 12 = .ok (.aload_n 0, 1) := by decide +kernel
theorem dX12_drawBeat_13 : decode cX12_drawBeat 13 = .ok (.iconst 2, 1) := by decide +kernel
theorem dX12_drawBeat_14 : decode cX12_drawBeat 14 = .ok (.invokevirtual 427, 3) := by decide +kernel
theorem dX12_drawBeat_17 : decode cX12_drawBeat 17 = .ok (.iadd, 1) := by decide +kernel
theorem dX12_drawBeat_18 : decode cX12_drawBeat 18 = .ok (.istore_n 2, 1) := by decide +kernel
theorem dX12_drawBeat_19 : decode cX12_drawBeat 19 = .ok (.aload_n 0, 1) := by decide +kernel
theorem dX12_drawBeat_20 : decode cX12_drawBeat 20 = .ok (.aload_n 0, 1) := by decide +kernel
theorem dX12_drawBeat_21 : decode cX12_drawBeat 21 = .ok (.iload_n 2, 1) := by decide +kernel
theorem dX12_drawBeat_22 : decode cX12_drawBeat 22 = .ok (.invokevirtual 370, 3) := by decide +kernel
theorem dX12_drawBeat_25 : decode cX12_drawBeat 25 = .ok (.ifCond .eq 7, 3) := by decide +kernel
theorem dX12_drawBeat_28 : decode cX12_drawBeat 28 = .ok (.iload_n 2, 1) := by decide +kernel
theorem dX12_drawBeat_29 : decode cX12_drawBeat 29 = .ok (.goto 5, 3) := by decide +kernel
theorem dX12_drawBeat_32 : decode cX12_drawBeat 32 = .ok (.bipush 20, 2) := by decide +kernel
theorem dX12_drawBeat_34 : decode cX12_drawBeat 34 = .ok (.invokevirtual 404, 3) := by decide +kernel
theorem dX12_drawBeat_37 : decode cX12_drawBeat 37 = .ok (.pop, 1) := by decide +kernel
theorem dX12_drawBeat_38 : decode cX12_drawBeat 38 = .ok (.aload_n 0, 1) := by decide +kernel
theorem dX12_drawBeat_39 : decode cX12_drawBeat 39 = .ok (.bipush 10, 2) := by decide +kernel
theorem dX12_drawBeat_41 : decode cX12_drawBeat 41 = .ok (.invokevirtual 427, 3) := by decide +kernel
theorem dX12_drawBeat_44 : decode cX12_drawBeat 44 = .ok (.aload_n 0, 1) := by decide +kernel
theorem dX12_drawBeat_45 : decode cX12_drawBeat 45 = .ok (.getfield 46, 3) := by decide +kernel
theorem dX12_drawBeat_48 : decode cX12_drawBeat 48 = .ok (.iconst 2, 1) := by decide +kernel
theorem dX12_drawBeat_49 : decode cX12_drawBeat 49 = .ok (.iaload, 1) := by decide +kernel
theorem dX12_drawBeat_50 : decode cX12_drawBeat 50 = .ok (.if_icmp .ge 22, 3) := by decide +kernel
theorem dX12_drawBeat_53 : decode cX12_drawBeat 53 = .ok (.aload_n 0, 1) := by decide +kernel
theorem dX12_drawBeat_54 : decode cX12_drawBeat 54 = .ok (.getfield 58, 3) := by decide +kernel
theorem dX12_drawBeat_57 : decode cX12_drawBeat 57 = .ok (.bipush 14, 2) := by decide +kernel
theorem dX12_drawBeat_59 : decode cX12_drawBeat 59 = .ok (.iaload, 1) := by decide +kernel
theorem dX12_drawBeat_60 : decode cX12_drawBeat 60 = .ok (.ifCond .le 12, 3) := by decide +kernel
theorem dX12_drawBeat_63 : decode cX12_drawBeat 63 = .ok (.aload_n 0, 1) := by decide +kernel
theorem dX12_drawBeat_64 : decode cX12_drawBeat 64 = .ok (.aload_n 0, 1) := by decide +kernel
theorem dX12_drawBeat_65 : decode cX12_drawBeat 65 = .ok (.invokevirtual 416, 3) := by decide +kernel
theorem dX12_drawBeat_68 : decode cX12_drawBeat 68 = .ok (.invokevirtual 364, 3) := by decide +kernel
theorem dX12_drawBeat_71 : decode cX12_drawBeat 71 = .ok (.pop, 1) := by decide +kernel
theorem dX12_drawBeat_72 : decode cX12_drawBeat 72 = .ok (.return_, 1) := by decide +kernel
theorem dX12_years_0 : decode cX12_years 0 = .ok (.aload_n 0, 1) := by decide +kernel
theorem dX12_years_1 : decode cX12_years 1 = .ok (.getfield 283, 3) := by decide +kernel
theorem dX12_years_4 : decode cX12_years 4 = .ok (.ifCond .eq 29, 3) := by decide +kernel
theorem dX12_years_7 : decode cX12_years 7 = .ok (.iload_n 1, 1) := by decide +kernel
theorem dX12_years_8 : decode cX12_years 8 = .ok (.iconst 1, 1) := by decide +kernel
theorem dX12_years_9 : decode cX12_years 9 = .ok (.bipush 60, 2) := by decide +kernel
theorem dX12_years_11 : decode cX12_years 11 = .ok (.invokestatic 229, 3) := by decide +kernel
theorem dX12_years_14 : decode cX12_years 14 = .ok (.ifCond .eq 19, 3) := by decide +kernel
theorem dX12_years_17 : decode cX12_years 17 = .ok (.aload_n 0, 1) := by decide +kernel
theorem dX12_years_18 : decode cX12_years 18 = .ok (.getfield 58, 3) := by decide +kernel
theorem dX12_years_21 : decode cX12_years 21 = .ok (.sipush 216, 3) := by decide +kernel
theorem dX12_years_24 : decode cX12_years 24 = .ok (.iaload, 1) := by decide +kernel
theorem dX12_years_25 : decode cX12_years 25 = .ok (.iload_n 1, 1) := by decide +kernel
theorem dX12_years_26 : decode cX12_years 26 = .ok (.iadd, 1) := by decide +kernel
theorem dX12_years_27 : decode cX12_years 27 = .ok (.sipush 999, 3) := by decide +kernel
theorem dX12_years_30 : decode cX12_years 30 = .ok (.if_icmp .le 5, 3) := by decide +kernel
theorem dX12_years_33 : decode cX12_years 33 = .ok (.iconst (-1), 1) := by decide +kernel
theorem dX12_years_34 : decode cX12_years 34 = .ok (.ireturn, 1) := by decide +kernel
theorem dX12_years_35 : decode cX12_years 35 = .ok (.aload_n 0, 1) := by decide +kernel
theorem dX12_years_36 : decode cX12_years 36 = .ok (.lload_n 2, 1) := by decide +kernel
theorem dX12_years_37 : decode cX12_years 37 = .ok (.putfield 419, 3) := by decide +kernel
theorem dX12_years_40 : decode cX12_years 40 = .ok (.iconst 0, 1) := by decide +kernel
theorem dX12_years_41 : decode cX12_years 41 = .ok (.istore 4, 2) := by decide +kernel
theorem dX12_years_43 : decode cX12_years 43 = .ok (.iload 4, 2) := by decide +kernel
theorem dX12_years_45 : decode cX12_years 45 = .ok (.iload_n 1, 1) := by decide +kernel
theorem dX12_years_46 : decode cX12_years 46 = .ok (.if_icmp .ge 17, 3) := by decide +kernel
theorem dX12_years_49 : decode cX12_years 49 = .ok (.aload_n 0, 1) := by decide +kernel
theorem dX12_years_50 : decode cX12_years 50 = .ok (.invokevirtual 401, 3) := by decide +kernel
theorem dX12_years_53 : decode cX12_years 53 = .ok (.aload_n 0, 1) := by decide +kernel
theorem dX12_years_54 : decode cX12_years 54 = .ok (.invokevirtual 430, 3) := by decide +kernel
theorem dX12_years_57 : decode cX12_years 57 = .ok (.iinc 4 1, 3) := by decide +kernel
theorem dX12_years_60 : decode cX12_years 60 = .ok (.goto (-17), 3) := by decide +kernel
theorem dX12_years_63 : decode cX12_years 63 = .ok (.aload_n 0, 1) := by decide +kernel
theorem dX12_years_64 : decode cX12_years 64 = .ok (.getfield 58, 3) := by decide +kernel
theorem dX12_years_67 : decode cX12_years 67 = .ok (.sipush 216, 3) := by decide +kernel
theorem dX12_years_70 : decode cX12_years 70 = .ok (.iaload, 1) := by decide +kernel
theorem dX12_years_71 : decode cX12_years 71 = .ok (.ireturn, 1) := by decide +kernel
theorem dX12_status_0 : decode cX12_status 0 = .ok (.iload_n 1, 1) := by decide +kernel
theorem dX12_status_1 : decode cX12_status 1 = .ok (.iconst 0, 1) := by decide +kernel
theorem dX12_status_2 : decode cX12_status 2 = .ok (.iconst 4, 1) := by decide +kernel
theorem dX12_status_3 : decode cX12_status 3 = .ok (.invokestatic 229, 3) := by decide +kernel
theorem dX12_status_6 : decode cX12_status 6 = .ok (.ifCond .eq 12, 3) := by decide +kernel
theorem dX12_status_9 : decode cX12_status 9 = .ok (.aload_n 0, 1) := by decide +kernel
theorem dX12_status_10 : decode cX12_status 10 = .ok (.getfield 61, 3) := by decide +kernel
theorem dX12_status_13 : decode cX12_status 13 = .ok (.iload_n 1, 1) := by decide +kernel
theorem dX12_status_14 : decode cX12_status 14 = .ok (.iaload, 1) := by decide +kernel
theorem dX12_status_15 : decode cX12_status 15 = .ok (.goto 4, 3) := by decide +kernel
theorem dX12_status_18 : decode cX12_status 18 = .ok (.iconst (-1), 1) := by decide +kernel
theorem dX12_status_19 : decode cX12_status 19 = .ok (.ireturn, 1) := by decide +kernel
theorem dX12_undo_0 : decode cX12_undo 0 = .ok (.aload_n 0, 1) := by decide +kernel
theorem dX12_undo_1 : decode cX12_undo 1 = .ok (.getfield 292, 3) := by decide +kernel
theorem dX12_undo_4 : decode cX12_undo 4 = .ok (.ifCond .ne 5, 3) := by decide +kernel
theorem dX12_undo_7 : decode cX12_undo 7 = .ok (.iconst (-1), 1) := by decide +kernel
theorem dX12_undo_8 : decode cX12_undo 8 = .ok (.ireturn, 1) := by decide +kernel
theorem dX12_undo_9 : decode cX12_undo 9 = .ok (.aload_n 0, 1) := by decide +kernel
theorem dX12_undo_10 : decode cX12_undo 10 = .ok (.dup, 1) := by decide +kernel
theorem dX12_undo_11 : decode cX12_undo 11 = .ok (.getfield 292, 3) := by decide +kernel
theorem dX12_undo_14 : decode cX12_undo 14 = .ok (.iconst 1, 1) := by decide +kernel
theorem dX12_undo_15 : decode cX12_undo 15 = .ok (.isub, 1) := by decide +kernel
theorem dX12_undo_16 : decode cX12_undo 16 = .ok (.putfield 292, 3) := by decide +kernel
theorem dX12_undo_19 : decode cX12_undo 19 = .ok (.iconst 0, 1) := by decide +kernel
theorem dX12_undo_20 : decode cX12_undo 20 = .ok (.istore_n 1, 1) := by decide +kernel
theorem dX12_undo_21 : decode cX12_undo 21 = .ok (.iload_n 1, 1) := by decide +kernel
theorem dX12_undo_22 : decode cX12_undo 22 = .ok (.sipush 398, 3) := by decide +kernel
theorem dX12_undo_25 : decode cX12_undo 25 = .ok (.if_icmp .ge 30, 3) := by decide +kernel
theorem dX12_undo_28 : decode cX12_undo 28 = .ok (.aload_n 0, 1) := by decide +kernel
theorem dX12_undo_29 : decode cX12_undo 29 = .ok (.getfield 58, 3) := by decide +kernel
theorem dX12_undo_32 : decode cX12_undo 32 = .ok (.iload_n 1, 1) := by decide +kernel
theorem dX12_undo_33 : decode cX12_undo 33 = .ok (.aload_n 0, 1) := by decide +kernel
theorem dX12_undo_34 : decode cX12_undo 34 = .ok (.getfield 78, 3) := by decide +kernel
theorem dX12_undo_37 : decode cX12_undo 37 = .ok (.sipush 398, 3) := by decide +kernel
theorem dX12_undo_40 : decode cX12_undo 40 = .ok (.aload_n 0, 1) := by decide +kernel
theorem dX12_undo_41 : decode cX12_undo 41 = .ok (.getfield 292, 3) := by decide +kernel
theorem dX12_undo_44 : decode cX12_undo 44 = .ok (.imul, 1) := by decide +kernel
theorem dX12_undo_45 : decode cX12_undo 45 = .ok (.iload_n 1, 1) := by decide +kernel
theorem dX12_undo_46 : decode cX12_undo 46 = .ok (.iadd, 1) := by decide +kernel
theorem dX12_undo_47 : decode cX12_undo 47 = .ok (.iaload, 1) := by decide +kernel
theorem dX12_undo_48 : decode cX12_undo 48 = .ok (.iastore, 1) := by decide +kernel
theorem dX12_undo_49 : decode cX12_undo 49 = .ok (.iinc 1 1, 3) := by decide +kernel
theorem dX12_undo_52 : decode cX12_undo 52 = .ok (.goto (-31), 3) := by decide +kernel
theorem dX12_undo_55 : decode cX12_undo 55 = .ok (.aload_n 0, 1) := by decide +kernel
theorem dX12_undo_56 : decode cX12_undo 56 = .ok (.getfield 292, 3) := by decide +kernel
theorem dX12_undo_59 : decode cX12_undo 59 = .ok (.ireturn, 1) := by decide +kernel
theorem dX12_log_0 : decode cX12_log 0 = .ok (.iload_n 1, 1) := by decide +kernel
theorem dX12_log_1 : decode cX12_log 1 = .ok (.iconst 0, 1) := by decide +kernel
theorem dX12_log_2 : decode cX12_log 2 = .ok (.aload_n 0, 1) := by decide +kernel
theorem dX12_log_3 : decode cX12_log 3 = .ok (.getfield 58, 3) := by decide +kernel
theorem dX12_log_6 : decode cX12_log 6 = .ok (.sipush 217, 3) := by decide +kernel
theorem dX12_log_9 : decode cX12_log 9 = .ok (.iaload, 1) := by decide +kernel
theorem dX12_log_10 : decode cX12_log 10 = .ok (.iconst 1, 1) := by decide +kernel
theorem dX12_log_11 : decode cX12_log 11 = .ok (.isub, 1) := by decide +kernel
theorem dX12_log_12 : decode cX12_log 12 = .ok (.invokestatic 229, 3) := by decide +kernel
theorem dX12_log_15 : decode cX12_log 15 = .ok (.ifCond .eq 40, 3) := by decide +kernel
theorem dX12_log_18 : decode cX12_log 18 = .ok (.iload_n 2, 1) := by decide +kernel
theorem dX12_log_19 : decode cX12_log 19 = .ok (.iconst 0, 1) := by decide +kernel
theorem dX12_log_20 : decode cX12_log 20 = .ok (.iconst 2, 1) := by decide +kernel
theorem dX12_log_21 : decode cX12_log 21 = .ok (.invokestatic 229, 3) := by decide +kernel
theorem dX12_log_24 : decode cX12_log 24 = .ok (.ifCond .eq 31, 3) := by decide +kernel
theorem dX12_log_27 : decode cX12_log 27 = .ok (.aload_n 0, 1) := by decide +kernel
theorem dX12_log_28 : decode cX12_log 28 = .ok (.getfield 58, 3) := by decide +kernel
theorem dX12_log_31 : decode cX12_log 31 = .ok (.sipush 218, 3) := by decide +kernel
theorem dX12_log_34 : decode cX12_log 34 = .ok (.iconst 3, 1) := by decide +kernel
theorem dX12_log_35 : decode cX12_log 35 = .ok (.aload_n 0, 1) := by decide +kernel
theorem dX12_log_36 : decode cX12_log 36 = .ok (.getfield 58, 3) := by decide +kernel
theorem dX12_log_39 : decode cX12_log 39 = .ok (.sipush 217, 3) := by decide +kernel
theorem dX12_log_42 : decode cX12_log 42 = .ok (.iaload, 1) := by decide +kernel
theorem dX12_log_43 : decode cX12_log 43 = .ok (.iconst 1, 1) := by decide +kernel
theorem dX12_log_44 : decode cX12_log 44 = .ok (.isub, 1) := by decide +kernel
theorem dX12_log_45 : decode cX12_log 45 = .ok (.iload_n 1, 1) := by decide +kernel
theorem dX12_log_46 : decode cX12_log 46 = .ok (.isub, 1) := by decide +kernel
theorem dX12_log_47 : decode cX12_log 47 = .ok (.imul, 1) := by decide +kernel
theorem dX12_log_48 : decode cX12_log 48 = .ok (.iadd, 1) := by decide +kernel
theorem dX12_log_49 : decode cX12_log 49 = .ok (.iload_n 2, 1) := by decide +kernel
theorem dX12_log_50 : decode cX12_log 50 = .ok (.iadd, 1) := by decide +kernel
theorem dX12_log_51 : decode cX12_log 51 = .ok (.iaload, 1) := by decide +kernel
theorem dX12_log_52 : decode cX12_log 52 = .ok (.goto 4, 3) := by decide +kernel
theorem dX12_log_55 : decode cX12_log 55 = .ok (.iconst (-1), 1) := by decide +kernel
theorem dX12_log_56 : decode cX12_log 56 = .ok (.ireturn, 1) := by decide +kernel
theorem dX12_takes_0 : decode cX12_takes 0 = .ok (.aload_n 0, 1) := by decide +kernel
theorem dX12_takes_1 : decode cX12_takes 1 = .ok (.iload_n 1, 1) := by decide +kernel
theorem dX12_takes_2 : decode cX12_takes 2 = .ok (.invokevirtual 373, 3) := by decide +kernel
theorem dX12_takes_5 : decode cX12_takes 5 = .ok (.ifCond .eq 23, 3) := by decide +kernel
theorem dX12_takes_8 : decode cX12_takes 8 = .ok (.aload_n 0, 1) := by decide +kernel
theorem dX12_takes_9 : decode cX12_takes 9 = .ok (.iconst 2, 1) := by decide +kernel
theorem dX12_takes_10 : decode cX12_takes 10 = .ok (.iload_n 1, 1) := by decide +kernel
theorem dX12_takes_11 : decode cX12_takes 11 = .ok (.imul, 1) := by decide +kernel
theorem dX12_takes_12 : decode cX12_takes 12 = .ok (.iload_n 2, 1) := by decide +kernel
theorem dX12_takes_13 : decode cX12_takes 13 = .ok (.ifCond .eq 7, 3) := by decide +kernel
theorem dX12_takes_16 : decode cX12_takes 16 = .ok (.iconst 0, 1) := by decide +kernel
theorem dX12_takes_17 : decode cX12_takes 17 = .ok (.goto 4, 3) := by decide +kernel
theorem dX12_takes_20 : decode cX12_takes 20 = .ok (.iconst 1, 1) := by decide +kernel
theorem dX12_takes_21 : decode cX12_takes 21 = .ok (.iadd, 1) := by decide +kernel
theorem dX12_takes_22 : decode cX12_takes 22 = .ok (.invokevirtual 337, 3) := by decide +kernel
theorem dX12_takes_25 : decode cX12_takes 25 = .ok (.goto 4, 3) := by decide +kernel
theorem dX12_takes_28 : decode cX12_takes 28 = .ok (.iconst (-1), 1) := by decide +kernel
theorem dX12_takes_29 : decode cX12_takes 29 = .ok (.ireturn, 1) := by decide +kernel
theorem dX12_bound_0 : decode cX12_bound 0 = .ok (.aload_n 0, 1) := by decide +kernel
theorem dX12_bound_1 : decode cX12_bound 1 = .ok (.iload_n 1, 1) := by decide +kernel
theorem dX12_bound_2 : decode cX12_bound 2 = .ok (.invokevirtual 373, 3) := by decide +kernel
theorem dX12_bound_5 : decode cX12_bound 5 = .ok (.ifCond .eq 16, 3) := by decide +kernel
theorem dX12_bound_8 : decode cX12_bound 8 = .ok (.aload_n 0, 1) := by decide +kernel
theorem dX12_bound_9 : decode cX12_bound 9 = .ok (.iload_n 2, 1) := by decide +kernel
theorem dX12_bound_10 : decode cX12_bound 10 = .ok (.invokevirtual 373, 3) := by decide +kernel
theorem dX12_bound_13 : decode cX12_bound 13 = .ok (.ifCond .eq 8, 3) := by decide +kernel
theorem dX12_bound_16 : decode cX12_bound 16 = .ok (.iload_n 1, 1) := by decide +kernel
theorem dX12_bound_17 : decode cX12_bound 17 = .ok (.iload_n 2, 1) := by decide +kernel
theorem dX12_bound_18 : decode cX12_bound 18 = .ok (.if_icmp .ne 7, 3) := by decide +kernel
theorem dX12_bound_21 : decode cX12_bound 21 = .ok (.ldc_w 433, 3) := by decide +kernel
theorem dX12_bound_24 : decode cX12_bound 24 = .ok (.ireturn, 1) := by decide +kernel
theorem dX12_bound_25 : decode cX12_bound 25 = .ok (.iconst 0, 1) := by decide +kernel
theorem dX12_bound_26 : decode cX12_bound 26 = .ok (.istore_n 3, 1) := by decide +kernel
theorem dX12_bound_27 : decode cX12_bound 27 = .ok (.iconst 0, 1) := by decide +kernel
theorem dX12_bound_28 : decode cX12_bound 28 = .ok (.istore 4, 2) := by decide +kernel
theorem dX12_bound_30 : decode cX12_bound 30 = .ok (.iload 4, 2) := by decide +kernel
theorem dX12_bound_32 : decode cX12_bound 32 = .ok (.aload_n 0, 1) := by decide +kernel
theorem dX12_bound_33 : decode cX12_bound 33 = .ok (.getfield 58, 3) := by decide +kernel
theorem dX12_bound_36 : decode cX12_bound 36 = .ok (.bipush 14, 2) := by decide +kernel
theorem dX12_bound_38 : decode cX12_bound 38 = .ok (.iaload, 1) := by decide +kernel
theorem dX12_bound_39 : decode cX12_bound 39 = .ok (.if_icmp .ge 65, 3) := by decide +kernel
theorem dX12_bound_42 : decode cX12_bound 42 = .ok (.iload_n 3, 1) := by decide +kernel
theorem dX12_bound_43 : decode cX12_bound 43 = .ok (.aload_n 0, 1) := by decide +kernel
theorem dX12_bound_44 : decode cX12_bound 44 = .ok (.iload 4, 2) := by decide +kernel
theorem dX12_bound_46 : decode cX12_bound 46 = .ok (.iconst 1, 1) := by decide +kernel
theorem dX12_bound_47 : decode cX12_bound 47 = .ok (.invokevirtual 311, 3) := by decide +kernel
theorem dX12_bound_50 : decode cX12_bound 50 = .ok (.iload_n 1, 1) := by decide +kernel
theorem dX12_bound_51 : decode cX12_bound 51 = .ok (.if_icmp .ne 18, 3) := by decide +kernel
theorem dX12_bound_54 : decode cX12_bound 54 = .ok (.aload_n 0, 1) := by decide +kernel
theorem dX12_bound_55 : decode cX12_bound 55 = .ok (.iload 4, 2) := by decide +kernel
theorem dX12_bound_57 : decode cX12_bound 57 = .ok (.iconst 2, 1) := by decide +kernel
theorem dX12_bound_58 : decode cX12_bound 58 = .ok (.invokevirtual 311, 3) := by decide +kernel
theorem dX12_bound_61 : decode cX12_bound 61 = .ok (.iload_n 2, 1) := by decide +kernel
theorem dX12_bound_62 : decode cX12_bound 62 = .ok (.if_icmp .ne 7, 3) := by decide +kernel
theorem dX12_bound_65 : decode cX12_bound 65 = .ok (.iconst 1, 1) := by decide +kernel
theorem dX12_bound_66 : decode cX12_bound 66 = .ok (.goto 30, 3) := by decide +kernel
theorem dX12_bound_69 : decode cX12_bound 69 = .ok (.aload_n 0, 1) := by decide +kernel
theorem dX12_bound_70 : decode cX12_bound 70 = .ok (.iload 4, 2) := by decide +kernel
theorem dX12_bound_72 : decode cX12_bound 72 = .ok (.iconst 1, 1) := by decide +kernel
theorem dX12_bound_73 : decode cX12_bound 73 = .ok (.invokevirtual 311, 3) := by decide +kernel
theorem dX12_bound_76 : decode cX12_bound 76 = .ok (.iload_n 2, 1) := by decide +kernel
theorem dX12_bound_77 : decode cX12_bound 77 = .ok (.if_icmp .ne 18, 3) := by decide +kernel
theorem dX12_bound_80 : decode cX12_bound 80 = .ok (.aload_n 0, 1) := by decide +kernel
theorem dX12_bound_81 : decode cX12_bound 81 = .ok (.iload 4, 2) := by decide +kernel
theorem dX12_bound_83 : decode cX12_bound 83 = .ok (.iconst 2, 1) := by decide +kernel
theorem dX12_bound_84 : decode cX12_bound 84 = .ok (.invokevirtual 311, 3) := by decide +kernel
theorem dX12_bound_87 : decode cX12_bound 87 = .ok (.iload_n 1, 1) := by decide +kernel
theorem dX12_bound_88 : decode cX12_bound 88 = .ok (.if_icmp .ne 7, 3) := by decide +kernel
theorem dX12_bound_91 : decode cX12_bound 91 = .ok (.iconst (-1), 1) := by decide +kernel
theorem dX12_bound_92 : decode cX12_bound 92 = .ok (.goto 4, 3) := by decide +kernel
theorem dX12_bound_95 : decode cX12_bound 95 = .ok (.iconst 0, 1) := by decide +kernel
theorem dX12_bound_96 : decode cX12_bound 96 = .ok (.iadd, 1) := by decide +kernel
theorem dX12_bound_97 : decode cX12_bound 97 = .ok (.istore_n 3, 1) := by decide +kernel
theorem dX12_bound_98 : decode cX12_bound 98 = .ok (.iinc 4 1, 3) := by decide +kernel
theorem dX12_bound_101 : decode cX12_bound 101 = .ok (.goto (-71), 3) := by decide +kernel
theorem dX12_bound_104 : decode cX12_bound 104 = .ok (.iload_n 3, 1) := by decide +kernel
theorem dX12_bound_105 : decode cX12_bound 105 = .ok (.ireturn, 1) := by decide +kernel
theorem dX12_letOut_0 : decode cX12_letOut 0 = .ok (.aload_n 0, 1) := by decide +kernel
theorem dX12_letOut_1 : decode cX12_letOut 1 = .ok (.iload_n 1, 1) := by decide +kernel
theorem dX12_letOut_2 : decode cX12_letOut 2 = .ok (.invokevirtual 373, 3) := by decide +kernel
theorem dX12_letOut_5 : decode cX12_letOut 5 = .ok (.ifCond .ne 5, 3) := by decide +kernel
theorem dX12_letOut_8 : decode cX12_letOut 8 = .ok (.iconst (-1), 1) := by decide +kernel
theorem dX12_letOut_9 : decode cX12_letOut 9 = .ok (.ireturn, 1) := by decide +kernel
theorem dX12_letOut_10 : decode cX12_letOut 10 = .ok (.iconst 0, 1) := by decide +kernel
theorem dX12_letOut_11 : decode cX12_letOut 11 = .ok (.istore_n 2, 1) := by decide +kernel
theorem dX12_letOut_12 : decode cX12_letOut 12 = .ok (.iconst 0, 1) := by decide +kernel
theorem dX12_letOut_13 : decode cX12_letOut 13 = .ok (.istore_n 3, 1) := by decide +kernel
theorem dX12_letOut_14 : decode cX12_letOut 14 = .ok (.iload_n 3, 1) := by decide +kernel
theorem dX12_letOut_15 : decode cX12_letOut 15 = .ok (.aload_n 0, 1) := by decide +kernel
theorem dX12_letOut_16 : decode cX12_letOut 16 = .ok (.getfield 58, 3) := by decide +kernel
theorem dX12_letOut_19 : decode cX12_letOut 19 = .ok (.bipush 14, 2) := by decide +kernel
theorem dX12_letOut_21 : decode cX12_letOut 21 = .ok (.iaload, 1) := by decide +kernel
theorem dX12_letOut_22 : decode cX12_letOut 22 = .ok (.if_icmp .ge 126, 3) := by decide +kernel
theorem dX12_letOut_25 : decode cX12_letOut 25 = .ok (.aload_n 0, 1) := by decide +kernel
theorem dX12_letOut_26 : decode cX12_letOut 26 = .ok (.getfield 74, 3) := by decide +kernel
theorem dX12_letOut_29 : decode cX12_letOut 29 = .ok (.iload_n 3, 1) := by decide +kernel
theorem dX12_letOut_30 : decode cX12_letOut 30 = .ok (.aload_n 0, 1) := by decide +kernel
theorem dX12_letOut_31 : decode cX12_letOut 31 = .ok (.iload_n 3, 1) := by decide +kernel
theorem dX12_letOut_32 : decode cX12_letOut 32 = .ok (.iconst 1, 1) := by decide +kernel
theorem dX12_letOut_33 : decode cX12_letOut 33 = .ok (.invokevirtual 311, 3) := by decide +kernel
theorem dX12_letOut_36 : decode cX12_letOut 36 = .ok (.iload_n 1, 1) := by decide +kernel
theorem dX12_letOut_37 : decode cX12_letOut 37 = .ok (.if_icmp .eq 13, 3) := by decide +kernel
theorem dX12_letOut_40 : decode cX12_letOut 40 = .ok (.aload_n 0, 1) := by decide +kernel
theorem dX12_letOut_41 : decode cX12_letOut 41 = .ok (.iload_n 3, 1) := by decide +kernel
theorem dX12_letOut_42 : decode cX12_letOut 42 = .ok (.iconst 2, 1) := by decide +kernel
theorem dX12_letOut_43 : decode cX12_letOut 43 = .ok (.invokevirtual 311, 3) := by decide +kernel
theorem dX12_letOut_46 : decode cX12_letOut 46 = .ok (.iload_n 1, 1) := by decide +kernel
theorem dX12_letOut_47 : decode cX12_letOut 47 = .ok (.if_icmp .ne 7, 3) := by decide +kernel
theorem dX12_letOut_50 : decode cX12_letOut 50 = .ok (.iconst 1, 1) := by decide +kernel
theorem dX12_letOut_51 : decode cX12_letOut 51 = .ok (.goto 4, 3) := by decide +kernel
theorem dX12_letOut_54 : decode cX12_letOut 54 = .ok (.iconst 0, 1) := by decide +kernel
theorem dX12_letOut_55 : decode cX12_letOut 55 = .ok (.bastore, 1) := by decide +kernel
theorem dX12_letOut_56 : decode cX12_letOut 56 = .ok (.iconst 0, 1) := by decide +kernel
theorem dX12_letOut_57 : decode cX12_letOut 57 = .ok (.istore 4, 2) := by decide +kernel
theorem dX12_letOut_59 : decode cX12_letOut 59 = .ok (.iload 4, 2) := by decide +kernel
theorem dX12_letOut_61 : decode cX12_letOut 61 = .ok (.iload_n 3, 1) := by decide +kernel
theorem dX12_letOut_62 : decode cX12_letOut 62 = .ok (.if_icmp .ge 63, 3) := by decide +kernel
theorem dX12_letOut_65 : decode cX12_letOut 65 = .ok (.aload_n 0, 1) := by decide +kernel
theorem dX12_letOut_66 : decode cX12_letOut 66 = .ok (.getfield 74, 3) := by decide +kernel
theorem dX12_letOut_69 : decode cX12_letOut 69 = .ok (.iload_n 3, 1) := by decide +kernel
theorem dX12_letOut_70 : decode cX12_letOut 70 = .ok (.aload_n 0, 1) := by decide +kernel
theorem dX12_letOut_71 : decode cX12_letOut 71 = .ok (.getfield 74, 3) := by decide +kernel
theorem dX12_letOut_74 : decode cX12_letOut 74 = .ok (.iload_n 3, 1) := by decide +kernel
theorem dX12_letOut_75 : decode cX12_letOut 75 = .ok (.baload, 1) := by decide +kernel
theorem dX12_letOut_76 : decode cX12_letOut 76 = .ok (.ifCond .ne 37, 3) := by decide +kernel
theorem dX12_letOut_79 : decode cX12_letOut 79 = .ok (.aload_n 0, 1) := by decide +kernel
theorem dX12_letOut_80 : decode cX12_letOut 80 = .ok (.getfield 74, 3) := by decide +kernel
theorem dX12_letOut_83 : decode cX12_letOut 83 = .ok (.iload 4, 2) := by decide +kernel
theorem dX12_letOut_85 : decode cX12_letOut 85 = .ok (.baload, 1) := by decide +kernel
theorem dX12_letOut_86 : decode cX12_letOut 86 = .ok (.ifCond .eq 31, 3) := by decide +kernel
theorem dX12_letOut_89 : decode cX12_letOut 89 = .ok (.aload_n 0, 1) := by decide +kernel
theorem dX12_letOut_90 : decode cX12_letOut 90 = .ok (.aload_n 0, 1) := by decide +kernel
theorem dX12_letOut_91 : decode cX12_letOut 91 = .ok (.iload 4, 2) := by decide +kernel
theorem dX12_letOut_93 : decode cX12_letOut 93 = .ok (.iconst 0, 1) := by decide +kernel
theorem dX12_letOut_94 : decode cX12_letOut 94 = .ok (.invokevirtual 311, 3) := by decide +kernel
theorem dX12_letOut_97 : decode cX12_letOut 97 = .ok (.iconst 2, 1) := by decide +kernel
theorem dX12_letOut_98 : decode cX12_letOut 98 = .ok (.idiv, 1) := by decide +kernel
theorem dX12_letOut_99 : decode cX12_letOut 99 = .ok (.aload_n 0, 1) := by decide +kernel
theorem dX12_letOut_100 : decode cX12_letOut 100 = .ok (.iload_n 3, 1) := by decide +kernel
theorem dX12_letOut_101 : decode cX12_letOut 101 = .ok (.iconst 0, 1) := by decide +kernel
theorem dX12_letOut_102 : decode cX12_letOut 102 = .ok (.invokevirtual 311, 3) := by decide +kernel
theorem dX12_letOut_105 : decode cX12_letOut 105 = .ok (.iconst 2, 1) := by decide +kernel
theorem dX12_letOut_106 : decode cX12_letOut 106 = .ok (.idiv, 1) := by decide +kernel
theorem dX12_letOut_107 : decode cX12_letOut 107 = .ok (.invokevirtual 314, 3) := by decide +kernel
theorem dX12_letOut_110 : decode cX12_letOut 110 = .ok (.ifCond .eq 7, 3) := by decide +kernel
theorem dX12_letOut_113 : decode cX12_letOut 113 = .ok (.iconst 1, 1) := by decide +kernel
theorem dX12_letOut_114 : decode cX12_letOut 114 = .ok (.goto 4, 3) := by decide +kernel
theorem dX12_letOut_117 : decode cX12_letOut 117 = .ok (.iconst 0, 1) := by decide +kernel
theorem dX12_letOut_118 : decode cX12_letOut 118 = .ok (.bastore, 1) := by decide +kernel
theorem dX12_letOut_119 : decode cX12_letOut 119 = .ok (.iinc 4 1, 3) := by decide +kernel
theorem dX12_letOut_122 : decode cX12_letOut 122 = .ok (.goto (-63), 3) := by decide +kernel
theorem dX12_letOut_125 : decode cX12_letOut 125 = .ok (.iload_n 2, 1) := by decide +kernel
theorem dX12_letOut_126 : decode cX12_letOut 126 = .ok (.aload_n 0, 1) := by decide +kernel
theorem dX12_letOut_127 : decode cX12_letOut 127 = .ok (.getfield 74, 3) := by decide +kernel
theorem dX12_letOut_130 : decode cX12_letOut 130 = .ok (.iload_n 3, 1) := by decide +kernel
theorem dX12_letOut_131 : decode cX12_letOut 131 = .ok (.baload, 1) := by decide +kernel
theorem dX12_letOut_132 : decode cX12_letOut 132 = .ok (.ifCond .eq 7, 3) := by decide +kernel
theorem dX12_letOut_135 : decode cX12_letOut 135 = .ok (.iconst 1, 1) := by decide +kernel
theorem dX12_letOut_136 : decode cX12_letOut 136 = .ok (.goto 4, 3) := by decide +kernel
theorem dX12_letOut_139 : decode cX12_letOut 139 = .ok (.iconst 0, 1) := by decide +kernel
theorem dX12_letOut_140 : decode cX12_letOut 140 = .ok (.iadd, 1) := by decide +kernel
theorem dX12_letOut_141 : decode cX12_letOut 141 = .ok (.istore_n 2, 1) := by decide +kernel
theorem dX12_letOut_142 : decode cX12_letOut 142 = .ok (.iinc 3 1, 3) := by decide +kernel
theorem dX12_letOut_145 : decode cX12_letOut 145 = .ok (.goto (-131), 3) := by decide +kernel
theorem dX12_letOut_148 : decode cX12_letOut 148 = .ok (.iload_n 2, 1) := by decide +kernel
theorem dX12_letOut_149 : decode cX12_letOut 149 = .ok (.ireturn, 1) := by decide +kernel
theorem dX12_startAt_0 : decode cX12_startAt 0 = .ok (.iconst 0, 1) := by decide +kernel
theorem dX12_startAt_1 : decode cX12_startAt 1 = .ok (.istore_n 2, 1) := by decide +kernel
theorem dX12_startAt_2 : decode cX12_startAt 2 = .ok (.iload_n 2, 1) := by decide +kernel
theorem dX12_startAt_3 : decode cX12_startAt 3 = .ok (.aload_n 0, 1) := by decide +kernel
theorem dX12_startAt_4 : decode cX12_startAt 4 = .ok (.getfield 283, 3) := by decide +kernel
theorem dX12_startAt_7 : decode cX12_startAt 7 = .ok (.if_icmp .ge 31, 3) := by decide +kernel
theorem dX12_startAt_10 : decode cX12_startAt 10 = .ok (.aload_n 0, 1) := by decide +kernel
theorem dX12_startAt_11 : decode cX12_startAt 11 = .ok (.getfield 81, 3) := by decide +kernel
theorem dX12_startAt_14 : decode cX12_startAt 14 = .ok (.iload_n 2, 1) := by decide +kernel
theorem dX12_startAt_15 : decode cX12_startAt 15 = .ok (.iload_n 1, 1) := by decide +kernel
theorem dX12_startAt_16 : decode cX12_startAt 16 = .ok (.ifCond .eq 14, 3) := by decide +kernel
theorem dX12_startAt_19 : decode cX12_startAt 19 = .ok (.aload_n 0, 1) := by decide +kernel
theorem dX12_startAt_20 : decode cX12_startAt 20 = .ok (.getfield 58, 3) := by decide +kernel
theorem dX12_startAt_23 : decode cX12_startAt 23 = .ok (.iconst 0, 1) := by decide +kernel
theorem dX12_startAt_24 : decode cX12_startAt 24 = .ok (.iload_n 2, 1) := by decide +kernel
theorem dX12_startAt_25 : decode cX12_startAt 25 = .ok (.iadd, 1) := by decide +kernel
theorem dX12_startAt_26 : decode cX12_startAt 26 = .ok (.iaload, 1) := by decide +kernel
theorem dX12_startAt_27 : decode cX12_startAt 27 = .ok (.goto 4, 3) := by decide +kernel
theorem dX12_startAt_30 : decode cX12_startAt 30 = .ok (.iload_n 2, 1) := by decide +kernel
theorem dX12_startAt_31 : decode cX12_startAt 31 = .ok (.iastore, 1) := by decide +kernel
theorem dX12_startAt_32 : decode cX12_startAt 32 = .ok (.iinc 2 1, 3) := by decide +kernel
theorem dX12_startAt_35 : decode cX12_startAt 35 = .ok (.goto (-33), 3) := by decide +kernel
theorem dX12_startAt_38 : decode cX12_startAt 38 = .ok (.return_, 1) := by decide +kernel
theorem dX12_goFigure_0 : decode cX12_goFigure 0 = .ok (.iconst 0, 1) := by decide +kernel
theorem dX12_goFigure_1 : decode cX12_goFigure 1 = .ok (.istore_n 2, 1) := by decide +kernel
theorem dX12_goFigure_2 : decode cX12_goFigure 2 = .ok (.iload_n 2, 1) := by decide +kernel
theorem dX12_goFigure_3 : decode cX12_goFigure 3 = .ok (.aload_n 0, 1) := by decide +kernel
theorem dX12_goFigure_4 : decode cX12_goFigure 4 = .ok (.getfield 55, 3) := by decide +kernel
theorem dX12_goFigure_7 : decode cX12_goFigure 7 = .ok (.iload_n 1, 1) := by decide +kernel
theorem dX12_goFigure_8 : decode cX12_goFigure 8 = .ok (.iaload, 1) := by decide +kernel
theorem dX12_goFigure_9 : decode cX12_goFigure 9 = .ok (.if_icmp .ge 67, 3) := by decide +kernel
theorem dX12_goFigure_12 : decode cX12_goFigure 12 = .ok (.aload_n 0, 1) := by decide +kernel
theorem dX12_goFigure_13 : decode cX12_goFigure 13 = .ok (.iload_n 1, 1) := by decide +kernel
theorem dX12_goFigure_14 : decode cX12_goFigure 14 = .ok (.iload_n 2, 1) := by decide +kernel
theorem dX12_goFigure_15 : decode cX12_goFigure 15 = .ok (.invokevirtual 410, 3) := by decide +kernel
theorem dX12_goFigure_18 : decode cX12_goFigure 18 = .ok (.istore_n 3, 1) := by decide +kernel
theorem dX12_goFigure_19 : decode cX12_goFigure 19 = .ok (.iload_n 3, 1) := by decide +kernel
theorem dX12_goFigure_20 : decode cX12_goFigure 20 = .ok (.bipush 20, 2) := by decide +kernel
theorem dX12_goFigure_22 : decode cX12_goFigure 22 = .ok (.if_icmp .eq 48, 3) := by decide +kernel
theorem dX12_goFigure_25 : decode cX12_goFigure 25 = .ok (.iload_n 3, 1) := by decide +kernel
theorem dX12_goFigure_26 : decode cX12_goFigure 26 = .ok (.iconst 2, 1) := by decide +kernel
theorem dX12_goFigure_27 : decode cX12_goFigure 27 = .ok (.idiv, 1) := by decide +kernel
theorem dX12_goFigure_28 : decode cX12_goFigure 28 = .ok (.istore 4, 2) := by decide +kernel
theorem dX12_goFigure_30 : decode cX12_goFigure 30 = .ok (.aload_n 0, 1) := by decide +kernel
theorem dX12_goFigure_31 : decode cX12_goFigure 31 = .ok (.getfield 81, 3) := by decide +kernel
theorem dX12_goFigure_34 : decode cX12_goFigure 34 = .ok (.iload 4, 2) := by decide +kernel
theorem dX12_goFigure_36 : decode cX12_goFigure 36 = .ok (.iaload, 1) := by decide +kernel
theorem dX12_goFigure_37 : decode cX12_goFigure 37 = .ok (.istore 5, 2) := by decide +kernel
theorem dX12_goFigure_39 : decode cX12_goFigure 39 = .ok (.aload_n 0, 1) := by decide +kernel
theorem dX12_goFigure_40 : decode cX12_goFigure 40 = .ok (.getfield 81, 3) := by decide +kernel
theorem dX12_goFigure_43 : decode cX12_goFigure 43 = .ok (.iload 4, 2) := by decide +kernel
theorem dX12_goFigure_45 : decode cX12_goFigure 45 = .ok (.aload_n 0, 1) := by decide +kernel
theorem dX12_goFigure_46 : decode cX12_goFigure 46 = .ok (.getfield 81, 3) := by decide +kernel
theorem dX12_goFigure_49 : decode cX12_goFigure 49 = .ok (.aload_n 0, 1) := by decide +kernel
theorem dX12_goFigure_50 : decode cX12_goFigure 50 = .ok (.iload 4, 2) := by decide +kernel
theorem dX12_goFigure_52 : decode cX12_goFigure 52 = .ok (.invokevirtual 308, 3) := by decide +kernel
theorem dX12_goFigure_55 : decode cX12_goFigure 55 = .ok (.iaload, 1) := by decide +kernel
theorem dX12_goFigure_56 : decode cX12_goFigure 56 = .ok (.iastore, 1) := by decide +kernel
theorem dX12_goFigure_57 : decode cX12_goFigure 57 = .ok (.aload_n 0, 1) := by decide +kernel
theorem dX12_goFigure_58 : decode cX12_goFigure 58 = .ok (.getfield 81, 3) := by decide +kernel
theorem dX12_goFigure_61 : decode cX12_goFigure 61 = .ok (.aload_n 0, 1) := by decide +kernel
theorem dX12_goFigure_62 : decode cX12_goFigure 62 = .ok (.iload 4, 2) := by decide +kernel
theorem dX12_goFigure_64 : decode cX12_goFigure 64 = .ok (.invokevirtual 308, 3) := by decide +kernel
theorem dX12_goFigure_67 : decode cX12_goFigure 67 = .ok (.iload 5, 2) := by decide +kernel
theorem dX12_goFigure_69 : decode cX12_goFigure 69 = .ok (.iastore, 1) := by decide +kernel
theorem dX12_goFigure_70 : decode cX12_goFigure 70 = .ok (.iinc 2 1, 3) := by decide +kernel
theorem dX12_goFigure_73 : decode cX12_goFigure 73 = .ok (.goto (-71), 3) := by decide +kernel
theorem dX12_goFigure_76 : decode cX12_goFigure 76 = .ok (.return_, 1) := by decide +kernel
theorem dX12_spotOf_0 : decode cX12_spotOf 0 = .ok (.iconst (-1), 1) := by decide +kernel
theorem dX12_spotOf_1 : decode cX12_spotOf 1 = .ok (.istore_n 2, 1) := by decide +kernel
theorem dX12_spotOf_2 : decode cX12_spotOf 2 = .ok (.iconst 0, 1) := by decide +kernel
theorem dX12_spotOf_3 : decode cX12_spotOf 3 = .ok (.istore_n 3, 1) := by decide +kernel
theorem dX12_spotOf_4 : decode cX12_spotOf 4 = .ok (.iload_n 3, 1) := by decide +kernel
theorem dX12_spotOf_5 : decode cX12_spotOf 5 = .ok (.aload_n 0, 1) := by decide +kernel
theorem dX12_spotOf_6 : decode cX12_spotOf 6 = .ok (.getfield 283, 3) := by decide +kernel
theorem dX12_spotOf_9 : decode cX12_spotOf 9 = .ok (.if_icmp .ge 25, 3) := by decide +kernel
theorem dX12_spotOf_12 : decode cX12_spotOf 12 = .ok (.aload_n 0, 1) := by decide +kernel
theorem dX12_spotOf_13 : decode cX12_spotOf 13 = .ok (.getfield 81, 3) := by decide +kernel
theorem dX12_spotOf_16 : decode cX12_spotOf 16 = .ok (.iload_n 3, 1) := by decide +kernel
theorem dX12_spotOf_17 : decode cX12_spotOf 17 = .ok (.iaload, 1) := by decide +kernel
theorem dX12_spotOf_18 : decode cX12_spotOf 18 = .ok (.iload_n 1, 1) := by decide +kernel
theorem dX12_spotOf_19 : decode cX12_spotOf 19 = .ok (.if_icmp .ne 7, 3) := by decide +kernel
theorem dX12_spotOf_22 : decode cX12_spotOf 22 = .ok (.iload_n 3, 1) := by decide +kernel
theorem dX12_spotOf_23 : decode cX12_spotOf 23 = .ok (.goto 4, 3) := by decide +kernel
theorem dX12_spotOf_26 : decode cX12_spotOf 26 = .ok (.iload_n 2, 1) := by decide +kernel
theorem dX12_spotOf_27 : decode cX12_spotOf 27 = .ok (.istore_n 2, 1) := by decide +kernel
theorem dX12_spotOf_28 : decode cX12_spotOf 28 = .ok (.iinc 3 1, 3) := by decide +kernel
theorem dX12_spotOf_31 : decode cX12_spotOf 31 = .ok (.goto (-27), 3) := by decide +kernel
theorem dX12_spotOf_34 : decode cX12_spotOf 34 = .ok (.iload_n 2, 1) := by decide +kernel
theorem dX12_spotOf_35 : decode cX12_spotOf 35 = .ok (.ireturn, 1) := by decide +kernel
theorem dX12_behind_0 : decode cX12_behind 0 = .ok (.aload_n 0, 1) := by decide +kernel
theorem dX12_behind_1 : decode cX12_behind 1 = .ok (.iload_n 1, 1) := by decide +kernel
theorem dX12_behind_2 : decode cX12_behind 2 = .ok (.invokevirtual 407, 3) := by decide +kernel
theorem dX12_behind_5 : decode cX12_behind 5 = .ok (.ifCond .eq 21, 3) := by decide +kernel
theorem dX12_behind_8 : decode cX12_behind 8 = .ok (.iload_n 2, 1) := by decide +kernel
theorem dX12_behind_9 : decode cX12_behind 9 = .ok (.iconst 0, 1) := by decide +kernel
theorem dX12_behind_10 : decode cX12_behind 10 = .ok (.bipush 99, 2) := by decide +kernel
theorem dX12_behind_12 : decode cX12_behind 12 = .ok (.invokestatic 229, 3) := by decide +kernel
theorem dX12_behind_15 : decode cX12_behind 15 = .ok (.ifCond .eq 11, 3) := by decide +kernel
theorem dX12_behind_18 : decode cX12_behind 18 = .ok (.aload_n 0, 1) := by decide +kernel
theorem dX12_behind_19 : decode cX12_behind 19 = .ok (.iload_n 3, 1) := by decide +kernel
theorem dX12_behind_20 : decode cX12_behind 20 = .ok (.invokevirtual 373, 3) := by decide +kernel
theorem dX12_behind_23 : decode cX12_behind 23 = .ok (.ifCond .ne 5, 3) := by decide +kernel
theorem dX12_behind_26 : decode cX12_behind 26 = .ok (.iconst (-1), 1) := by decide +kernel
theorem dX12_behind_27 : decode cX12_behind 27 = .ok (.ireturn, 1) := by decide +kernel
theorem dX12_behind_28 : decode cX12_behind 28 = .ok (.aload_n 0, 1) := by decide +kernel
theorem dX12_behind_29 : decode cX12_behind 29 = .ok (.iconst 1, 1) := by decide +kernel
theorem dX12_behind_30 : decode cX12_behind 30 = .ok (.invokevirtual 434, 3) := by decide +kernel
theorem dX12_behind_33 : decode cX12_behind 33 = .ok (.iconst 0, 1) := by decide +kernel
theorem dX12_behind_34 : decode cX12_behind 34 = .ok (.istore 4, 2) := by decide +kernel
theorem dX12_behind_36 : decode cX12_behind 36 = .ok (.iload 4, 2) := by decide +kernel
theorem dX12_behind_38 : decode cX12_behind 38 = .ok (.iload_n 2, 1) := by decide +kernel
theorem dX12_behind_39 : decode cX12_behind 39 = .ok (.if_icmp .ge 14, 3) := by decide +kernel
theorem dX12_behind_42 : decode cX12_behind 42 = .ok (.aload_n 0, 1) := by decide +kernel
theorem dX12_behind_43 : decode cX12_behind 43 = .ok (.iload_n 1, 1) := by decide +kernel
theorem dX12_behind_44 : decode cX12_behind 44 = .ok (.invokevirtual 438, 3) := by decide +kernel
theorem dX12_behind_47 : decode cX12_behind 47 = .ok (.iinc 4 1, 3) := by decide +kernel
theorem dX12_behind_50 : decode cX12_behind 50 = .ok (.goto (-14), 3) := by decide +kernel
theorem dX12_behind_53 : decode cX12_behind 53 = .ok (.aload_n 0, 1) := by decide +kernel
theorem dX12_behind_54 : decode cX12_behind 54 = .ok (.iload_n 3, 1) := by decide +kernel
theorem dX12_behind_55 : decode cX12_behind 55 = .ok (.invokevirtual 441, 3) := by decide +kernel
theorem dX12_behind_58 : decode cX12_behind 58 = .ok (.ireturn, 1) := by decide +kernel
theorem dX12_rounds_0 : decode cX12_rounds 0 = .ok (.aload_n 0, 1) := by decide +kernel
theorem dX12_rounds_1 : decode cX12_rounds 1 = .ok (.iload_n 1, 1) := by decide +kernel
theorem dX12_rounds_2 : decode cX12_rounds 2 = .ok (.invokevirtual 407, 3) := by decide +kernel
theorem dX12_rounds_5 : decode cX12_rounds 5 = .ok (.ifCond .ne 5, 3) := by decide +kernel
theorem dX12_rounds_8 : decode cX12_rounds 8 = .ok (.iconst (-1), 1) := by decide +kernel
theorem dX12_rounds_9 : decode cX12_rounds 9 = .ok (.ireturn, 1) := by decide +kernel
theorem dX12_rounds_10 : decode cX12_rounds 10 = .ok (.aload_n 0, 1) := by decide +kernel
theorem dX12_rounds_11 : decode cX12_rounds 11 = .ok (.iconst 0, 1) := by decide +kernel
theorem dX12_rounds_12 : decode cX12_rounds 12 = .ok (.invokevirtual 434, 3) := by decide +kernel
theorem dX12_rounds_15 : decode cX12_rounds 15 = .ok (.iconst 0, 1) := by decide +kernel
theorem dX12_rounds_16 : decode cX12_rounds 16 = .ok (.istore_n 2, 1) := by decide +kernel
theorem dX12_rounds_17 : decode cX12_rounds 17 = .ok (.iconst 0, 1) := by decide +kernel
theorem dX12_rounds_18 : decode cX12_rounds 18 = .ok (.istore_n 3, 1) := by decide +kernel
theorem dX12_rounds_19 : decode cX12_rounds 19 = .ok (.iload_n 3, 1) := by decide +kernel
theorem dX12_rounds_20 : decode cX12_rounds 20 = .ok (.ifCond .ne 56, 3) := by decide +kernel
theorem dX12_rounds_23 : decode cX12_rounds 23 = .ok (.aload_n 0, 1) := by decide +kernel
theorem dX12_rounds_24 : decode cX12_rounds 24 = .ok (.iload_n 1, 1) := by decide +kernel
theorem dX12_rounds_25 : decode cX12_rounds 25 = .ok (.invokevirtual 438, 3) := by decide +kernel
theorem dX12_rounds_28 : decode cX12_rounds 28 = .ok (.iinc 2 1, 3) := by decide +kernel
theorem dX12_rounds_31 : decode cX12_rounds 31 = .ok (.iconst 1, 1) := by decide +kernel
theorem dX12_rounds_32 : decode cX12_rounds 32 = .ok (.istore_n 3, 1) := by decide +kernel
theorem dX12_rounds_33 : decode cX12_rounds 33 = .ok (.iconst 0, 1) := by decide +kernel
theorem dX12_rounds_34 : decode cX12_rounds 34 = .ok (.istore 4, 2) := by decide +kernel
theorem dX12_rounds_36 : decode cX12_rounds 36 = .ok (.iload 4, 2) := by decide +kernel
theorem dX12_rounds_38 : decode cX12_rounds 38 = .ok (.aload_n 0, 1) := by decide +kernel
theorem dX12_rounds_39 : decode cX12_rounds 39 = .ok (.getfield 283, 3) := by decide +kernel
theorem dX12_rounds_42 : decode cX12_rounds 42 = .ok (.if_icmp .ge 31, 3) := by decide +kernel
theorem dX12_rounds_45 : decode cX12_rounds 45 = .ok (.iload_n 3, 1) := by decide +kernel
theorem dX12_rounds_46 : decode cX12_rounds 46 = .ok (.ifCond .eq 19, 3) := by decide +kernel
theorem dX12_rounds_49 : decode cX12_rounds 49 = .ok (.aload_n 0, 1) := by decide +kernel
theorem dX12_rounds_50 : decode cX12_rounds 50 = .ok (.getfield 81, 3) := by decide +kernel
theorem dX12_rounds_53 : decode cX12_rounds 53 = .ok (.iload 4, 2) := by decide +kernel
theorem dX12_rounds_55 : decode cX12_rounds 55 = .ok (.iaload, 1) := by decide +kernel
theorem dX12_rounds_56 : decode cX12_rounds 56 = .ok (.iload 4, 2) := by decide +kernel
theorem dX12_rounds_58 : decode cX12_rounds 58 = .ok (.if_icmp .ne 7, 3) := by decide +kernel
theorem dX12_rounds_61 : decode cX12_rounds 61 = .ok (.iconst 1, 1) := by decide +kernel
theorem dX12_rounds_62 : decode cX12_rounds 62 = .ok (.goto 4, 3) := by decide +kernel
theorem dX12_rounds_65 : decode cX12_rounds 65 = .ok (.iconst 0, 1) := by decide +kernel
theorem dX12_rounds_66 : decode cX12_rounds 66 = .ok (.istore_n 3, 1) := by decide +kernel
theorem dX12_rounds_67 : decode cX12_rounds 67 = .ok (.iinc 4 1, 3) := by decide +kernel
theorem dX12_rounds_70 : decode cX12_rounds 70 = .ok (.goto (-34), 3) := by decide +kernel
theorem dX12_rounds_73 : decode cX12_rounds 73 = .ok (.goto (-54), 3) := by decide +kernel
theorem dX12_rounds_76 : decode cX12_rounds 76 = .ok (.iload_n 2, 1) := by decide +kernel
theorem dX12_rounds_77 : decode cX12_rounds 77 = .ok (.ireturn, 1) := by decide +kernel
theorem dX12_layFigure_0 : decode cX12_layFigure 0 = .ok (.iconst 0, 1) := by decide +kernel
theorem dX12_layFigure_1 : decode cX12_layFigure 1 = .ok (.istore_n 2, 1) := by decide +kernel
theorem dX12_layFigure_2 : decode cX12_layFigure 2 = .ok (.iload_n 2, 1) := by decide +kernel
theorem dX12_layFigure_3 : decode cX12_layFigure 3 = .ok (.aload_n 0, 1) := by decide +kernel
theorem dX12_layFigure_4 : decode cX12_layFigure 4 = .ok (.getfield 55, 3) := by decide +kernel
theorem dX12_layFigure_7 : decode cX12_layFigure 7 = .ok (.iload_n 1, 1) := by decide +kernel
theorem dX12_layFigure_8 : decode cX12_layFigure 8 = .ok (.iaload, 1) := by decide +kernel
theorem dX12_layFigure_9 : decode cX12_layFigure 9 = .ok (.if_icmp .ge 30, 3) := by decide +kernel
theorem dX12_layFigure_12 : decode cX12_layFigure 12 = .ok (.aload_n 0, 1) := by decide +kernel
theorem dX12_layFigure_13 : decode cX12_layFigure 13 = .ok (.iload_n 1, 1) := by decide +kernel
theorem dX12_layFigure_14 : decode cX12_layFigure 14 = .ok (.iload_n 2, 1) := by decide +kernel
theorem dX12_layFigure_15 : decode cX12_layFigure 15 = .ok (.invokevirtual 410, 3) := by decide +kernel
theorem dX12_layFigure_18 : decode cX12_layFigure 18 = .ok (.bipush 20, 2) := by decide +kernel
theorem dX12_layFigure_20 : decode cX12_layFigure 20 = .ok (.if_icmp .eq 13, 3) := by decide +kernel
theorem dX12_layFigure_23 : decode cX12_layFigure 23 = .ok (.aload_n 0, 1) := by decide +kernel
theorem dX12_layFigure_24 : decode cX12_layFigure 24 = .ok (.aload_n 0, 1) := by decide +kernel
theorem dX12_layFigure_25 : decode cX12_layFigure 25 = .ok (.iload_n 1, 1) := by decide +kernel
theorem dX12_layFigure_26 : decode cX12_layFigure 26 = .ok (.iload_n 2, 1) := by decide +kernel
theorem dX12_layFigure_27 : decode cX12_layFigure 27 = .ok (.invokevirtual 410, 3) := by decide +kernel
theorem dX12_layFigure_30 : decode cX12_layFigure 30 = .ok (.invokevirtual 444, 3) := by decide +kernel
theorem dX12_layFigure_33 : decode cX12_layFigure 33 = .ok (.iinc 2 1, 3) := by decide +kernel
theorem dX12_layFigure_36 : decode cX12_layFigure 36 = .ok (.goto (-34), 3) := by decide +kernel
theorem dX12_layFigure_39 : decode cX12_layFigure 39 = .ok (.return_, 1) := by decide +kernel
theorem dX12_knot_0 : decode cX12_knot 0 = .ok (.aload_n 0, 1) := by decide +kernel
theorem dX12_knot_1 : decode cX12_knot 1 = .ok (.iload_n 1, 1) := by decide +kernel
theorem dX12_knot_2 : decode cX12_knot 2 = .ok (.invokevirtual 407, 3) := by decide +kernel
theorem dX12_knot_5 : decode cX12_knot 5 = .ok (.ifCond .ne 5, 3) := by decide +kernel
theorem dX12_knot_8 : decode cX12_knot 8 = .ok (.iconst (-1), 1) := by decide +kernel
theorem dX12_knot_9 : decode cX12_knot 9 = .ok (.ireturn, 1) := by decide +kernel
theorem dX12_knot_10 : decode cX12_knot 10 = .ok (.aload_n 0, 1) := by decide +kernel
theorem dX12_knot_11 : decode cX12_knot 11 = .ok (.iconst 0, 1) := by decide +kernel
theorem dX12_knot_12 : decode cX12_knot 12 = .ok (.putfield 382, 3) := by decide +kernel
theorem dX12_knot_15 : decode cX12_knot 15 = .ok (.aload_n 0, 1) := by decide +kernel
theorem dX12_knot_16 : decode cX12_knot 16 = .ok (.iload_n 1, 1) := by decide +kernel
theorem dX12_knot_17 : decode cX12_knot 17 = .ok (.invokevirtual 447, 3) := by decide +kernel
theorem dX12_knot_20 : decode cX12_knot 20 = .ok (.aload_n 0, 1) := by decide +kernel
theorem dX12_knot_21 : decode cX12_knot 21 = .ok (.getfield 382, 3) := by decide +kernel
theorem dX12_knot_24 : decode cX12_knot 24 = .ok (.ireturn, 1) := by decide +kernel
theorem dX12_same_0 : decode cX12_same 0 = .ok (.aload_n 0, 1) := by decide +kernel
theorem dX12_same_1 : decode cX12_same 1 = .ok (.iload_n 1, 1) := by decide +kernel
theorem dX12_same_2 : decode cX12_same 2 = .ok (.invokevirtual 407, 3) := by decide +kernel
theorem dX12_same_5 : decode cX12_same 5 = .ok (.ifCond .eq 11, 3) := by decide +kernel
theorem dX12_same_8 : decode cX12_same 8 = .ok (.aload_n 0, 1) := by decide +kernel
theorem dX12_same_9 : decode cX12_same 9 = .ok (.iload_n 2, 1) := by decide +kernel
theorem dX12_same_10 : decode cX12_same 10 = .ok (.invokevirtual 407, 3) := by decide +kernel
theorem dX12_same_13 : decode cX12_same 13 = .ok (.ifCond .ne 5, 3) := by decide +kernel
theorem dX12_same_16 : decode cX12_same 16 = .ok (.iconst (-1), 1) := by decide +kernel
theorem dX12_same_17 : decode cX12_same 17 = .ok (.ireturn, 1) := by decide +kernel
theorem dX12_same_18 : decode cX12_same 18 = .ok (.aload_n 0, 1) := by decide +kernel
theorem dX12_same_19 : decode cX12_same 19 = .ok (.iconst 0, 1) := by decide +kernel
theorem dX12_same_20 : decode cX12_same 20 = .ok (.putfield 382, 3) := by decide +kernel
theorem dX12_same_23 : decode cX12_same 23 = .ok (.aload_n 0, 1) := by decide +kernel
theorem dX12_same_24 : decode cX12_same 24 = .ok (.iload_n 1, 1) := by decide +kernel
theorem dX12_same_25 : decode cX12_same 25 = .ok (.invokevirtual 447, 3) := by decide +kernel
theorem dX12_same_28 : decode cX12_same 28 = .ok (.aload_n 0, 1) := by decide +kernel
theorem dX12_same_29 : decode cX12_same 29 = .ok (.invokevirtual 391, 3) := by decide +kernel
theorem dX12_same_32 : decode cX12_same 32 = .ok (.aload_n 0, 1) := by decide +kernel
theorem dX12_same_33 : decode cX12_same 33 = .ok (.getfield 382, 3) := by decide +kernel
theorem dX12_same_36 : decode cX12_same 36 = .ok (.istore_n 3, 1) := by decide +kernel
theorem dX12_same_37 : decode cX12_same 37 = .ok (.iconst 0, 1) := by decide +kernel
theorem dX12_same_38 : decode cX12_same 38 = .ok (.istore 4, 2) := by decide +kernel
theorem dX12_same_40 : decode cX12_same 40 = .ok (.iload 4, 2) := by decide +kernel
theorem dX12_same_42 : decode cX12_same 42 = .ok (.iload_n 3, 1) := by decide +kernel
theorem dX12_same_43 : decode cX12_same 43 = .ok (.if_icmp .ge 28, 3) := by decide +kernel
theorem dX12_same_46 : decode cX12_same 46 = .ok (.aload_n 0, 1) := by decide +kernel
theorem dX12_same_47 : decode cX12_same 47 = .ok (.getfield 84, 3) := by decide +kernel
theorem dX12_same_50 : decode cX12_same 50 = .ok (.iload 4, 2) := by decide +kernel
theorem dX12_same_52 : decode cX12_same 52 = .ok (.aload_n 0, 1) := by decide +kernel
theorem dX12_same_53 : decode cX12_same 53 = .ok (.getfield 68, 3) := by decide +kernel
theorem dX12_same_56 : decode cX12_same 56 = .ok (.aload_n 0, 1) := by decide +kernel
theorem dX12_same_57 : decode cX12_same 57 = .ok (.getfield 71, 3) := by decide +kernel
theorem dX12_same_60 : decode cX12_same 60 = .ok (.iload 4, 2) := by decide +kernel
theorem dX12_same_62 : decode cX12_same 62 = .ok (.iaload, 1) := by decide +kernel
theorem dX12_same_63 : decode cX12_same 63 = .ok (.iaload, 1) := by decide +kernel
theorem dX12_same_64 : decode cX12_same 64 = .ok (.iastore, 1) := by decide +kernel
theorem dX12_same_65 : decode cX12_same 65 = .ok (.iinc 4 1, 3) := by decide +kernel
theorem dX12_same_68 : decode cX12_same 68 = .ok (.goto (-28), 3) := by decide +kernel
theorem dX12_same_71 : decode cX12_same 71 = .ok (.aload_n 0, 1) := by decide +kernel
theorem dX12_same_72 : decode cX12_same 72 = .ok (.iconst 0, 1) := by decide +kernel
theorem dX12_same_73 : decode cX12_same 73 = .ok (.putfield 382, 3) := by decide +kernel
theorem dX12_same_76 : decode cX12_same 76 = .ok (.aload_n 0, 1) := by decide +kernel
theorem dX12_same_77 : decode cX12_same 77 = .ok (.iload_n 2, 1) := by decide +kernel
theorem dX12_same_78 : decode cX12_same 78 = .ok (.invokevirtual 447, 3) := by decide +kernel
theorem dX12_same_81 : decode cX12_same 81 = .ok (.aload_n 0, 1) := by decide +kernel
theorem dX12_same_82 : decode cX12_same 82 = .ok (.invokevirtual 391, 3) := by decide +kernel
theorem dX12_same_85 : decode cX12_same 85 = .ok (.aload_n 0, 1) := by decide +kernel
theorem dX12_same_86 : decode cX12_same 86 = .ok (.getfield 382, 3) := by decide +kernel
theorem dX12_same_89 : decode cX12_same 89 = .ok (.iload_n 3, 1) := by decide +kernel
theorem dX12_same_90 : decode cX12_same 90 = .ok (.if_icmp .ne 7, 3) := by decide +kernel
theorem dX12_same_93 : decode cX12_same 93 = .ok (.iconst 1, 1) := by decide +kernel
theorem dX12_same_94 : decode cX12_same 94 = .ok (.goto 4, 3) := by decide +kernel
theorem dX12_same_97 : decode cX12_same 97 = .ok (.iconst 0, 1) := by decide +kernel
theorem dX12_same_98 : decode cX12_same 98 = .ok (.istore 4, 2) := by decide +kernel
theorem dX12_same_100 : decode cX12_same 100 = .ok (.iconst 0, 1) := by decide +kernel
theorem dX12_same_101 : decode cX12_same 101 = .ok (.istore 5, 2) := by decide +kernel
theorem dX12_same_103 : decode cX12_same 103 = .ok (.iload 5, 2) := by decide +kernel
theorem dX12_same_105 : decode cX12_same 105 = .ok (.iload_n 3, 1) := by decide +kernel
theorem dX12_same_106 : decode cX12_same 106 = .ok (.if_icmp .ge 43, 3) := by decide +kernel
theorem dX12_same_109 : decode cX12_same 109 = .ok (.iload 4, 2) := by decide +kernel
theorem dX12_same_111 : decode cX12_same 111 = .ok (.ifCond .eq 38, 3) := by decide +kernel
theorem dX12_same_114 : decode cX12_same 114 = .ok (.aload_n 0, 1) := by decide +kernel
theorem dX12_same_115 : decode cX12_same 115 = .ok (.getfield 84, 3) := by decide +kernel
theorem dX12_same_118 : decode cX12_same 118 = .ok (.iload 5, 2) := by decide +kernel
theorem dX12_same_120 : decode cX12_same 120 = .ok (.iaload, 1) := by decide +kernel
theorem dX12_same_121 : decode cX12_same 121 = .ok (.aload_n 0, 1) := by decide +kernel
theorem dX12_same_122 : decode cX12_same 122 = .ok (.getfield 68, 3) := by decide +kernel
theorem dX12_same_125 : decode cX12_same 125 = .ok (.aload_n 0, 1) := by decide +kernel
theorem dX12_same_126 : decode cX12_same 126 = .ok (.getfield 71, 3) := by decide +kernel
theorem dX12_same_129 : decode cX12_same 129 = .ok (.iload 5, 2) := by decide +kernel
theorem dX12_same_131 : decode cX12_same 131 = .ok (.iaload, 1) := by decide +kernel
theorem dX12_same_132 : decode cX12_same 132 = .ok (.iaload, 1) := by decide +kernel
theorem dX12_same_133 : decode cX12_same 133 = .ok (.if_icmp .ne 7, 3) := by decide +kernel
theorem dX12_same_136 : decode cX12_same 136 = .ok (.iconst 1, 1) := by decide +kernel
theorem dX12_same_137 : decode cX12_same 137 = .ok (.goto 4, 3) := by decide +kernel
theorem dX12_same_140 : decode cX12_same 140 = .ok (.iconst 0, 1) := by decide +kernel
theorem dX12_same_141 : decode cX12_same 141 = .ok (.istore 4, 2) := by decide +kernel
theorem dX12_same_143 : decode cX12_same 143 = .ok (.iinc 5 1, 3) := by decide +kernel
theorem dX12_same_146 : decode cX12_same 146 = .ok (.goto (-43), 3) := by decide +kernel
theorem dX12_same_149 : decode cX12_same 149 = .ok (.iload 4, 2) := by decide +kernel
theorem dX12_same_151 : decode cX12_same 151 = .ok (.ifCond .eq 7, 3) := by decide +kernel
theorem dX12_same_154 : decode cX12_same 154 = .ok (.iconst 1, 1) := by decide +kernel
theorem dX12_same_155 : decode cX12_same 155 = .ok (.goto 4, 3) := by decide +kernel
theorem dX12_same_158 : decode cX12_same 158 = .ok (.iconst 0, 1) := by decide +kernel
theorem dX12_same_159 : decode cX12_same 159 = .ok (.ireturn, 1) := by decide +kernel
theorem dX12_numberOf_0 : decode cX12_numberOf 0 = .ok (.iconst 0, 1) := by decide +kernel
theorem dX12_numberOf_1 : decode cX12_numberOf 1 = .ok (.istore_n 1, 1) := by decide +kernel
theorem dX12_numberOf_2 : decode cX12_numberOf 2 = .ok (.iconst 0, 1) := by decide +kernel
theorem dX12_numberOf_3 : decode cX12_numberOf 3 = .ok (.istore_n 2, 1) := by decide +kernel
theorem dX12_numberOf_4 : decode cX12_numberOf 4 = .ok (.iload_n 2, 1) := by decide +kernel
theorem dX12_numberOf_5 : decode cX12_numberOf 5 = .ok (.aload_n 0, 1) := by decide +kernel
theorem dX12_numberOf_6 : decode cX12_numberOf 6 = .ok (.getfield 283, 3) := by decide +kernel
theorem dX12_numberOf_9 : decode cX12_numberOf 9 = .ok (.if_icmp .ge 66, 3) := by decide +kernel
theorem dX12_numberOf_12 : decode cX12_numberOf 12 = .ok (.iconst 0, 1) := by decide +kernel
theorem dX12_numberOf_13 : decode cX12_numberOf 13 = .ok (.istore_n 3, 1) := by decide +kernel
theorem dX12_numberOf_14 : decode cX12_numberOf 14 = .ok (.iload_n 2, 1) := by decide +kernel
theorem dX12_numberOf_15 : decode cX12_numberOf 15 = .ok (.iconst 1, 1) := by decide +kernel
theorem dX12_numberOf_16 : decode cX12_numberOf 16 = .ok (.iadd, 1) := by decide +kernel
theorem dX12_numberOf_17 : decode cX12_numberOf 17 = .ok (.istore 4, 2) := by decide +kernel
theorem dX12_numberOf_19 : decode cX12_numberOf 19 = .ok (.iload 4, 2) := by decide +kernel
theorem dX12_numberOf_21 : decode cX12_numberOf 21 = .ok (.aload_n 0, 1) := by decide +kernel
theorem dX12_numberOf_22 : decode cX12_numberOf 22 = .ok (.getfield 283, 3) := by decide +kernel
theorem dX12_numberOf_25 : decode cX12_numberOf 25 = .ok (.if_icmp .ge 33, 3) := by decide +kernel
theorem dX12_numberOf_28 : decode cX12_numberOf 28 = .ok (.iload_n 3, 1) := by decide +kernel
theorem dX12_numberOf_29 : decode cX12_numberOf 29 = .ok (.aload_n 0, 1) := by decide +kernel
theorem dX12_numberOf_30 : decode cX12_numberOf 30 = .ok (.getfield 93, 3) := by decide +kernel
theorem dX12_numberOf_33 : decode cX12_numberOf 33 = .ok (.iload 4, 2) := by decide +kernel
theorem dX12_numberOf_35 : decode cX12_numberOf 35 = .ok (.iaload, 1) := by decide +kernel
theorem dX12_numberOf_36 : decode cX12_numberOf 36 = .ok (.aload_n 0, 1) := by decide +kernel
theorem dX12_numberOf_37 : decode cX12_numberOf 37 = .ok (.getfield 93, 3) := by decide +kernel
theorem dX12_numberOf_40 : decode cX12_numberOf 40 = .ok (.iload_n 2, 1) := by decide +kernel
theorem dX12_numberOf_41 : decode cX12_numberOf 41 = .ok (.iaload, 1) := by decide +kernel
theorem dX12_numberOf_42 : decode cX12_numberOf 42 = .ok (.if_icmp .ge 7, 3) := by decide +kernel
theorem dX12_numberOf_45 : decode cX12_numberOf 45 = .ok (.iconst 1, 1) := by decide +kernel
theorem dX12_numberOf_46 : decode cX12_numberOf 46 = .ok (.goto 4, 3) := by decide +kernel
theorem dX12_numberOf_49 : decode cX12_numberOf 49 = .ok (.iconst 0, 1) := by decide +kernel
theorem dX12_numberOf_50 : decode cX12_numberOf 50 = .ok (.iadd, 1) := by decide +kernel
theorem dX12_numberOf_51 : decode cX12_numberOf 51 = .ok (.istore_n 3, 1) := by decide +kernel
theorem dX12_numberOf_52 : decode cX12_numberOf 52 = .ok (.iinc 4 1, 3) := by decide +kernel
theorem dX12_numberOf_55 : decode cX12_numberOf 55 = .ok (.goto (-36), 3) := by decide +kernel
theorem dX12_numberOf_58 : decode cX12_numberOf 58 = .ok (.iload_n 1, 1) := by decide +kernel
theorem dX12_numberOf_59 : decode cX12_numberOf 59 = .ok (.aload_n 0, 1) := by decide +kernel
theorem dX12_numberOf_60 : decode cX12_numberOf 60 = .ok (.getfield 283, 3) := by decide +kernel
theorem dX12_numberOf_63 : decode cX12_numberOf 63 = .ok (.iload_n 2, 1) := by decide +kernel
theorem dX12_numberOf_64 : decode cX12_numberOf 64 = .ok (.isub, 1) := by decide +kernel
theorem dX12_numberOf_65 : decode cX12_numberOf 65 = .ok (.imul, 1) := by decide +kernel
theorem dX12_numberOf_66 : decode cX12_numberOf 66 = .ok (.iload_n 3, 1) := by decide +kernel
theorem dX12_numberOf_67 : decode cX12_numberOf 67 = .ok (.iadd, 1) := by decide +kernel
theorem dX12_numberOf_68 : decode cX12_numberOf 68 = .ok (.istore_n 1, 1) := by decide +kernel
theorem dX12_numberOf_69 : decode cX12_numberOf 69 = .ok (.iinc 2 1, 3) := by decide +kernel
theorem dX12_numberOf_72 : decode cX12_numberOf 72 = .ok (.goto (-68), 3) := by decide +kernel
theorem dX12_numberOf_75 : decode cX12_numberOf 75 = .ok (.iload_n 1, 1) := by decide +kernel
theorem dX12_numberOf_76 : decode cX12_numberOf 76 = .ok (.ireturn, 1) := by decide +kernel
theorem dX12_digitsOf_0 : decode cX12_digitsOf 0 = .ok (.iload_n 1, 1) := by decide +kernel
theorem dX12_digitsOf_1 : decode cX12_digitsOf 1 = .ok (.istore_n 2, 1) := by decide +kernel
theorem dX12_digitsOf_2 : decode cX12_digitsOf 2 = .ok (.aload_n 0, 1) := by decide +kernel
theorem dX12_digitsOf_3 : decode cX12_digitsOf 3 = .ok (.getfield 283, 3) := by decide +kernel
theorem dX12_digitsOf_6 : decode cX12_digitsOf 6 = .ok (.iconst 1, 1) := by decide +kernel
theorem dX12_digitsOf_7 : decode cX12_digitsOf 7 = .ok (.isub, 1) := by decide +kernel
theorem dX12_digitsOf_8 : decode cX12_digitsOf 8 = .ok (.istore_n 3, 1) := by decide +kernel
theorem dX12_digitsOf_9 : decode cX12_digitsOf 9 = .ok (.iload_n 3, 1) := by decide +kernel
theorem dX12_digitsOf_10 : decode cX12_digitsOf 10 = .ok (.ifCond .lt 32, 3) := by decide +kernel
theorem dX12_digitsOf_13 : decode cX12_digitsOf 13 = .ok (.aload_n 0, 1) := by decide +kernel
theorem dX12_digitsOf_14 : decode cX12_digitsOf 14 = .ok (.getfield 93, 3) := by decide +kernel
theorem dX12_digitsOf_17 : decode cX12_digitsOf 17 = .ok (.iload_n 3, 1) := by decide +kernel
theorem dX12_digitsOf_18 : decode cX12_digitsOf 18 = .ok (.iload_n 2, 1) := by decide +kernel
theorem dX12_digitsOf_19 : decode cX12_digitsOf 19 = .ok (.aload_n 0, 1) := by decide +kernel
theorem dX12_digitsOf_20 : decode cX12_digitsOf 20 = .ok (.getfield 283, 3) := by decide +kernel
theorem dX12_digitsOf_23 : decode cX12_digitsOf 23 = .ok (.iload_n 3, 1) := by decide +kernel
theorem dX12_digitsOf_24 : decode cX12_digitsOf 24 = .ok (.isub, 1) := by decide +kernel
theorem dX12_digitsOf_25 : decode cX12_digitsOf 25 = .ok (.irem, 1) := by decide +kernel
theorem dX12_digitsOf_26 : decode cX12_digitsOf 26 = .ok (.iastore, 1) := by decide +kernel
theorem dX12_digitsOf_27 : decode cX12_digitsOf 27 = .ok (.iload_n 2, 1) := by decide +kernel
theorem dX12_digitsOf_28 : decode cX12_digitsOf 28 = .ok (.aload_n 0, 1) := by decide +kernel
theorem dX12_digitsOf_29 : decode cX12_digitsOf 29 = .ok (.getfield 283, 3) := by decide +kernel
theorem dX12_digitsOf_32 : decode cX12_digitsOf 32 = .ok (.iload_n 3, 1) := by decide +kernel
theorem dX12_digitsOf_33 : decode cX12_digitsOf 33 = .ok (.isub, 1) := by decide +kernel
theorem dX12_digitsOf_34 : decode cX12_digitsOf 34 = .ok (.idiv, 1) := by decide +kernel
theorem dX12_digitsOf_35 : decode cX12_digitsOf 35 = .ok (.istore_n 2, 1) := by decide +kernel
theorem dX12_digitsOf_36 : decode cX12_digitsOf 36 = .ok (.iinc 3 (-1), 3) := by decide +kernel
theorem dX12_digitsOf_39 : decode cX12_digitsOf 39 = .ok (.goto (-30), 3) := by decide +kernel
theorem dX12_digitsOf_42 : decode cX12_digitsOf 42 = .ok (.aload_n 0, 1) := by decide +kernel
theorem dX12_digitsOf_43 : decode cX12_digitsOf 43 = .ok (.getfield 283, 3) := by decide +kernel
theorem dX12_digitsOf_46 : decode cX12_digitsOf 46 = .ok (.iconst 1, 1) := by decide +kernel
theorem dX12_digitsOf_47 : decode cX12_digitsOf 47 = .ok (.isub, 1) := by decide +kernel
theorem dX12_digitsOf_48 : decode cX12_digitsOf 48 = .ok (.istore_n 3, 1) := by decide +kernel
theorem dX12_digitsOf_49 : decode cX12_digitsOf 49 = .ok (.iload_n 3, 1) := by decide +kernel
theorem dX12_digitsOf_50 : decode cX12_digitsOf 50 = .ok (.ifCond .lt 60, 3) := by decide +kernel
theorem dX12_digitsOf_53 : decode cX12_digitsOf 53 = .ok (.iload_n 3, 1) := by decide +kernel
theorem dX12_digitsOf_54 : decode cX12_digitsOf 54 = .ok (.iconst 1, 1) := by decide +kernel
theorem dX12_digitsOf_55 : decode cX12_digitsOf 55 = .ok (.iadd, 1) := by decide +kernel
theorem dX12_digitsOf_56 : decode cX12_digitsOf 56 = .ok (.istore 4, 2) := by decide +kernel
theorem dX12_digitsOf_58 : decode cX12_digitsOf 58 = .ok (.iload 4, 2) := by decide +kernel
theorem dX12_digitsOf_60 : decode cX12_digitsOf 60 = .ok (.aload_n 0, 1) := by decide +kernel
theorem dX12_digitsOf_61 : decode cX12_digitsOf 61 = .ok (.getfield 283, 3) := by decide +kernel
theorem dX12_digitsOf_64 : decode cX12_digitsOf 64 = .ok (.if_icmp .ge 40, 3) := by decide +kernel
theorem dX12_digitsOf_67 : decode cX12_digitsOf 67 = .ok (.aload_n 0, 1) := by decide +kernel
theorem dX12_digitsOf_68 : decode cX12_digitsOf 68 = .ok (.getfield 93, 3) := by decide +kernel
theorem dX12_digitsOf_71 : decode cX12_digitsOf 71 = .ok (.iload 4, 2) := by decide +kernel
theorem dX12_digitsOf_73 : decode cX12_digitsOf 73 = .ok (.dup2, 1) := by decide +kernel
theorem dX12_digitsOf_74 : decode cX12_digitsOf 74 = .ok (.iaload, 1) := by decide +kernel
theorem dX12_digitsOf_75 : decode cX12_digitsOf 75 = .ok (.aload_n 0, 1) := by decide +kernel
theorem dX12_digitsOf_76 : decode cX12_digitsOf 76 = .ok (.getfield 93, 3) := by decide +kernel
theorem dX12_digitsOf_79 : decode cX12_digitsOf 79 = .ok (.iload 4, 2) := by decide +kernel
theorem dX12_digitsOf_81 : decode cX12_digitsOf 81 = .ok (.iaload, 1) := by decide +kernel
theorem dX12_digitsOf_82 : decode cX12_digitsOf 82 = .ok (.aload_n 0, 1) := by decide +kernel
theorem dX12_digitsOf_83 : decode cX12_digitsOf 83 = .ok (.getfield 93, 3) := by decide +kernel
theorem dX12_digitsOf_86 : decode cX12_digitsOf 86 = .ok (.iload_n 3, 1) := by decide +kernel
theorem dX12_digitsOf_87 : decode cX12_digitsOf 87 = .ok (.iaload, 1) := by decide +kernel
theorem dX12_digitsOf_88 : decode cX12_digitsOf 88 = .ok (.if_icmp .lt 7, 3) := by decide +kernel
theorem dX12_digitsOf_91 : decode cX12_digitsOf 91 = .ok (.iconst 1, 1) := by decide +kernel
theorem dX12_digitsOf_92 : decode cX12_digitsOf 92 = .ok (.goto 4, 3) := by decide +kernel
theorem dX12_digitsOf_95 : decode cX12_digitsOf 95 = .ok (.iconst 0, 1) := by decide +kernel
theorem dX12_digitsOf_96 : decode cX12_digitsOf 96 = .ok (.iadd, 1) := by decide +kernel
theorem dX12_digitsOf_97 : decode cX12_digitsOf 97 = .ok (.iastore, 1) := by decide +kernel
theorem dX12_digitsOf_98 : decode cX12_digitsOf 98 = .ok (.iinc 4 1, 3) := by decide +kernel
theorem dX12_digitsOf_101 : decode cX12_digitsOf 101 = .ok (.goto (-43), 3) := by decide +kernel
theorem dX12_digitsOf_104 : decode cX12_digitsOf 104 = .ok (.iinc 3 (-1), 3) := by decide +kernel
theorem dX12_digitsOf_107 : decode cX12_digitsOf 107 = .ok (.goto (-58), 3) := by decide +kernel
theorem dX12_digitsOf_110 : decode cX12_digitsOf 110 = .ok (.return_, 1) := by decide +kernel
theorem dX12_swapDigits_0 : decode cX12_swapDigits 0 = .ok (.aload_n 0, 1) := by decide +kernel
theorem dX12_swapDigits_1 : decode cX12_swapDigits 1 = .ok (.getfield 93, 3) := by decide +kernel
theorem dX12_swapDigits_4 : decode cX12_swapDigits 4 = .ok (.iload_n 1, 1) := by decide +kernel
theorem dX12_swapDigits_5 : decode cX12_swapDigits 5 = .ok (.iaload, 1) := by decide +kernel
theorem dX12_swapDigits_6 : decode cX12_swapDigits 6 = .ok (.istore_n 2, 1) := by decide +kernel
theorem dX12_swapDigits_7 : decode cX12_swapDigits 7 = .ok (.aload_n 0, 1) := by decide +kernel
theorem dX12_swapDigits_8 : decode cX12_swapDigits 8 = .ok (.getfield 93, 3) := by decide +kernel
theorem dX12_swapDigits_11 : decode cX12_swapDigits 11 = .ok (.iload_n 1, 1) := by decide +kernel
theorem dX12_swapDigits_12 : decode cX12_swapDigits 12 = .ok (.aload_n 0, 1) := by decide +kernel
theorem dX12_swapDigits_13 : decode cX12_swapDigits 13 = .ok (.getfield 93, 3) := by decide +kernel
theorem dX12_swapDigits_16 : decode cX12_swapDigits 16 = .ok (.aload_n 0, 1) := by decide +kernel
theorem dX12_swapDigits_17 : decode cX12_swapDigits 17 = .ok (.iload_n 1, 1) := by decide +kernel
theorem dX12_swapDigits_18 : decode cX12_swapDigits 18 = .ok (.invokevirtual 308, 3) := by decide +kernel
theorem dX12_swapDigits_21 : decode cX12_swapDigits 21 = .ok (.iaload, 1) := by decide +kernel
theorem dX12_swapDigits_22 : decode cX12_swapDigits 22 = .ok (.iastore, 1) := by decide +kernel
theorem dX12_swapDigits_23 : decode cX12_swapDigits 23 = .ok (.aload_n 0, 1) := by decide +kernel
theorem dX12_swapDigits_24 : decode cX12_swapDigits 24 = .ok (.getfield 93, 3) := by decide +kernel
theorem dX12_swapDigits_27 : decode cX12_swapDigits 27 = .ok (.aload_n 0, 1) := by decide +kernel
theorem dX12_swapDigits_28 : decode cX12_swapDigits 28 = .ok (.iload_n 1, 1) := by decide +kernel
theorem dX12_swapDigits_29 : decode cX12_swapDigits 29 = .ok (.invokevirtual 308, 3) := by decide +kernel
theorem dX12_swapDigits_32 : decode cX12_swapDigits 32 = .ok (.iload_n 2, 1) := by decide +kernel
theorem dX12_swapDigits_33 : decode cX12_swapDigits 33 = .ok (.iastore, 1) := by decide +kernel
theorem dX12_swapDigits_34 : decode cX12_swapDigits 34 = .ok (.return_, 1) := by decide +kernel
theorem dX12_isOrder_0 : decode cX12_isOrder 0 = .ok (.iload_n 1, 1) := by decide +kernel
theorem dX12_isOrder_1 : decode cX12_isOrder 1 = .ok (.istore_n 2, 1) := by decide +kernel
theorem dX12_isOrder_2 : decode cX12_isOrder 2 = .ok (.iconst 0, 1) := by decide +kernel
theorem dX12_isOrder_3 : decode cX12_isOrder 3 = .ok (.istore_n 3, 1) := by decide +kernel
theorem dX12_isOrder_4 : decode cX12_isOrder 4 = .ok (.aload_n 0, 1) := by decide +kernel
theorem dX12_isOrder_5 : decode cX12_isOrder 5 = .ok (.getfield 283, 3) := by decide +kernel
theorem dX12_isOrder_8 : decode cX12_isOrder 8 = .ok (.iconst 1, 1) := by decide +kernel
theorem dX12_isOrder_9 : decode cX12_isOrder 9 = .ok (.isub, 1) := by decide +kernel
theorem dX12_isOrder_10 : decode cX12_isOrder 10 = .ok (.istore 4, 2) := by decide +kernel
theorem dX12_isOrder_12 : decode cX12_isOrder 12 = .ok (.iload 4, 2) := by decide +kernel
theorem dX12_isOrder_14 : decode cX12_isOrder 14 = .ok (.ifCond .lt 37, 3) := by decide +kernel
theorem dX12_isOrder_17 : decode cX12_isOrder 17 = .ok (.aload_n 0, 1) := by decide +kernel
theorem dX12_isOrder_18 : decode cX12_isOrder 18 = .ok (.getfield 93, 3) := by decide +kernel
theorem dX12_isOrder_21 : decode cX12_isOrder 21 = .ok (.iload 4, 2) := by decide +kernel
theorem dX12_isOrder_23 : decode cX12_isOrder 23 = .ok (.iload_n 2, 1) := by decide +kernel
theorem dX12_isOrder_24 : decode cX12_isOrder 24 = .ok (.bipush 10, 2) := by decide +kernel
theorem dX12_isOrder_26 : decode cX12_isOrder 26 = .ok (.irem, 1) := by decide +kernel
theorem dX12_isOrder_27 : decode cX12_isOrder 27 = .ok (.iastore, 1) := by decide +kernel
theorem dX12_isOrder_28 : decode cX12_isOrder 28 = .ok (.iload_n 3, 1) := by decide +kernel
theorem dX12_isOrder_29 : decode cX12_isOrder 29 = .ok (.iconst 1, 1) := by decide +kernel
theorem dX12_isOrder_30 : decode cX12_isOrder 30 = .ok (.aload_n 0, 1) := by decide +kernel
theorem dX12_isOrder_31 : decode cX12_isOrder 31 = .ok (.getfield 93, 3) := by decide +kernel
theorem dX12_isOrder_34 : decode cX12_isOrder 34 = .ok (.iload 4, 2) := by decide +kernel
theorem dX12_isOrder_36 : decode cX12_isOrder 36 = .ok (.iaload, 1) := by decide +kernel
theorem dX12_isOrder_37 : decode cX12_isOrder 37 = .ok (.ishl, 1) := by decide +kernel
theorem dX12_isOrder_38 : decode cX12_isOrder 38 = .ok (.ior, 1) := by decide +kernel
theorem dX12_isOrder_39 : decode cX12_isOrder 39 = .ok (.istore_n 3, 1) := by decide +kernel
theorem dX12_isOrder_40 : decode cX12_isOrder 40 = .ok (.iload_n 2, 1) := by decide +kernel
theorem dX12_isOrder_41 : decode cX12_isOrder 41 = .ok (.bipush 10, 2) := by decide +kernel
theorem dX12_isOrder_43 : decode cX12_isOrder 43 = .ok (.idiv, 1) := by decide +kernel
theorem dX12_isOrder_44 : decode cX12_isOrder 44 = .ok (.istore_n 2, 1) := by decide +kernel
theorem dX12_isOrder_45 : decode cX12_isOrder 45 = .ok (.iinc 4 (-1), 3) := by decide +kernel
theorem dX12_isOrder_48 : decode cX12_isOrder 48 = .ok (.goto (-36), 3) := by decide +kernel
theorem dX12_isOrder_51 : decode cX12_isOrder 51 = .ok (.iload_n 1, 1) := by decide +kernel
theorem dX12_isOrder_52 : decode cX12_isOrder 52 = .ok (.ifCond .lt 23, 3) := by decide +kernel
theorem dX12_isOrder_55 : decode cX12_isOrder 55 = .ok (.iload_n 2, 1) := by decide +kernel
theorem dX12_isOrder_56 : decode cX12_isOrder 56 = .ok (.ifCond .ne 19, 3) := by decide +kernel
theorem dX12_isOrder_59 : decode cX12_isOrder 59 = .ok (.iload_n 3, 1) := by decide +kernel
theorem dX12_isOrder_60 : decode cX12_isOrder 60 = .ok (.iconst 1, 1) := by decide +kernel
theorem dX12_isOrder_61 : decode cX12_isOrder 61 = .ok (.aload_n 0, 1) := by decide +kernel
theorem dX12_isOrder_62 : decode cX12_isOrder 62 = .ok (.getfield 283, 3) := by decide +kernel
theorem dX12_isOrder_65 : decode cX12_isOrder 65 = .ok (.ishl, 1) := by decide +kernel
theorem dX12_isOrder_66 : decode cX12_isOrder 66 = .ok (.iconst 1, 1) := by decide +kernel
theorem dX12_isOrder_67 : decode cX12_isOrder 67 = .ok (.isub, 1) := by decide +kernel
theorem dX12_isOrder_68 : decode cX12_isOrder 68 = .ok (.if_icmp .ne 7, 3) := by decide +kernel
theorem dX12_isOrder_71 : decode cX12_isOrder 71 = .ok (.iconst 1, 1) := by decide +kernel
theorem dX12_isOrder_72 : decode cX12_isOrder 72 = .ok (.goto 4, 3) := by decide +kernel
theorem dX12_isOrder_75 : decode cX12_isOrder 75 = .ok (.iconst 0, 1) := by decide +kernel
theorem dX12_isOrder_76 : decode cX12_isOrder 76 = .ok (.ireturn, 1) := by decide +kernel
theorem dX12_layFar_0 : decode cX12_layFar 0 = .ok (.iconst 0, 1) := by decide +kernel
theorem dX12_layFar_1 : decode cX12_layFar 1 = .ok (.istore_n 1, 1) := by decide +kernel
theorem dX12_layFar_2 : decode cX12_layFar 2 = .ok (.iload_n 1, 1) := by decide +kernel
theorem dX12_layFar_3 : decode cX12_layFar 3 = .ok (.sipush 5040, 3) := by decide +kernel
theorem dX12_layFar_6 : decode cX12_layFar 6 = .ok (.if_icmp .ge 16, 3) := by decide +kernel
theorem dX12_layFar_9 : decode cX12_layFar 9 = .ok (.aload_n 0, 1) := by decide +kernel
theorem dX12_layFar_10 : decode cX12_layFar 10 = .ok (.getfield 87, 3) := by decide +kernel
theorem dX12_layFar_13 : decode cX12_layFar 13 = .ok (.iload_n 1, 1) := by decide +kernel
theorem dX12_layFar_14 : decode cX12_layFar 14 = .ok (.iconst (-1), 1) := by decide +kernel
theorem dX12_layFar_15 : decode cX12_layFar 15 = .ok (.iastore, 1) := by decide +kernel
theorem dX12_layFar_16 : decode cX12_layFar 16 = .ok (.iinc 1 1, 3) := by decide +kernel
theorem dX12_layFar_19 : decode cX12_layFar 19 = .ok (.goto (-17), 3) := by decide +kernel
theorem dX12_layFar_22 : decode cX12_layFar 22 = .ok (.iconst 1, 1) := by decide +kernel
theorem dX12_layFar_23 : decode cX12_layFar 23 = .ok (.istore_n 1, 1) := by decide +kernel
theorem dX12_layFar_24 : decode cX12_layFar 24 = .ok (.aload_n 0, 1) := by decide +kernel
theorem dX12_layFar_25 : decode cX12_layFar 25 = .ok (.getfield 90, 3) := by decide +kernel
theorem dX12_layFar_28 : decode cX12_layFar 28 = .ok (.iconst 0, 1) := by decide +kernel
theorem dX12_layFar_29 : decode cX12_layFar 29 = .ok (.aload_n 0, 1) := by decide +kernel
theorem dX12_layFar_30 : decode cX12_layFar 30 = .ok (.invokevirtual 450, 3) := by decide +kernel
theorem dX12_layFar_33 : decode cX12_layFar 33 = .ok (.iastore, 1) := by decide +kernel
theorem dX12_layFar_34 : decode cX12_layFar 34 = .ok (.aload_n 0, 1) := by decide +kernel
theorem dX12_layFar_35 : decode cX12_layFar 35 = .ok (.getfield 87, 3) := by decide +kernel
theorem dX12_layFar_38 : decode cX12_layFar 38 = .ok (.aload_n 0, 1) := by decide +kernel
theorem dX12_layFar_39 : decode cX12_layFar 39 = .ok (.getfield 90, 3) := by decide +kernel
theorem dX12_layFar_42 : decode cX12_layFar 42 = .ok (.iconst 0, 1) := by decide +kernel
theorem dX12_layFar_43 : decode cX12_layFar 43 = .ok (.iaload, 1) := by decide +kernel
theorem dX12_layFar_44 : decode cX12_layFar 44 = .ok (.iconst 0, 1) := by decide +kernel
theorem dX12_layFar_45 : decode cX12_layFar 45 = .ok (.iastore, 1) := by decide +kernel
theorem dX12_layFar_46 : decode cX12_layFar 46 = .ok (.iconst 0, 1) := by decide +kernel
theorem dX12_layFar_47 : decode cX12_layFar 47 = .ok (.istore_n 2, 1) := by decide +kernel
theorem dX12_layFar_48 : decode cX12_layFar 48 = .ok (.iload_n 2, 1) := by decide +kernel
theorem dX12_layFar_49 : decode cX12_layFar 49 = .ok (.iload_n 1, 1) := by decide +kernel
theorem dX12_layFar_50 : decode cX12_layFar 50 = .ok (.if_icmp .ge 88, 3) := by decide +kernel
theorem dX12_layFar_53 : decode cX12_layFar 53 = .ok (.iconst 0, 1) := by decide +kernel
theorem dX12_layFar_54 : decode cX12_layFar 54 = .ok (.istore_n 3, 1) := by decide +kernel
theorem dX12_layFar_55 : decode cX12_layFar 55 = .ok (.iload_n 3, 1) := by decide +kernel
theorem dX12_layFar_56 : decode cX12_layFar 56 = .ok (.aload_n 0, 1) := by decide +kernel
theorem dX12_layFar_57 : decode cX12_layFar 57 = .ok (.getfield 283, 3) := by decide +kernel
theorem dX12_layFar_60 : decode cX12_layFar 60 = .ok (.if_icmp .ge 72, 3) := by decide +kernel
theorem dX12_layFar_63 : decode cX12_layFar 63 = .ok (.aload_n 0, 1) := by decide +kernel
theorem dX12_layFar_64 : decode cX12_layFar 64 = .ok (.aload_n 0, 1) := by decide +kernel
theorem dX12_layFar_65 : decode cX12_layFar 65 = .ok (.getfield 90, 3) := by decide +kernel
theorem dX12_layFar_68 : decode cX12_layFar 68 = .ok (.iload_n 2, 1) := by decide +kernel
theorem dX12_layFar_69 : decode cX12_layFar 69 = .ok (.iaload, 1) := by decide +kernel
theorem dX12_layFar_70 : decode cX12_layFar 70 = .ok (.invokevirtual 453, 3) := by decide +kernel
theorem dX12_layFar_73 : decode cX12_layFar 73 = .ok (.aload_n 0, 1) := by decide +kernel
theorem dX12_layFar_74 : decode cX12_layFar 74 = .ok (.iload_n 3, 1) := by decide +kernel
theorem dX12_layFar_75 : decode cX12_layFar 75 = .ok (.invokevirtual 456, 3) := by decide +kernel
theorem dX12_layFar_78 : decode cX12_layFar 78 = .ok (.aload_n 0, 1) := by decide +kernel
theorem dX12_layFar_79 : decode cX12_layFar 79 = .ok (.invokevirtual 450, 3) := by decide +kernel
theorem dX12_layFar_82 : decode cX12_layFar 82 = .ok (.istore 4, 2) := by decide +kernel
theorem dX12_layFar_84 : decode cX12_layFar 84 = .ok (.aload_n 0, 1) := by decide +kernel
theorem dX12_layFar_85 : decode cX12_layFar 85 = .ok (.getfield 87, 3) := by decide +kernel
theorem dX12_layFar_88 : decode cX12_layFar 88 = .ok (.iload 4, 2) := by decide +kernel
theorem dX12_layFar_90 : decode cX12_layFar 90 = .ok (.iaload, 1) := by decide +kernel
theorem dX12_layFar_91 : decode cX12_layFar 91 = .ok (.iconst (-1), 1) := by decide +kernel
theorem dX12_layFar_92 : decode cX12_layFar 92 = .ok (.if_icmp .ne 34, 3) := by decide +kernel
theorem dX12_layFar_95 : decode cX12_layFar 95 = .ok (.aload_n 0, 1) := by decide +kernel
theorem dX12_layFar_96 : decode cX12_layFar 96 = .ok (.getfield 87, 3) := by decide +kernel
theorem dX12_layFar_99 : decode cX12_layFar 99 = .ok (.iload 4, 2) := by decide +kernel
theorem dX12_layFar_101 : decode cX12_layFar 101 = .ok (.aload_n 0, 1) := by decide +kernel
theorem dX12_layFar_102 : decode cX12_layFar 102 = .ok (.getfield 87, 3) := by decide +kernel
theorem dX12_layFar_105 : decode cX12_layFar 105 = .ok (.aload_n 0, 1) := by decide +kernel
theorem dX12_layFar_106 : decode cX12_layFar 106 = .ok (.getfield 90, 3) := by decide +kernel
theorem dX12_layFar_109 : decode cX12_layFar 109 = .ok (.iload_n 2, 1) := by decide +kernel
theorem dX12_layFar_110 : decode cX12_layFar 110 = .ok (.iaload, 1) := by decide +kernel
theorem dX12_layFar_111 : decode cX12_layFar 111 = .ok (.iaload, 1) := by decide +kernel
theorem dX12_layFar_112 : decode cX12_layFar 112 = .ok (.iconst 1, 1) := by decide +kernel
theorem dX12_layFar_113 : decode cX12_layFar 113 = .ok (.iadd, 1) := by decide +kernel
theorem dX12_layFar_114 : decode cX12_layFar 114 = .ok (.iastore, 1) := by decide +kernel
theorem dX12_layFar_115 : decode cX12_layFar 115 = .ok (.aload_n 0, 1) := by decide +kernel
theorem dX12_layFar_116 : decode cX12_layFar 116 = .ok (.getfield 90, 3) := by decide +kernel
theorem dX12_layFar_119 : decode cX12_layFar 119 = .ok (.iload_n 1, 1) := by decide +kernel
theorem dX12_layFar_120 : decode cX12_layFar 120 = .ok (.iload 4, 2) := by decide +kernel
theorem dX12_layFar_122 : decode cX12_layFar 122 = .ok (.iastore, 1) := by decide +kernel
theorem dX12_layFar_123 : decode cX12_layFar 123 = .ok (.iinc 1 1, 3) := by decide +kernel
theorem dX12_layFar_126 : decode cX12_layFar 126 = .ok (.iinc 3 1, 3) := by decide +kernel
theorem dX12_layFar_129 : decode cX12_layFar 129 = .ok (.goto (-74), 3) := by decide +kernel
theorem dX12_layFar_132 : decode cX12_layFar 132 = .ok (.iinc 2 1, 3) := by decide +kernel
theorem dX12_layFar_135 : decode cX12_layFar 135 = .ok (.goto (-87), 3) := by decide +kernel
theorem dX12_layFar_138 : decode cX12_layFar 138 = .ok (.return_, 1) := by decide +kernel
theorem dX12_farNow_0 : decode cX12_farNow 0 = .ok (.iconst 0, 1) := by decide +kernel
theorem dX12_farNow_1 : decode cX12_farNow 1 = .ok (.istore_n 2, 1) := by decide +kernel
theorem dX12_farNow_2 : decode cX12_farNow 2 = .ok (.iload_n 2, 1) := by decide +kernel
theorem dX12_farNow_3 : decode cX12_farNow 3 = .ok (.aload_n 0, 1) := by decide +kernel
theorem dX12_farNow_4 : decode cX12_farNow 4 = .ok (.getfield 283, 3) := by decide +kernel
theorem dX12_farNow_7 : decode cX12_farNow 7 = .ok (.if_icmp .ge 23, 3) := by decide +kernel
theorem dX12_farNow_10 : decode cX12_farNow 10 = .ok (.aload_n 0, 1) := by decide +kernel
theorem dX12_farNow_11 : decode cX12_farNow 11 = .ok (.getfield 93, 3) := by decide +kernel
theorem dX12_farNow_14 : decode cX12_farNow 14 = .ok (.iload_n 2, 1) := by decide +kernel
theorem dX12_farNow_15 : decode cX12_farNow 15 = .ok (.aload_n 0, 1) := by decide +kernel
theorem dX12_farNow_16 : decode cX12_farNow 16 = .ok (.getfield 58, 3) := by decide +kernel
theorem dX12_farNow_19 : decode cX12_farNow 19 = .ok (.iconst 0, 1) := by decide +kernel
theorem dX12_farNow_20 : decode cX12_farNow 20 = .ok (.iload_n 2, 1) := by decide +kernel
theorem dX12_farNow_21 : decode cX12_farNow 21 = .ok (.iadd, 1) := by decide +kernel
theorem dX12_farNow_22 : decode cX12_farNow 22 = .ok (.iaload, 1) := by decide +kernel
theorem dX12_farNow_23 : decode cX12_farNow 23 = .ok (.iastore, 1) := by decide +kernel
theorem dX12_farNow_24 : decode cX12_farNow 24 = .ok (.iinc 2 1, 3) := by decide +kernel
theorem dX12_farNow_27 : decode cX12_farNow 27 = .ok (.goto (-25), 3) := by decide +kernel
theorem dX12_farNow_30 : decode cX12_farNow 30 = .ok (.iload_n 1, 1) := by decide +kernel
theorem dX12_farNow_31 : decode cX12_farNow 31 = .ok (.iconst (-1), 1) := by decide +kernel
theorem dX12_farNow_32 : decode cX12_farNow 32 = .ok (.if_icmp .eq 8, 3) := by decide +kernel
theorem dX12_farNow_35 : decode cX12_farNow 35 = .ok (.aload_n 0, 1) := by decide +kernel
theorem dX12_farNow_36 : decode cX12_farNow 36 = .ok (.iload_n 1, 1) := by decide +kernel
theorem dX12_farNow_37 : decode cX12_farNow 37 = .ok (.invokevirtual 456, 3) := by decide +kernel
theorem dX12_farNow_40 : decode cX12_farNow 40 = .ok (.aload_n 0, 1) := by decide +kernel
theorem dX12_farNow_41 : decode cX12_farNow 41 = .ok (.getfield 87, 3) := by decide +kernel
theorem dX12_farNow_44 : decode cX12_farNow 44 = .ok (.aload_n 0, 1) := by decide +kernel
theorem dX12_farNow_45 : decode cX12_farNow 45 = .ok (.invokevirtual 450, 3) := by decide +kernel
theorem dX12_farNow_48 : decode cX12_farNow 48 = .ok (.iaload, 1) := by decide +kernel
theorem dX12_farNow_49 : decode cX12_farNow 49 = .ok (.ireturn, 1) := by decide +kernel
theorem dX12_nearest_0 : decode cX12_nearest 0 = .ok (.aload_n 0, 1) := by decide +kernel
theorem dX12_nearest_1 : decode cX12_nearest 1 = .ok (.getfield 283, 3) := by decide +kernel
theorem dX12_nearest_4 : decode cX12_nearest 4 = .ok (.ifCond .eq 20, 3) := by decide +kernel
theorem dX12_nearest_7 : decode cX12_nearest 7 = .ok (.aload_n 0, 1) := by decide +kernel
theorem dX12_nearest_8 : decode cX12_nearest 8 = .ok (.iload_n 1, 1) := by decide +kernel
theorem dX12_nearest_9 : decode cX12_nearest 9 = .ok (.invokevirtual 459, 3) := by decide +kernel
theorem dX12_nearest_12 : decode cX12_nearest 12 = .ok (.ifCond .eq 12, 3) := by decide +kernel
theorem dX12_nearest_15 : decode cX12_nearest 15 = .ok (.iload_n 2, 1) := by decide +kernel
theorem dX12_nearest_16 : decode cX12_nearest 16 = .ok (.iconst 0, 1) := by decide +kernel
theorem dX12_nearest_17 : decode cX12_nearest 17 = .ok (.iconst 1, 1) := by decide +kernel
theorem dX12_nearest_18 : decode cX12_nearest 18 = .ok (.invokestatic 229, 3) := by decide +kernel
theorem dX12_nearest_21 : decode cX12_nearest 21 = .ok (.ifCond .ne 5, 3) := by decide +kernel
theorem dX12_nearest_24 : decode cX12_nearest 24 = .ok (.iconst (-1), 1) := by decide +kernel
theorem dX12_nearest_25 : decode cX12_nearest 25 = .ok (.ireturn, 1) := by decide +kernel
theorem dX12_nearest_26 : decode cX12_nearest 26 = .ok (.aload_n 0, 1) := by decide +kernel
theorem dX12_nearest_27 : decode cX12_nearest 27 = .ok (.invokevirtual 462, 3) := by decide +kernel
theorem dX12_nearest_30 : decode cX12_nearest 30 = .ok (.aload_n 0, 1) := by decide +kernel
theorem dX12_nearest_31 : decode cX12_nearest 31 = .ok (.iconst (-1), 1) := by decide +kernel
theorem dX12_nearest_32 : decode cX12_nearest 32 = .ok (.invokevirtual 465, 3) := by decide +kernel
theorem dX12_nearest_35 : decode cX12_nearest 35 = .ok (.istore_n 3, 1) := by decide +kernel
theorem dX12_nearest_36 : decode cX12_nearest 36 = .ok (.iconst (-1), 1) := by decide +kernel
theorem dX12_nearest_37 : decode cX12_nearest 37 = .ok (.istore 4, 2) := by decide +kernel
theorem dX12_nearest_39 : decode cX12_nearest 39 = .ok (.aload_n 0, 1) := by decide +kernel
theorem dX12_nearest_40 : decode cX12_nearest 40 = .ok (.getfield 283, 3) := by decide +kernel
theorem dX12_nearest_43 : decode cX12_nearest 43 = .ok (.iconst 1, 1) := by decide +kernel
theorem dX12_nearest_44 : decode cX12_nearest 44 = .ok (.isub, 1) := by decide +kernel
theorem dX12_nearest_45 : decode cX12_nearest 45 = .ok (.istore 5, 2) := by decide +kernel
theorem dX12_nearest_47 : decode cX12_nearest 47 = .ok (.iload 5, 2) := by decide +kernel
theorem dX12_nearest_49 : decode cX12_nearest 49 = .ok (.ifCond .lt 30, 3) := by decide +kernel
theorem dX12_nearest_52 : decode cX12_nearest 52 = .ok (.aload_n 0, 1) := by decide +kernel
theorem dX12_nearest_53 : decode cX12_nearest 53 = .ok (.iload 5, 2) := by decide +kernel
theorem dX12_nearest_55 : decode cX12_nearest 55 = .ok (.invokevirtual 465, 3) := by decide +kernel
theorem dX12_nearest_58 : decode cX12_nearest 58 = .ok (.iload_n 3, 1) := by decide +kernel
theorem dX12_nearest_59 : decode cX12_nearest 59 = .ok (.iconst 1, 1) := by decide +kernel
theorem dX12_nearest_60 : decode cX12_nearest 60 = .ok (.isub, 1) := by decide +kernel
theorem dX12_nearest_61 : decode cX12_nearest 61 = .ok (.if_icmp .ne 8, 3) := by decide +kernel
theorem dX12_nearest_64 : decode cX12_nearest 64 = .ok (.iload 5, 2) := by decide +kernel
theorem dX12_nearest_66 : decode cX12_nearest 66 = .ok (.goto 5, 3) := by decide +kernel
theorem dX12_nearest_69 : decode cX12_nearest 69 = .ok (.iload 4, 2) := by decide +kernel
theorem dX12_nearest_71 : decode cX12_nearest 71 = .ok (.istore 4, 2) := by decide +kernel
theorem dX12_nearest_73 : decode cX12_nearest 73 = .ok (.iinc 5 (-1), 3) := by decide +kernel
theorem dX12_nearest_76 : decode cX12_nearest 76 = .ok (.goto (-29), 3) := by decide +kernel
theorem dX12_nearest_79 : decode cX12_nearest 79 = .ok (.iload_n 2, 1) := by decide +kernel
theorem dX12_nearest_80 : decode cX12_nearest 80 = .ok (.ifCond .ne 7, 3) := by decide +kernel
theorem dX12_nearest_83 : decode cX12_nearest 83 = .ok (.iload_n 3, 1) := by decide +kernel
theorem dX12_nearest_84 : decode cX12_nearest 84 = .ok (.goto 5, 3) := by decide +kernel
theorem dX12_nearest_87 : decode cX12_nearest 87 = .ok (.iload 4, 2) := by decide +kernel
theorem dX12_nearest_89 : decode cX12_nearest 89 = .ok (.ireturn, 1) := by decide +kernel
theorem dX12_putAside_0 : decode cX12_putAside 0 = .ok (.iconst 0, 1) := by decide +kernel
theorem dX12_putAside_1 : decode cX12_putAside 1 = .ok (.istore_n 1, 1) := by decide +kernel
theorem dX12_putAside_2 : decode cX12_putAside 2 = .ok (.iload_n 1, 1) := by decide +kernel
theorem dX12_putAside_3 : decode cX12_putAside 3 = .ok (.sipush 217, 3) := by decide +kernel
theorem dX12_putAside_6 : decode cX12_putAside 6 = .ok (.if_icmp .ge 21, 3) := by decide +kernel
theorem dX12_putAside_9 : decode cX12_putAside 9 = .ok (.aload_n 0, 1) := by decide +kernel
theorem dX12_putAside_10 : decode cX12_putAside 10 = .ok (.getfield 96, 3) := by decide +kernel
theorem dX12_putAside_13 : decode cX12_putAside 13 = .ok (.iload_n 1, 1) := by decide +kernel
theorem dX12_putAside_14 : decode cX12_putAside 14 = .ok (.aload_n 0, 1) := by decide +kernel
theorem dX12_putAside_15 : decode cX12_putAside 15 = .ok (.getfield 58, 3) := by decide +kernel
theorem dX12_putAside_18 : decode cX12_putAside 18 = .ok (.iload_n 1, 1) := by decide +kernel
theorem dX12_putAside_19 : decode cX12_putAside 19 = .ok (.iaload, 1) := by decide +kernel
theorem dX12_putAside_20 : decode cX12_putAside 20 = .ok (.iastore, 1) := by decide +kernel
theorem dX12_putAside_21 : decode cX12_putAside 21 = .ok (.iinc 1 1, 3) := by decide +kernel
theorem dX12_putAside_24 : decode cX12_putAside 24 = .ok (.goto (-22), 3) := by decide +kernel
theorem dX12_putAside_27 : decode cX12_putAside 27 = .ok (.return_, 1) := by decide +kernel
theorem dX12_takeBack_0 : decode cX12_takeBack 0 = .ok (.iconst 0, 1) := by decide +kernel
theorem dX12_takeBack_1 : decode cX12_takeBack 1 = .ok (.istore_n 1, 1) := by decide +kernel
theorem dX12_takeBack_2 : decode cX12_takeBack 2 = .ok (.iload_n 1, 1) := by decide +kernel
theorem dX12_takeBack_3 : decode cX12_takeBack 3 = .ok (.sipush 217, 3) := by decide +kernel
theorem dX12_takeBack_6 : decode cX12_takeBack 6 = .ok (.if_icmp .ge 21, 3) := by decide +kernel
theorem dX12_takeBack_9 : decode cX12_takeBack 9 = .ok (.aload_n 0, 1) := by decide +kernel
theorem dX12_takeBack_10 : decode cX12_takeBack 10 = .ok (.getfield 58, 3) := by decide +kernel
theorem dX12_takeBack_13 : decode cX12_takeBack 13 = .ok (.iload_n 1, 1) := by decide +kernel
theorem dX12_takeBack_14 : decode cX12_takeBack 14 = .ok (.aload_n 0, 1) := by decide +kernel
theorem dX12_takeBack_15 : decode cX12_takeBack 15 = .ok (.getfield 96, 3) := by decide +kernel
theorem dX12_takeBack_18 : decode cX12_takeBack 18 = .ok (.iload_n 1, 1) := by decide +kernel
theorem dX12_takeBack_19 : decode cX12_takeBack 19 = .ok (.iaload, 1) := by decide +kernel
theorem dX12_takeBack_20 : decode cX12_takeBack 20 = .ok (.iastore, 1) := by decide +kernel
theorem dX12_takeBack_21 : decode cX12_takeBack 21 = .ok (.iinc 1 1, 3) := by decide +kernel
theorem dX12_takeBack_24 : decode cX12_takeBack 24 = .ok (.goto (-22), 3) := by decide +kernel
theorem dX12_takeBack_27 : decode cX12_takeBack 27 = .ok (.return_, 1) := by decide +kernel
theorem dX12_isDanced_0 : decode cX12_isDanced 0 = .ok (.iconst 0, 1) := by decide +kernel
theorem dX12_isDanced_1 : decode cX12_isDanced 1 = .ok (.istore_n 2, 1) := by decide +kernel
theorem dX12_isDanced_2 : decode cX12_isDanced 2 = .ok (.iload_n 2, 1) := by decide +kernel
theorem dX12_isDanced_3 : decode cX12_isDanced 3 = .ok (.aload_n 0, 1) := by decide +kernel
theorem dX12_isDanced_4 : decode cX12_isDanced 4 = .ok (.getfield 55, 3) := by decide +kernel
theorem dX12_isDanced_7 : decode cX12_isDanced 7 = .ok (.iload_n 1, 1) := by decide +kernel
theorem dX12_isDanced_8 : decode cX12_isDanced 8 = .ok (.iaload, 1) := by decide +kernel
theorem dX12_isDanced_9 : decode cX12_isDanced 9 = .ok (.if_icmp .ge 35, 3) := by decide +kernel
theorem dX12_isDanced_12 : decode cX12_isDanced 12 = .ok (.aload_n 0, 1) := by decide +kernel
theorem dX12_isDanced_13 : decode cX12_isDanced 13 = .ok (.aload_n 0, 1) := by decide +kernel
theorem dX12_isDanced_14 : decode cX12_isDanced 14 = .ok (.iload_n 1, 1) := by decide +kernel
theorem dX12_isDanced_15 : decode cX12_isDanced 15 = .ok (.iload_n 2, 1) := by decide +kernel
theorem dX12_isDanced_16 : decode cX12_isDanced 16 = .ok (.invokevirtual 410, 3) := by decide +kernel
theorem dX12_isDanced_19 : decode cX12_isDanced 19 = .ok (.invokevirtual 413, 3) := by decide +kernel
theorem dX12_isDanced_22 : decode cX12_isDanced 22 = .ok (.ifCond .ne 5, 3) := by decide +kernel
theorem dX12_isDanced_25 : decode cX12_isDanced 25 = .ok (.iconst 0, 1) := by decide +kernel
theorem dX12_isDanced_26 : decode cX12_isDanced 26 = .ok (.ireturn, 1) := by decide +kernel
theorem dX12_isDanced_27 : decode cX12_isDanced 27 = .ok (.aload_n 0, 1) := by decide +kernel
theorem dX12_isDanced_28 : decode cX12_isDanced 28 = .ok (.aload_n 0, 1) := by decide +kernel
theorem dX12_isDanced_29 : decode cX12_isDanced 29 = .ok (.iload_n 1, 1) := by decide +kernel
theorem dX12_isDanced_30 : decode cX12_isDanced 30 = .ok (.iload_n 2, 1) := by decide +kernel
theorem dX12_isDanced_31 : decode cX12_isDanced 31 = .ok (.invokevirtual 410, 3) := by decide +kernel
theorem dX12_isDanced_34 : decode cX12_isDanced 34 = .ok (.invokevirtual 367, 3) := by decide +kernel
theorem dX12_isDanced_37 : decode cX12_isDanced 37 = .ok (.pop, 1) := by decide +kernel
theorem dX12_isDanced_38 : decode cX12_isDanced 38 = .ok (.iinc 2 1, 3) := by decide +kernel
theorem dX12_isDanced_41 : decode cX12_isDanced 41 = .ok (.goto (-39), 3) := by decide +kernel
theorem dX12_isDanced_44 : decode cX12_isDanced 44 = .ok (.iconst 1, 1) := by decide +kernel
theorem dX12_isDanced_45 : decode cX12_isDanced 45 = .ok (.ireturn, 1) := by decide +kernel
theorem dX12_times_0 : decode cX12_times 0 = .ok (.aload_n 0, 1) := by decide +kernel
theorem dX12_times_1 : decode cX12_times 1 = .ok (.iload_n 1, 1) := by decide +kernel
theorem dX12_times_2 : decode cX12_times 2 = .ok (.invokevirtual 407, 3) := by decide +kernel
theorem dX12_times_5 : decode cX12_times 5 = .ok (.ifCond .ne 5, 3) := by decide +kernel
theorem dX12_times_8 : decode cX12_times 8 = .ok (.iconst (-1), 1) := by decide +kernel
theorem dX12_times_9 : decode cX12_times 9 = .ok (.ireturn, 1) := by decide +kernel
theorem dX12_times_10 : decode cX12_times 10 = .ok (.aload_n 0, 1) := by decide +kernel
theorem dX12_times_11 : decode cX12_times 11 = .ok (.invokevirtual 468, 3) := by decide +kernel
theorem dX12_times_14 : decode cX12_times 14 = .ok (.iconst 0, 1) := by decide +kernel
theorem dX12_times_15 : decode cX12_times 15 = .ok (.istore_n 2, 1) := by decide +kernel
theorem dX12_times_16 : decode cX12_times 16 = .ok (.iload_n 2, 1) := by decide +kernel
theorem dX12_times_17 : decode cX12_times 17 = .ok (.bipush 99, 2) := by decide +kernel
theorem dX12_times_19 : decode cX12_times 19 = .ok (.if_icmp .ge 17, 3) := by decide +kernel
theorem dX12_times_22 : decode cX12_times 22 = .ok (.aload_n 0, 1) := by decide +kernel
theorem dX12_times_23 : decode cX12_times 23 = .ok (.iload_n 1, 1) := by decide +kernel
theorem dX12_times_24 : decode cX12_times 24 = .ok (.invokevirtual 471, 3) := by decide +kernel
theorem dX12_times_27 : decode cX12_times 27 = .ok (.ifCond .eq 9, 3) := by decide +kernel
theorem dX12_times_30 : decode cX12_times 30 = .ok (.iinc 2 1, 3) := by decide +kernel
theorem dX12_times_33 : decode cX12_times 33 = .ok (.goto (-17), 3) := by decide +kernel
theorem dX12_times_36 : decode cX12_times 36 = .ok (.aload_n 0, 1) := by decide +kernel
theorem dX12_times_37 : decode cX12_times 37 = .ok (.invokevirtual 474, 3) := by decide +kernel
theorem dX12_times_40 : decode cX12_times 40 = .ok (.iload_n 2, 1) := by decide +kernel
theorem dX12_times_41 : decode cX12_times 41 = .ok (.ireturn, 1) := by decide +kernel
theorem dX12_seen_0 : decode cX12_seen 0 = .ok (.aload_n 0, 1) := by decide +kernel
theorem dX12_seen_1 : decode cX12_seen 1 = .ok (.iload_n 1, 1) := by decide +kernel
theorem dX12_seen_2 : decode cX12_seen 2 = .ok (.invokevirtual 373, 3) := by decide +kernel
theorem dX12_seen_5 : decode cX12_seen 5 = .ok (.ifCond .eq 30, 3) := by decide +kernel
theorem dX12_seen_8 : decode cX12_seen 8 = .ok (.aload_n 0, 1) := by decide +kernel
theorem dX12_seen_9 : decode cX12_seen 9 = .ok (.iload_n 2, 1) := by decide +kernel
theorem dX12_seen_10 : decode cX12_seen 10 = .ok (.invokevirtual 373, 3) := by decide +kernel
theorem dX12_seen_13 : decode cX12_seen 13 = .ok (.ifCond .eq 22, 3) := by decide +kernel
theorem dX12_seen_16 : decode cX12_seen 16 = .ok (.iload_n 3, 1) := by decide +kernel
theorem dX12_seen_17 : decode cX12_seen 17 = .ok (.iconst 1, 1) := by decide +kernel
theorem dX12_seen_18 : decode cX12_seen 18 = .ok (.bipush 9, 2) := by decide +kernel
theorem dX12_seen_20 : decode cX12_seen 20 = .ok (.invokestatic 229, 3) := by decide +kernel
theorem dX12_seen_23 : decode cX12_seen 23 = .ok (.ifCond .eq 12, 3) := by decide +kernel
theorem dX12_seen_26 : decode cX12_seen 26 = .ok (.aload_n 0, 1) := by decide +kernel
theorem dX12_seen_27 : decode cX12_seen 27 = .ok (.getfield 289, 3) := by decide +kernel
theorem dX12_seen_30 : decode cX12_seen 30 = .ok (.bipush 10, 2) := by decide +kernel
theorem dX12_seen_32 : decode cX12_seen 32 = .ok (.if_icmp .ne 5, 3) := by decide +kernel
theorem dX12_seen_35 : decode cX12_seen 35 = .ok (.iconst (-1), 1) := by decide +kernel
theorem dX12_seen_36 : decode cX12_seen 36 = .ok (.ireturn, 1) := by decide +kernel
theorem dX12_seen_37 : decode cX12_seen 37 = .ok (.aload_n 0, 1) := by decide +kernel
theorem dX12_seen_38 : decode cX12_seen 38 = .ok (.getfield 99, 3) := by decide +kernel
theorem dX12_seen_41 : decode cX12_seen 41 = .ok (.aload_n 0, 1) := by decide +kernel
theorem dX12_seen_42 : decode cX12_seen 42 = .ok (.getfield 289, 3) := by decide +kernel
theorem dX12_seen_45 : decode cX12_seen 45 = .ok (.iload_n 1, 1) := by decide +kernel
theorem dX12_seen_46 : decode cX12_seen 46 = .ok (.iastore, 1) := by decide +kernel
theorem dX12_seen_47 : decode cX12_seen 47 = .ok (.aload_n 0, 1) := by decide +kernel
theorem dX12_seen_48 : decode cX12_seen 48 = .ok (.getfield 102, 3) := by decide +kernel
theorem dX12_seen_51 : decode cX12_seen 51 = .ok (.aload_n 0, 1) := by decide +kernel
theorem dX12_seen_52 : decode cX12_seen 52 = .ok (.getfield 289, 3) := by decide +kernel
theorem dX12_seen_55 : decode cX12_seen 55 = .ok (.iload_n 2, 1) := by decide +kernel
theorem dX12_seen_56 : decode cX12_seen 56 = .ok (.iastore, 1) := by decide +kernel
theorem dX12_seen_57 : decode cX12_seen 57 = .ok (.aload_n 0, 1) := by decide +kernel
theorem dX12_seen_58 : decode cX12_seen 58 = .ok (.getfield 105, 3) := by decide +kernel
theorem dX12_seen_61 : decode cX12_seen 61 = .ok (.aload_n 0, 1) := by decide +kernel
theorem dX12_seen_62 : decode cX12_seen 62 = .ok (.getfield 289, 3) := by decide +kernel
theorem dX12_seen_65 : decode cX12_seen 65 = .ok (.iload_n 3, 1) := by decide +kernel
theorem dX12_seen_66 : decode cX12_seen 66 = .ok (.iastore, 1) := by decide +kernel
theorem dX12_seen_67 : decode cX12_seen 67 = .ok (.aload_n 0, 1) := by decide +kernel
theorem dX12_seen_68 : decode cX12_seen 68 = .ok (.getfield 108, 3) := by decide +kernel
theorem dX12_seen_71 : decode cX12_seen 71 = .ok (.aload_n 0, 1) := by decide +kernel
theorem dX12_seen_72 : decode cX12_seen 72 = .ok (.getfield 289, 3) := by decide +kernel
theorem dX12_seen_75 : decode cX12_seen 75 = .ok (.iload 4, 2) := by decide +kernel
theorem dX12_seen_77 : decode cX12_seen 77 = .ok (.bastore, 1) := by decide +kernel
theorem dX12_seen_78 : decode cX12_seen 78 = .ok (.aload_n 0, 1) := by decide +kernel
theorem dX12_seen_79 : decode cX12_seen 79 = .ok (.dup, 1) := by decide +kernel
theorem dX12_seen_80 : decode cX12_seen 80 = .ok (.getfield 289, 3) := by decide +kernel
theorem dX12_seen_83 : decode cX12_seen 83 = .ok (.iconst 1, 1) := by decide +kernel
theorem dX12_seen_84 : decode cX12_seen 84 = .ok (.iadd, 1) := by decide +kernel
theorem dX12_seen_85 : decode cX12_seen 85 = .ok (.putfield 289, 3) := by decide +kernel
theorem dX12_seen_88 : decode cX12_seen 88 = .ok (.aload_n 0, 1) := by decide +kernel
theorem dX12_seen_89 : decode cX12_seen 89 = .ok (.getfield 289, 3) := by decide +kernel
theorem dX12_seen_92 : decode cX12_seen 92 = .ok (.ireturn, 1) := by decide +kernel
theorem dX12_toldSpot_0 : decode cX12_toldSpot 0 = .ok (.aload_n 0, 1) := by decide +kernel
theorem dX12_toldSpot_1 : decode cX12_toldSpot 1 = .ok (.iconst 0, 1) := by decide +kernel
theorem dX12_toldSpot_2 : decode cX12_toldSpot 2 = .ok (.invokevirtual 434, 3) := by decide +kernel
theorem dX12_toldSpot_5 : decode cX12_toldSpot 5 = .ok (.iconst 0, 1) := by decide +kernel
theorem dX12_toldSpot_6 : decode cX12_toldSpot 6 = .ok (.istore 4, 2) := by decide +kernel
theorem dX12_toldSpot_8 : decode cX12_toldSpot 8 = .ok (.iload 4, 2) := by decide +kernel
theorem dX12_toldSpot_10 : decode cX12_toldSpot 10 = .ok (.iload_n 2, 1) := by decide +kernel
theorem dX12_toldSpot_11 : decode cX12_toldSpot 11 = .ok (.if_icmp .ge 14, 3) := by decide +kernel
theorem dX12_toldSpot_14 : decode cX12_toldSpot 14 = .ok (.aload_n 0, 1) := by decide +kernel
theorem dX12_toldSpot_15 : decode cX12_toldSpot 15 = .ok (.iload_n 1, 1) := by decide +kernel
theorem dX12_toldSpot_16 : decode cX12_toldSpot 16 = .ok (.invokevirtual 438, 3) := by decide +kernel
theorem dX12_toldSpot_19 : decode cX12_toldSpot 19 = .ok (.iinc 4 1, 3) := by decide +kernel
theorem dX12_toldSpot_22 : decode cX12_toldSpot 22 = .ok (.goto (-14), 3) := by decide +kernel
theorem dX12_toldSpot_25 : decode cX12_toldSpot 25 = .ok (.aload_n 0, 1) := by decide +kernel
theorem dX12_toldSpot_26 : decode cX12_toldSpot 26 = .ok (.iload_n 3, 1) := by decide +kernel
theorem dX12_toldSpot_27 : decode cX12_toldSpot 27 = .ok (.invokevirtual 441, 3) := by decide +kernel
theorem dX12_toldSpot_30 : decode cX12_toldSpot 30 = .ok (.ireturn, 1) := by decide +kernel
theorem dX12_isFit_0 : decode cX12_isFit 0 = .ok (.iconst 0, 1) := by decide +kernel
theorem dX12_isFit_1 : decode cX12_isFit 1 = .ok (.istore_n 2, 1) := by decide +kernel
theorem dX12_isFit_2 : decode cX12_isFit 2 = .ok (.iload_n 2, 1) := by decide +kernel
theorem dX12_isFit_3 : decode cX12_isFit 3 = .ok (.aload_n 0, 1) := by decide +kernel
theorem dX12_isFit_4 : decode cX12_isFit 4 = .ok (.getfield 289, 3) := by decide +kernel
theorem dX12_isFit_7 : decode cX12_isFit 7 = .ok (.if_icmp .ge 51, 3) := by decide +kernel
theorem dX12_isFit_10 : decode cX12_isFit 10 = .ok (.aload_n 0, 1) := by decide +kernel
theorem dX12_isFit_11 : decode cX12_isFit 11 = .ok (.iload_n 1, 1) := by decide +kernel
theorem dX12_isFit_12 : decode cX12_isFit 12 = .ok (.aload_n 0, 1) := by decide +kernel
theorem dX12_isFit_13 : decode cX12_isFit 13 = .ok (.getfield 105, 3) := by decide +kernel
theorem dX12_isFit_16 : decode cX12_isFit 16 = .ok (.iload_n 2, 1) := by decide +kernel
theorem dX12_isFit_17 : decode cX12_isFit 17 = .ok (.iaload, 1) := by decide +kernel
theorem dX12_isFit_18 : decode cX12_isFit 18 = .ok (.aload_n 0, 1) := by decide +kernel
theorem dX12_isFit_19 : decode cX12_isFit 19 = .ok (.getfield 99, 3) := by decide +kernel
theorem dX12_isFit_22 : decode cX12_isFit 22 = .ok (.iload_n 2, 1) := by decide +kernel
theorem dX12_isFit_23 : decode cX12_isFit 23 = .ok (.iaload, 1) := by decide +kernel
theorem dX12_isFit_24 : decode cX12_isFit 24 = .ok (.invokevirtual 477, 3) := by decide +kernel
theorem dX12_isFit_27 : decode cX12_isFit 27 = .ok (.aload_n 0, 1) := by decide +kernel
theorem dX12_isFit_28 : decode cX12_isFit 28 = .ok (.getfield 102, 3) := by decide +kernel
theorem dX12_isFit_31 : decode cX12_isFit 31 = .ok (.iload_n 2, 1) := by decide +kernel
theorem dX12_isFit_32 : decode cX12_isFit 32 = .ok (.iaload, 1) := by decide +kernel
theorem dX12_isFit_33 : decode cX12_isFit 33 = .ok (.if_icmp .ne 7, 3) := by decide +kernel
theorem dX12_isFit_36 : decode cX12_isFit 36 = .ok (.iconst 1, 1) := by decide +kernel
theorem dX12_isFit_37 : decode cX12_isFit 37 = .ok (.goto 4, 3) := by decide +kernel
theorem dX12_isFit_40 : decode cX12_isFit 40 = .ok (.iconst 0, 1) := by decide +kernel
theorem dX12_isFit_41 : decode cX12_isFit 41 = .ok (.aload_n 0, 1) := by decide +kernel
theorem dX12_isFit_42 : decode cX12_isFit 42 = .ok (.getfield 108, 3) := by decide +kernel
theorem dX12_isFit_45 : decode cX12_isFit 45 = .ok (.iload_n 2, 1) := by decide +kernel
theorem dX12_isFit_46 : decode cX12_isFit 46 = .ok (.baload, 1) := by decide +kernel
theorem dX12_isFit_47 : decode cX12_isFit 47 = .ok (.if_icmp .eq 5, 3) := by decide +kernel
theorem dX12_isFit_50 : decode cX12_isFit 50 = .ok (.iconst 0, 1) := by decide +kernel
theorem dX12_isFit_51 : decode cX12_isFit 51 = .ok (.ireturn, 1) := by decide +kernel
theorem dX12_isFit_52 : decode cX12_isFit 52 = .ok (.iinc 2 1, 3) := by decide +kernel
theorem dX12_isFit_55 : decode cX12_isFit 55 = .ok (.goto (-53), 3) := by decide +kernel
theorem dX12_isFit_58 : decode cX12_isFit 58 = .ok (.iconst 1, 1) := by decide +kernel
theorem dX12_isFit_59 : decode cX12_isFit 59 = .ok (.ireturn, 1) := by decide +kernel
theorem dX12_fits_0 : decode cX12_fits 0 = .ok (.aload_n 0, 1) := by decide +kernel
theorem dX12_fits_1 : decode cX12_fits 1 = .ok (.getfield 283, 3) := by decide +kernel
theorem dX12_fits_4 : decode cX12_fits 4 = .ok (.ifCond .ne 5, 3) := by decide +kernel
theorem dX12_fits_7 : decode cX12_fits 7 = .ok (.iconst (-1), 1) := by decide +kernel
theorem dX12_fits_8 : decode cX12_fits 8 = .ok (.ireturn, 1) := by decide +kernel
theorem dX12_fits_9 : decode cX12_fits 9 = .ok (.iconst 0, 1) := by decide +kernel
theorem dX12_fits_10 : decode cX12_fits 10 = .ok (.istore_n 1, 1) := by decide +kernel
theorem dX12_fits_11 : decode cX12_fits 11 = .ok (.iconst 0, 1) := by decide +kernel
theorem dX12_fits_12 : decode cX12_fits 12 = .ok (.istore_n 2, 1) := by decide +kernel
theorem dX12_fits_13 : decode cX12_fits 13 = .ok (.iload_n 2, 1) := by decide +kernel
theorem dX12_fits_14 : decode cX12_fits 14 = .ok (.aload_n 0, 1) := by decide +kernel
theorem dX12_fits_15 : decode cX12_fits 15 = .ok (.getfield 305, 3) := by decide +kernel
theorem dX12_fits_18 : decode cX12_fits 18 = .ok (.if_icmp .ge 27, 3) := by decide +kernel
theorem dX12_fits_21 : decode cX12_fits 21 = .ok (.iload_n 1, 1) := by decide +kernel
theorem dX12_fits_22 : decode cX12_fits 22 = .ok (.aload_n 0, 1) := by decide +kernel
theorem dX12_fits_23 : decode cX12_fits 23 = .ok (.iload_n 2, 1) := by decide +kernel
theorem dX12_fits_24 : decode cX12_fits 24 = .ok (.invokevirtual 480, 3) := by decide +kernel
theorem dX12_fits_27 : decode cX12_fits 27 = .ok (.ifCond .eq 9, 3) := by decide +kernel
theorem dX12_fits_30 : decode cX12_fits 30 = .ok (.iconst 1, 1) := by decide +kernel
theorem dX12_fits_31 : decode cX12_fits 31 = .ok (.iload_n 2, 1) := by decide +kernel
theorem dX12_fits_32 : decode cX12_fits 32 = .ok (.ishl, 1) := by decide +kernel
theorem dX12_fits_33 : decode cX12_fits 33 = .ok (.goto 4, 3) := by decide +kernel
theorem dX12_fits_36 : decode cX12_fits 36 = .ok (.iconst 0, 1) := by decide +kernel
theorem dX12_fits_37 : decode cX12_fits 37 = .ok (.ior, 1) := by decide +kernel
theorem dX12_fits_38 : decode cX12_fits 38 = .ok (.istore_n 1, 1) := by decide +kernel
theorem dX12_fits_39 : decode cX12_fits 39 = .ok (.iinc 2 1, 3) := by decide +kernel
theorem dX12_fits_42 : decode cX12_fits 42 = .ok (.goto (-29), 3) := by decide +kernel
theorem dX12_fits_45 : decode cX12_fits 45 = .ok (.iload_n 1, 1) := by decide +kernel
theorem dX12_fits_46 : decode cX12_fits 46 = .ok (.ireturn, 1) := by decide +kernel
theorem dX12_mostAlike_0 : decode cX12_mostAlike 0 = .ok (.iconst 0, 1) := by decide +kernel
theorem dX12_mostAlike_1 : decode cX12_mostAlike 1 = .ok (.istore 4, 2) := by decide +kernel
theorem dX12_mostAlike_3 : decode cX12_mostAlike 3 = .ok (.iconst 0, 1) := by decide +kernel
theorem dX12_mostAlike_4 : decode cX12_mostAlike 4 = .ok (.istore 5, 2) := by decide +kernel
theorem dX12_mostAlike_6 : decode cX12_mostAlike 6 = .ok (.iload 5, 2) := by decide +kernel
theorem dX12_mostAlike_8 : decode cX12_mostAlike 8 = .ok (.aload_n 0, 1) := by decide +kernel
theorem dX12_mostAlike_9 : decode cX12_mostAlike 9 = .ok (.getfield 283, 3) := by decide +kernel
theorem dX12_mostAlike_12 : decode cX12_mostAlike 12 = .ok (.if_icmp .ge 71, 3) := by decide +kernel
theorem dX12_mostAlike_15 : decode cX12_mostAlike 15 = .ok (.iconst 0, 1) := by decide +kernel
theorem dX12_mostAlike_16 : decode cX12_mostAlike 16 = .ok (.istore 6, 2) := by decide +kernel
theorem dX12_mostAlike_18 : decode cX12_mostAlike 18 = .ok (.iconst 0, 1) := by decide +kernel
theorem dX12_mostAlike_19 : decode cX12_mostAlike 19 = .ok (.istore 7, 2) := by decide +kernel
theorem dX12_mostAlike_21 : decode cX12_mostAlike 21 = .ok (.iload 7, 2) := by decide +kernel
theorem dX12_mostAlike_23 : decode cX12_mostAlike 23 = .ok (.aload_n 0, 1) := by decide +kernel
theorem dX12_mostAlike_24 : decode cX12_mostAlike 24 = .ok (.getfield 305, 3) := by decide +kernel
theorem dX12_mostAlike_27 : decode cX12_mostAlike 27 = .ok (.if_icmp .ge 41, 3) := by decide +kernel
theorem dX12_mostAlike_30 : decode cX12_mostAlike 30 = .ok (.iload 6, 2) := by decide +kernel
theorem dX12_mostAlike_32 : decode cX12_mostAlike 32 = .ok (.iload_n 1, 1) := by decide +kernel
theorem dX12_mostAlike_33 : decode cX12_mostAlike 33 = .ok (.iload 7, 2) := by decide +kernel
theorem dX12_mostAlike_35 : decode cX12_mostAlike 35 = .ok (.invokestatic 240, 3) := by decide +kernel
theorem dX12_mostAlike_38 : decode cX12_mostAlike 38 = .ok (.ifCond .eq 20, 3) := by decide +kernel
theorem dX12_mostAlike_41 : decode cX12_mostAlike 41 = .ok (.aload_n 0, 1) := by decide +kernel
theorem dX12_mostAlike_42 : decode cX12_mostAlike 42 = .ok (.iload 7, 2) := by decide +kernel
theorem dX12_mostAlike_44 : decode cX12_mostAlike 44 = .ok (.iload_n 2, 1) := by decide +kernel
theorem dX12_mostAlike_45 : decode cX12_mostAlike 45 = .ok (.iload_n 3, 1) := by decide +kernel
theorem dX12_mostAlike_46 : decode cX12_mostAlike 46 = .ok (.invokevirtual 477, 3) := by decide +kernel
theorem dX12_mostAlike_49 : decode cX12_mostAlike 49 = .ok (.iload 5, 2) := by decide +kernel
theorem dX12_mostAlike_51 : decode cX12_mostAlike 51 = .ok (.if_icmp .ne 7, 3) := by decide +kernel
theorem dX12_mostAlike_54 : decode cX12_mostAlike 54 = .ok (.iconst 1, 1) := by decide +kernel
theorem dX12_mostAlike_55 : decode cX12_mostAlike 55 = .ok (.goto 4, 3) := by decide +kernel
theorem dX12_mostAlike_58 : decode cX12_mostAlike 58 = .ok (.iconst 0, 1) := by decide +kernel
theorem dX12_mostAlike_59 : decode cX12_mostAlike 59 = .ok (.iadd, 1) := by decide +kernel
theorem dX12_mostAlike_60 : decode cX12_mostAlike 60 = .ok (.istore 6, 2) := by decide +kernel
theorem dX12_mostAlike_62 : decode cX12_mostAlike 62 = .ok (.iinc 7 1, 3) := by decide +kernel
theorem dX12_mostAlike_65 : decode cX12_mostAlike 65 = .ok (.goto (-44), 3) := by decide +kernel
theorem dX12_mostAlike_68 : decode cX12_mostAlike 68 = .ok (.iload 4, 2) := by decide +kernel
theorem dX12_mostAlike_70 : decode cX12_mostAlike 70 = .ok (.iload 6, 2) := by decide +kernel
theorem dX12_mostAlike_72 : decode cX12_mostAlike 72 = .ok (.invokestatic 320, 3) := by decide +kernel
theorem dX12_mostAlike_75 : decode cX12_mostAlike 75 = .ok (.istore 4, 2) := by decide +kernel
theorem dX12_mostAlike_77 : decode cX12_mostAlike 77 = .ok (.iinc 5 1, 3) := by decide +kernel
theorem dX12_mostAlike_80 : decode cX12_mostAlike 80 = .ok (.goto (-74), 3) := by decide +kernel
theorem dX12_mostAlike_83 : decode cX12_mostAlike 83 = .ok (.iload 4, 2) := by decide +kernel
theorem dX12_mostAlike_85 : decode cX12_mostAlike 85 = .ok (.ireturn, 1) := by decide +kernel
theorem dX12_ask_0 : decode cX12_ask 0 = .ok (.aload_n 0, 1) := by decide +kernel
theorem dX12_ask_1 : decode cX12_ask 1 = .ok (.invokevirtual 483, 3) := by decide +kernel
theorem dX12_ask_4 : decode cX12_ask 4 = .ok (.istore_n 2, 1) := by decide +kernel
theorem dX12_ask_5 : decode cX12_ask 5 = .ok (.aload_n 0, 1) := by decide +kernel
theorem dX12_ask_6 : decode cX12_ask 6 = .ok (.iload_n 1, 1) := by decide +kernel
theorem dX12_ask_7 : decode cX12_ask 7 = .ok (.invokevirtual 373, 3) := by decide +kernel
theorem dX12_ask_10 : decode cX12_ask 10 = .ok (.ifCond .eq 7, 3) := by decide +kernel
theorem dX12_ask_13 : decode cX12_ask 13 = .ok (.iload_n 2, 1) := by decide +kernel
theorem dX12_ask_14 : decode cX12_ask 14 = .ok (.ifCond .ne 5, 3) := by decide +kernel
theorem dX12_ask_17 : decode cX12_ask 17 = .ok (.iconst (-1), 1) := by decide +kernel
theorem dX12_ask_18 : decode cX12_ask 18 = .ok (.ireturn, 1) := by decide +kernel
theorem dX12_ask_19 : decode cX12_ask 19 = .ok (.iconst (-1), 1) := by decide +kernel
theorem dX12_ask_20 : decode cX12_ask 20 = .ok (.istore_n 3, 1) := by decide +kernel
theorem dX12_ask_21 : decode cX12_ask 21 = .ok (.iconst 0, 1) := by decide +kernel
theorem dX12_ask_22 : decode cX12_ask 22 = .ok (.istore 4, 2) := by decide +kernel
theorem dX12_ask_24 : decode cX12_ask 24 = .ok (.iconst 1, 1) := by decide +kernel
theorem dX12_ask_25 : decode cX12_ask 25 = .ok (.istore 5, 2) := by decide +kernel
theorem dX12_ask_27 : decode cX12_ask 27 = .ok (.iload 5, 2) := by decide +kernel
theorem dX12_ask_29 : decode cX12_ask 29 = .ok (.bipush 9, 2) := by decide +kernel
theorem dX12_ask_31 : decode cX12_ask 31 = .ok (.if_icmp .gt 38, 3) := by decide +kernel
theorem dX12_ask_34 : decode cX12_ask 34 = .ok (.aload_n 0, 1) := by decide +kernel
theorem dX12_ask_35 : decode cX12_ask 35 = .ok (.iload_n 2, 1) := by decide +kernel
theorem dX12_ask_36 : decode cX12_ask 36 = .ok (.iload 5, 2) := by decide +kernel
theorem dX12_ask_38 : decode cX12_ask 38 = .ok (.iload_n 1, 1) := by decide +kernel
theorem dX12_ask_39 : decode cX12_ask 39 = .ok (.invokevirtual 486, 3) := by decide +kernel
theorem dX12_ask_42 : decode cX12_ask 42 = .ok (.istore 6, 2) := by decide +kernel
theorem dX12_ask_44 : decode cX12_ask 44 = .ok (.iload_n 3, 1) := by decide +kernel
theorem dX12_ask_45 : decode cX12_ask 45 = .ok (.iconst (-1), 1) := by decide +kernel
theorem dX12_ask_46 : decode cX12_ask 46 = .ok (.if_icmp .eq 10, 3) := by decide +kernel
theorem dX12_ask_49 : decode cX12_ask 49 = .ok (.iload 6, 2) := by decide +kernel
theorem dX12_ask_51 : decode cX12_ask 51 = .ok (.iload 4, 2) := by decide +kernel
theorem dX12_ask_53 : decode cX12_ask 53 = .ok (.if_icmp .ge 10, 3) := by decide +kernel
theorem dX12_ask_56 : decode cX12_ask 56 = .ok (.iload 5, 2) := by decide +kernel
theorem dX12_ask_58 : decode cX12_ask 58 = .ok (.istore_n 3, 1) := by decide +kernel
theorem dX12_ask_59 : decode cX12_ask 59 = .ok (.iload 6, 2) := by decide +kernel
theorem dX12_ask_61 : decode cX12_ask 61 = .ok (.istore 4, 2) := by decide +kernel
theorem dX12_ask_63 : decode cX12_ask 63 = .ok (.iinc 5 1, 3) := by decide +kernel
theorem dX12_ask_66 : decode cX12_ask 66 = .ok (.goto (-39), 3) := by decide +kernel
theorem dX12_ask_69 : decode cX12_ask 69 = .ok (.iload_n 3, 1) := by decide +kernel
theorem dX12_ask_70 : decode cX12_ask 70 = .ok (.ireturn, 1) := by decide +kernel
theorem dX12_stripe_0 : decode cX12_stripe 0 = .ok (.aload_n 0, 1) := by decide +kernel
theorem dX12_stripe_1 : decode cX12_stripe 1 = .ok (.iload_n 1, 1) := by decide +kernel
theorem dX12_stripe_2 : decode cX12_stripe 2 = .ok (.iconst 1, 1) := by decide +kernel
theorem dX12_stripe_3 : decode cX12_stripe 3 = .ok (.invokevirtual 489, 3) := by decide +kernel
theorem dX12_stripe_6 : decode cX12_stripe 6 = .ok (.istore_n 2, 1) := by decide +kernel
theorem dX12_stripe_7 : decode cX12_stripe 7 = .ok (.iload_n 2, 1) := by decide +kernel
theorem dX12_stripe_8 : decode cX12_stripe 8 = .ok (.iconst (-1), 1) := by decide +kernel
theorem dX12_stripe_9 : decode cX12_stripe 9 = .ok (.if_icmp .ne 7, 3) := by decide +kernel
theorem dX12_stripe_12 : decode cX12_stripe 12 = .ok (.iconst (-1), 1) := by decide +kernel
theorem dX12_stripe_13 : decode cX12_stripe 13 = .ok (.goto 9, 3) := by decide +kernel
