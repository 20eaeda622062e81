theorem dX11_knot_38 : decode cX11_knot 38 = .ok (.aaload, 1) := by decide +kernel
theorem dX11_knot_39 : decode cX11_knot 39 = .ok (.getfield 224, 3) := by decide +kernel
theorem dX11_knot_42 : decode cX11_knot 42 = .ok (.ireturn, 1) := by decide +kernel
theorem dX11_same_0 : decode cX11_same 0 = .ok (.aload_n 0, 1) := by decide +kernel
theorem dX11_same_1 : decode cX11_same 1 = .ok (.invokevirtual 176, 3) := by decide +kernel
theorem dX11_same_4 : decode cX11_same 4 = .ok (.ifCond .eq 19, 3) := by decide +kernel
theorem dX11_same_7 : decode cX11_same 7 = .ok (.aload_n 0, 1) := by decide +kernel
theorem dX11_same_8 : decode cX11_same 8 = .ok (.iload_n 1, 1) := by decide +kernel
theorem dX11_same_9 : decode cX11_same 9 = .ok (.invokevirtual 217, 3) := by decide +kernel
theorem dX11_same_12 : decode cX11_same 12 = .ok (.ifCond .eq 11, 3) := by decide +kernel
theorem dX11_same_15 : decode cX11_same 15 = .ok (.aload_n 0, 1) := by decide +kernel
theorem dX11_same_16 : decode cX11_same 16 = .ok (.iload_n 2, 1) := by decide +kernel
theorem dX11_same_17 : decode cX11_same 17 = .ok (.invokevirtual 217, 3) := by decide +kernel
theorem dX11_same_20 : decode cX11_same 20 = .ok (.ifCond .ne 5, 3) := by decide +kernel
theorem dX11_same_23 : decode cX11_same 23 = .ok (.iconst (-1), 1) := by decide +kernel
theorem dX11_same_24 : decode cX11_same 24 = .ok (.ireturn, 1) := by decide +kernel
theorem dX11_same_25 : decode cX11_same 25 = .ok (.aload_n 0, 1) := by decide +kernel
theorem dX11_same_26 : decode cX11_same 26 = .ok (.aload_n 0, 1) := by decide +kernel
theorem dX11_same_27 : decode cX11_same 27 = .ok (.getfield 75, 3) := by decide +kernel
theorem dX11_same_30 : decode cX11_same 30 = .ok (.iload_n 1, 1) := by decide +kernel
theorem dX11_same_31 : decode cX11_same 31 = .ok (.aaload, 1) := by decide +kernel
theorem dX11_same_32 : decode cX11_same 32 = .ok (.aload_n 0, 1) := by decide +kernel
theorem dX11_same_33 : decode cX11_same 33 = .ok (.getfield 86, 3) := by decide +kernel
theorem dX11_same_36 : decode cX11_same 36 = .ok (.iconst 0, 1) := by decide +kernel
theorem dX11_same_37 : decode cX11_same 37 = .ok (.aaload, 1) := by decide +kernel
theorem dX11_same_38 : decode cX11_same 38 = .ok (.invokevirtual 391, 3) := by decide +kernel
theorem dX11_same_41 : decode cX11_same 41 = .ok (.aload_n 0, 1) := by decide +kernel
theorem dX11_same_42 : decode cX11_same 42 = .ok (.aload_n 0, 1) := by decide +kernel
theorem dX11_same_43 : decode cX11_same 43 = .ok (.getfield 75, 3) := by decide +kernel
theorem dX11_same_46 : decode cX11_same 46 = .ok (.iload_n 2, 1) := by decide +kernel
theorem dX11_same_47 : decode cX11_same 47 = .ok (.aaload, 1) := by decide +kernel
theorem dX11_same_48 : decode cX11_same 48 = .ok (.aload_n 0, 1) := by decide +kernel
theorem dX11_same_49 : decode cX11_same 49 = .ok (.getfield 86, 3) := by decide +kernel
theorem dX11_same_52 : decode cX11_same 52 = .ok (.iconst 1, 1) := by decide +kernel
theorem dX11_same_53 : decode cX11_same 53 = .ok (.aaload, 1) := by decide +kernel
theorem dX11_same_54 : decode cX11_same 54 = .ok (.invokevirtual 391, 3) := by decide +kernel
theorem dX11_same_57 : decode cX11_same 57 = .ok (.aload_n 0, 1) := by decide +kernel
theorem dX11_same_58 : decode cX11_same 58 = .ok (.getfield 86, 3) := by decide +kernel
theorem dX11_same_61 : decode cX11_same 61 = .ok (.iconst 0, 1) := by decide +kernel
theorem dX11_same_62 : decode cX11_same 62 = .ok (.aaload, 1) := by decide +kernel
theorem dX11_same_63 : decode cX11_same 63 = .ok (.aload_n 0, 1) := by decide +kernel
theorem dX11_same_64 : decode cX11_same 64 = .ok (.getfield 86, 3) := by decide +kernel
theorem dX11_same_67 : decode cX11_same 67 = .ok (.iconst 1, 1) := by decide +kernel
theorem dX11_same_68 : decode cX11_same 68 = .ok (.aaload, 1) := by decide +kernel
theorem dX11_same_69 : decode cX11_same 69 = .ok (.invokevirtual 395, 3) := by decide +kernel
theorem dX11_same_72 : decode cX11_same 72 = .ok (.ifCond .eq 7, 3) := by decide +kernel
theorem dX11_same_75 : decode cX11_same 75 = .ok (.iconst 1, 1) := by decide +kernel
theorem dX11_same_76 : decode cX11_same 76 = .ok (.goto 4, 3) := by decide +kernel
theorem dX11_same_79 : decode cX11_same 79 = .ok (.iconst 0, 1) := by decide +kernel
theorem dX11_same_80 : decode cX11_same 80 = .ok (.ireturn, 1) := by decide +kernel
theorem dX11_nearest_0 : decode cX11_nearest 0 = .ok (.aload_n 0, 1) := by decide +kernel
theorem dX11_nearest_1 : decode cX11_nearest 1 = .ok (.invokevirtual 176, 3) := by decide +kernel
theorem dX11_nearest_4 : decode cX11_nearest 4 = .ok (.ifCond .eq 27, 3) := by decide +kernel
theorem dX11_nearest_7 : decode cX11_nearest 7 = .ok (.iload_n 2, 1) := by decide +kernel
theorem dX11_nearest_8 : decode cX11_nearest 8 = .ok (.ifCond .lt 23, 3) := by decide +kernel
theorem dX11_nearest_11 : decode cX11_nearest 11 = .ok (.iload_n 2, 1) := by decide +kernel
theorem dX11_nearest_12 : decode cX11_nearest 12 = .ok (.iconst 1, 1) := by decide +kernel
theorem dX11_nearest_13 : decode cX11_nearest 13 = .ok (.if_icmp .gt 18, 3) := by decide +kernel
theorem dX11_nearest_16 : decode cX11_nearest 16 = .ok (.aload_n 0, 1) := by decide +kernel
theorem dX11_nearest_17 : decode cX11_nearest 17 = .ok (.getfield 96, 3) := by decide +kernel
theorem dX11_nearest_20 : decode cX11_nearest 20 = .ok (.iload_n 1, 1) := by decide +kernel
theorem dX11_nearest_21 : decode cX11_nearest 21 = .ok (.aload_n 0, 1) := by decide +kernel
theorem dX11_nearest_22 : decode cX11_nearest 22 = .ok (.getfield 49, 3) := by decide +kernel
theorem dX11_nearest_25 : decode cX11_nearest 25 = .ok (.invokevirtual 399, 3) := by decide +kernel
theorem dX11_nearest_28 : decode cX11_nearest 28 = .ok (.ifCond .ne 5, 3) := by decide +kernel
theorem dX11_nearest_31 : decode cX11_nearest 31 = .ok (.iconst (-1), 1) := by decide +kernel
theorem dX11_nearest_32 : decode cX11_nearest 32 = .ok (.ireturn, 1) := by decide +kernel
theorem dX11_nearest_33 : decode cX11_nearest 33 = .ok (.iload_n 2, 1) := by decide +kernel
theorem dX11_nearest_34 : decode cX11_nearest 34 = .ok (.ifCond .ne 13, 3) := by decide +kernel
theorem dX11_nearest_37 : decode cX11_nearest 37 = .ok (.aload_n 0, 1) := by decide +kernel
theorem dX11_nearest_38 : decode cX11_nearest 38 = .ok (.getfield 96, 3) := by decide +kernel
theorem dX11_nearest_41 : decode cX11_nearest 41 = .ok (.invokevirtual 403, 3) := by decide +kernel
theorem dX11_nearest_44 : decode cX11_nearest 44 = .ok (.goto 10, 3) := by decide +kernel
theorem dX11_nearest_47 : decode cX11_nearest 47 = .ok (.aload_n 0, 1) := by decide +kernel
theorem dX11_nearest_48 : decode cX11_nearest 48 = .ok (.getfield 96, 3) := by decide +kernel
theorem dX11_nearest_51 : decode cX11_nearest 51 = .ok (.invokevirtual 406, 3) := by decide +kernel
theorem dX11_nearest_54 : decode cX11_nearest 54 = .ok (.ireturn, 1) := by decide +kernel
theorem dX11_times_0 : decode cX11_times 0 = .ok (.aload_n 0, 1) := by decide +kernel
theorem dX11_times_1 : decode cX11_times 1 = .ok (.invokevirtual 176, 3) := by decide +kernel
theorem dX11_times_4 : decode cX11_times 4 = .ok (.ifCond .eq 11, 3) := by decide +kernel
theorem dX11_times_7 : decode cX11_times 7 = .ok (.aload_n 0, 1) := by decide +kernel
theorem dX11_times_8 : decode cX11_times 8 = .ok (.iload_n 1, 1) := by decide +kernel
theorem dX11_times_9 : decode cX11_times 9 = .ok (.invokevirtual 217, 3) := by decide +kernel
theorem dX11_times_12 : decode cX11_times 12 = .ok (.ifCond .ne 5, 3) := by decide +kernel
theorem dX11_times_15 : decode cX11_times 15 = .ok (.iconst (-1), 1) := by decide +kernel
theorem dX11_times_16 : decode cX11_times 16 = .ok (.ireturn, 1) := by decide +kernel
theorem dX11_times_17 : decode cX11_times 17 = .ok (.aload_n 0, 1) := by decide +kernel
theorem dX11_times_18 : decode cX11_times 18 = .ok (.getfield 86, 3) := by decide +kernel
theorem dX11_times_21 : decode cX11_times 21 = .ok (.iconst 0, 1) := by decide +kernel
theorem dX11_times_22 : decode cX11_times 22 = .ok (.aaload, 1) := by decide +kernel
theorem dX11_times_23 : decode cX11_times 23 = .ok (.aload_n 0, 1) := by decide +kernel
theorem dX11_times_24 : decode cX11_times 24 = .ok (.getfield 49, 3) := by decide +kernel
theorem dX11_times_27 : decode cX11_times 27 = .ok (.invokevirtual 409, 3) := by decide +kernel
theorem dX11_times_30 : decode cX11_times 30 = .ok (.iconst 0, 1) := by decide +kernel
theorem dX11_times_31 : decode cX11_times 31 = .ok (.istore_n 2, 1) := by decide +kernel
theorem dX11_times_32 : decode cX11_times 32 = .ok (.iload_n 2, 1) := by decide +kernel
theorem dX11_times_33 : decode cX11_times 33 = .ok (.bipush 99, 2) := by decide +kernel
theorem dX11_times_35 : decode cX11_times 35 = .ok (.if_icmp .ge 30, 3) := by decide +kernel
theorem dX11_times_38 : decode cX11_times 38 = .ok (.aload_n 0, 1) := by decide +kernel
theorem dX11_times_39 : decode cX11_times 39 = .ok (.aload_n 0, 1) := by decide +kernel
theorem dX11_times_40 : decode cX11_times 40 = .ok (.getfield 75, 3) := by decide +kernel
theorem dX11_times_43 : decode cX11_times 43 = .ok (.iload_n 1, 1) := by decide +kernel
theorem dX11_times_44 : decode cX11_times 44 = .ok (.aaload, 1) := by decide +kernel
theorem dX11_times_45 : decode cX11_times 45 = .ok (.aload_n 0, 1) := by decide +kernel
theorem dX11_times_46 : decode cX11_times 46 = .ok (.getfield 86, 3) := by decide +kernel
theorem dX11_times_49 : decode cX11_times 49 = .ok (.iconst 0, 1) := by decide +kernel
theorem dX11_times_50 : decode cX11_times 50 = .ok (.aaload, 1) := by decide +kernel
theorem dX11_times_51 : decode cX11_times 51 = .ok (.invokevirtual 412, 3) := by decide +kernel
theorem dX11_times_54 : decode cX11_times 54 = .ok (.ifCond .ne 5, 3) := by decide +kernel
theorem dX11_times_57 : decode cX11_times 57 = .ok (.iload_n 2, 1) := by decide +kernel
theorem dX11_times_58 : decode cX11_times 58 = .ok (.ireturn, 1) := by decide +kernel
theorem dX11_times_59 : decode cX11_times 59 = .ok (.iinc 2 1, 3) := by decide +kernel
theorem dX11_times_62 : decode cX11_times 62 = .ok (.goto (-30), 3) := by decide +kernel
theorem dX11_times_65 : decode cX11_times 65 = .ok (.bipush 99, 2) := by decide +kernel
theorem dX11_times_67 : decode cX11_times 67 = .ok (.ireturn, 1) := by decide +kernel
theorem dX11_dancedWhole_0 : decode cX11_dancedWhole 0 = .ok (.iconst 0, 1) := by decide +kernel
theorem dX11_dancedWhole_1 : decode cX11_dancedWhole 1 = .ok (.istore_n 3, 1) := by decide +kernel
theorem dX11_dancedWhole_2 : decode cX11_dancedWhole 2 = .ok (.iload_n 3, 1) := by decide +kernel
theorem dX11_dancedWhole_3 : decode cX11_dancedWhole 3 = .ok (.aload_n 1, 1) := by decide +kernel
theorem dX11_dancedWhole_4 : decode cX11_dancedWhole 4 = .ok (.getfield 220, 3) := by decide +kernel
theorem dX11_dancedWhole_7 : decode cX11_dancedWhole 7 = .ok (.if_icmp .ge 49, 3) := by decide +kernel
theorem dX11_dancedWhole_10 : decode cX11_dancedWhole 10 = .ok (.aload_n 1, 1) := by decide +kernel
theorem dX11_dancedWhole_11 : decode cX11_dancedWhole 11 = .ok (.iload_n 3, 1) := by decide +kernel
theorem dX11_dancedWhole_12 : decode cX11_dancedWhole 12 = .ok (.invokevirtual 221, 3) := by decide +kernel
theorem dX11_dancedWhole_15 : decode cX11_dancedWhole 15 = .ok (.istore 4, 2) := by decide +kernel
theorem dX11_dancedWhole_17 : decode cX11_dancedWhole 17 = .ok (.aload_n 2, 1) := by decide +kernel
theorem dX11_dancedWhole_18 : decode cX11_dancedWhole 18 = .ok (.iload 4, 2) := by decide +kernel
theorem dX11_dancedWhole_20 : decode cX11_dancedWhole 20 = .ok (.iconst 1, 1) := by decide +kernel
theorem dX11_dancedWhole_21 : decode cX11_dancedWhole 21 = .ok (.ishr, 1) := by decide +kernel
theorem dX11_dancedWhole_22 : decode cX11_dancedWhole 22 = .ok (.invokevirtual 211, 3) := by decide +kernel
theorem dX11_dancedWhole_25 : decode cX11_dancedWhole 25 = .ok (.ifCond .eq 15, 3) := by decide +kernel
theorem dX11_dancedWhole_28 : decode cX11_dancedWhole 28 = .ok (.aload_n 0, 1) := by decide +kernel
theorem dX11_dancedWhole_29 : decode cX11_dancedWhole 29 = .ok (.aload_n 2, 1) := by decide +kernel
theorem dX11_dancedWhole_30 : decode cX11_dancedWhole 30 = .ok (.iload 4, 2) := by decide +kernel
theorem dX11_dancedWhole_32 : decode cX11_dancedWhole 32 = .ok (.invokevirtual 297, 3) := by decide +kernel
theorem dX11_dancedWhole_35 : decode cX11_dancedWhole 35 = .ok (.ifCond .ge 5, 3) := by decide +kernel
theorem dX11_dancedWhole_38 : decode cX11_dancedWhole 38 = .ok (.iconst 0, 1) := by decide +kernel
theorem dX11_dancedWhole_39 : decode cX11_dancedWhole 39 = .ok (.ireturn, 1) := by decide +kernel
theorem dX11_dancedWhole_40 : decode cX11_dancedWhole 40 = .ok (.aload_n 2, 1) := by decide +kernel
theorem dX11_dancedWhole_41 : decode cX11_dancedWhole 41 = .ok (.dup, 1) := by decide +kernel
theorem dX11_dancedWhole_42 : decode cX11_dancedWhole 42 = .ok (.getfield 250, 3) := by decide +kernel
theorem dX11_dancedWhole_45 : decode cX11_dancedWhole 45 = .ok (.iconst 1, 1) := by decide +kernel
theorem dX11_dancedWhole_46 : decode cX11_dancedWhole 46 = .ok (.iadd, 1) := by decide +kernel
theorem dX11_dancedWhole_47 : decode cX11_dancedWhole 47 = .ok (.putfield 250, 3) := by decide +kernel
theorem dX11_dancedWhole_50 : decode cX11_dancedWhole 50 = .ok (.iinc 3 1, 3) := by decide +kernel
theorem dX11_dancedWhole_53 : decode cX11_dancedWhole 53 = .ok (.goto (-51), 3) := by decide +kernel
theorem dX11_dancedWhole_56 : decode cX11_dancedWhole 56 = .ok (.iconst 1, 1) := by decide +kernel
theorem dX11_dancedWhole_57 : decode cX11_dancedWhole 57 = .ok (.ireturn, 1) := by decide +kernel
theorem dX11_seen_0 : decode cX11_seen 0 = .ok (.aload_n 0, 1) := by decide +kernel
theorem dX11_seen_1 : decode cX11_seen 1 = .ok (.iload_n 1, 1) := by decide +kernel
theorem dX11_seen_2 : decode cX11_seen 2 = .ok (.invokevirtual 188, 3) := by decide +kernel
theorem dX11_seen_5 : decode cX11_seen 5 = .ok (.ifCond .eq 34, 3) := by decide +kernel
theorem dX11_seen_8 : decode cX11_seen 8 = .ok (.aload_n 0, 1) := by decide +kernel
theorem dX11_seen_9 : decode cX11_seen 9 = .ok (.getfield 49, 3) := by decide +kernel
theorem dX11_seen_12 : decode cX11_seen 12 = .ok (.iload_n 2, 1) := by decide +kernel
theorem dX11_seen_13 : decode cX11_seen 13 = .ok (.invokevirtual 211, 3) := by decide +kernel
theorem dX11_seen_16 : decode cX11_seen 16 = .ok (.ifCond .eq 23, 3) := by decide +kernel
theorem dX11_seen_19 : decode cX11_seen 19 = .ok (.iload_n 3, 1) := by decide +kernel
theorem dX11_seen_20 : decode cX11_seen 20 = .ok (.iconst 1, 1) := by decide +kernel
theorem dX11_seen_21 : decode cX11_seen 21 = .ok (.if_icmp .lt 18, 3) := by decide +kernel
theorem dX11_seen_24 : decode cX11_seen 24 = .ok (.iload_n 3, 1) := by decide +kernel
theorem dX11_seen_25 : decode cX11_seen 25 = .ok (.bipush 9, 2) := by decide +kernel
theorem dX11_seen_27 : decode cX11_seen 27 = .ok (.if_icmp .gt 12, 3) := by decide +kernel
theorem dX11_seen_30 : decode cX11_seen 30 = .ok (.aload_n 0, 1) := by decide +kernel
theorem dX11_seen_31 : decode cX11_seen 31 = .ok (.getfield 152, 3) := by decide +kernel
theorem dX11_seen_34 : decode cX11_seen 34 = .ok (.bipush 10, 2) := by decide +kernel
theorem dX11_seen_36 : decode cX11_seen 36 = .ok (.if_icmp .lt 5, 3) := by decide +kernel
theorem dX11_seen_39 : decode cX11_seen 39 = .ok (.iconst (-1), 1) := by decide +kernel
theorem dX11_seen_40 : decode cX11_seen 40 = .ok (.ireturn, 1) := by decide +kernel
theorem dX11_seen_41 : decode cX11_seen 41 = .ok (.aload_n 0, 1) := by decide +kernel
theorem dX11_seen_42 : decode cX11_seen 42 = .ok (.getfield 83, 3) := by decide +kernel
theorem dX11_seen_45 : decode cX11_seen 45 = .ok (.aload_n 0, 1) := by decide +kernel
theorem dX11_seen_46 : decode cX11_seen 46 = .ok (.getfield 152, 3) := by decide +kernel
theorem dX11_seen_49 : decode cX11_seen 49 = .ok (.iload_n 1, 1) := by decide +kernel
theorem dX11_seen_50 : decode cX11_seen 50 = .ok (.iload_n 2, 1) := by decide +kernel
theorem dX11_seen_51 : decode cX11_seen 51 = .ok (.iconst 3, 1) := by decide +kernel
theorem dX11_seen_52 : decode cX11_seen 52 = .ok (.ishl, 1) := by decide +kernel
theorem dX11_seen_53 : decode cX11_seen 53 = .ok (.ior, 1) := by decide +kernel
theorem dX11_seen_54 : decode cX11_seen 54 = .ok (.iload_n 3, 1) := by decide +kernel
theorem dX11_seen_55 : decode cX11_seen 55 = .ok (.bipush 6, 2) := by decide +kernel
theorem dX11_seen_57 : decode cX11_seen 57 = .ok (.ishl, 1) := by decide +kernel
theorem dX11_seen_58 : decode cX11_seen 58 = .ok (.ior, 1) := by decide +kernel
theorem dX11_seen_59 : decode cX11_seen 59 = .ok (.iload 4, 2) := by decide +kernel
theorem dX11_seen_61 : decode cX11_seen 61 = .ok (.ifCond .eq 9, 3) := by decide +kernel
theorem dX11_seen_64 : decode cX11_seen 64 = .ok (.sipush 1024, 3) := by decide +kernel
theorem dX11_seen_67 : decode cX11_seen 67 = .ok (.goto 4, 3) := by decide +kernel
theorem dX11_seen_70 : decode cX11_seen 70 = .ok (.iconst 0, 1) := by decide +kernel
theorem dX11_seen_71 : decode cX11_seen 71 = .ok (.ior, 1) := by decide +kernel
theorem dX11_seen_72 : decode cX11_seen 72 = .ok (.iastore, 1) := by decide +kernel
theorem dX11_seen_73 : decode cX11_seen 73 = .ok (.aload_n 0, 1) := by decide +kernel
theorem dX11_seen_74 : decode cX11_seen 74 = .ok (.dup, 1) := by decide +kernel
theorem dX11_seen_75 : decode cX11_seen 75 = .ok (.getfield 152, 3) := by decide +kernel
theorem dX11_seen_78 : decode cX11_seen 78 = .ok (.iconst 1, 1) := by decide +kernel
theorem dX11_seen_79 : decode cX11_seen 79 = .ok (.iadd, 1) := by decide +kernel
theorem dX11_seen_80 : decode cX11_seen 80 = .ok (.putfield 152, 3) := by decide +kernel
theorem dX11_seen_83 : decode cX11_seen 83 = .ok (.aload_n 0, 1) := by decide +kernel
theorem dX11_seen_84 : decode cX11_seen 84 = .ok (.getfield 152, 3) := by decide +kernel
theorem dX11_seen_87 : decode cX11_seen 87 = .ok (.ireturn, 1) := by decide +kernel
theorem dX11_fits_0 : decode cX11_fits 0 = .ok (.aload_n 0, 1) := by decide +kernel
theorem dX11_fits_1 : decode cX11_fits 1 = .ok (.invokevirtual 176, 3) := by decide +kernel
theorem dX11_fits_4 : decode cX11_fits 4 = .ok (.ifCond .ne 5, 3) := by decide +kernel
theorem dX11_fits_7 : decode cX11_fits 7 = .ok (.iconst (-1), 1) := by decide +kernel
theorem dX11_fits_8 : decode cX11_fits 8 = .ok (.ireturn, 1) := by decide +kernel
theorem dX11_fits_9 : decode cX11_fits 9 = .ok (.iconst 0, 1) := by decide +kernel
theorem dX11_fits_10 : decode cX11_fits 10 = .ok (.istore_n 1, 1) := by decide +kernel
theorem dX11_fits_11 : decode cX11_fits 11 = .ok (.iconst 0, 1) := by decide +kernel
theorem dX11_fits_12 : decode cX11_fits 12 = .ok (.istore_n 2, 1) := by decide +kernel
theorem dX11_fits_13 : decode cX11_fits 13 = .ok (.iload_n 2, 1) := by decide +kernel
theorem dX11_fits_14 : decode cX11_fits 14 = .ok (.aload_n 0, 1) := by decide +kernel
theorem dX11_fits_15 : decode cX11_fits 15 = .ok (.getfield 167, 3) := by decide +kernel
theorem dX11_fits_18 : decode cX11_fits 18 = .ok (.if_icmp .ge 28, 3) := by decide +kernel
theorem dX11_fits_21 : decode cX11_fits 21 = .ok (.aload_n 0, 1) := by decide +kernel
theorem dX11_fits_22 : decode cX11_fits 22 = .ok (.aload_n 0, 1) := by decide +kernel
theorem dX11_fits_23 : decode cX11_fits 23 = .ok (.getfield 75, 3) := by decide +kernel
theorem dX11_fits_26 : decode cX11_fits 26 = .ok (.iload_n 2, 1) := by decide +kernel
theorem dX11_fits_27 : decode cX11_fits 27 = .ok (.aaload, 1) := by decide +kernel
theorem dX11_fits_28 : decode cX11_fits 28 = .ok (.invokevirtual 416, 3) := by decide +kernel
theorem dX11_fits_31 : decode cX11_fits 31 = .ok (.ifCond .eq 9, 3) := by decide +kernel
theorem dX11_fits_34 : decode cX11_fits 34 = .ok (.iload_n 1, 1) := by decide +kernel
theorem dX11_fits_35 : decode cX11_fits 35 = .ok (.iconst 1, 1) := by decide +kernel
theorem dX11_fits_36 : decode cX11_fits 36 = .ok (.iload_n 2, 1) := by decide +kernel
theorem dX11_fits_37 : decode cX11_fits 37 = .ok (.ishl, 1) := by decide +kernel
theorem dX11_fits_38 : decode cX11_fits 38 = .ok (.ior, 1) := by decide +kernel
theorem dX11_fits_39 : decode cX11_fits 39 = .ok (.istore_n 1, 1) := by decide +kernel
theorem dX11_fits_40 : decode cX11_fits 40 = .ok (.iinc 2 1, 3) := by decide +kernel
theorem dX11_fits_43 : decode cX11_fits 43 = .ok (.goto (-30), 3) := by decide +kernel
theorem dX11_fits_46 : decode cX11_fits 46 = .ok (.iload_n 1, 1) := by decide +kernel
theorem dX11_fits_47 : decode cX11_fits 47 = .ok (.ireturn, 1) := by decide +kernel
theorem dX11_agreesWithAll_0 : decode cX11_agreesWithAll 0 = .ok (.iconst 0, 1) := by decide +kernel
theorem dX11_agreesWithAll_1 : decode cX11_agreesWithAll 1 = .ok (.istore_n 2, 1) := by decide +kernel
theorem dX11_agreesWithAll_2 : decode cX11_agreesWithAll 2 = .ok (.iload_n 2, 1) := by decide +kernel
theorem dX11_agreesWithAll_3 : decode cX11_agreesWithAll 3 = .ok (.aload_n 0, 1) := by decide +kernel
theorem dX11_agreesWithAll_4 : decode cX11_agreesWithAll 4 = .ok (.getfield 152, 3) := by decide +kernel
theorem dX11_agreesWithAll_7 : decode cX11_agreesWithAll 7 = .ok (.if_icmp .ge 68, 3) := by decide +kernel
theorem dX11_agreesWithAll_10 : decode cX11_agreesWithAll 10 = .ok (.aload_n 0, 1) := by decide +kernel
theorem dX11_agreesWithAll_11 : decode cX11_agreesWithAll 11 = .ok (.getfield 83, 3) := by decide +kernel
theorem dX11_agreesWithAll_14 : decode cX11_agreesWithAll 14 = .ok (.iload_n 2, 1) := by decide +kernel
theorem dX11_agreesWithAll_15 : decode cX11_agreesWithAll 15 = .ok (.iaload, 1) := by decide +kernel
theorem dX11_agreesWithAll_16 : decode cX11_agreesWithAll 16 = .ok (.istore_n 3, 1) := by decide +kernel
theorem dX11_agreesWithAll_17 : decode cX11_agreesWithAll 17 = .ok (.aload_n 0, 1) := by decide +kernel
theorem dX11_agreesWithAll_18 : decode cX11_agreesWithAll 18 = .ok (.aload_n 1, 1) := by decide +kernel
theorem dX11_agreesWithAll_19 : decode cX11_agreesWithAll 19 = .ok (.iload_n 3, 1) := by decide +kernel
theorem dX11_agreesWithAll_20 : decode cX11_agreesWithAll 20 = .ok (.bipush 7, 2) := by decide +kernel
theorem dX11_agreesWithAll_22 : decode cX11_agreesWithAll 22 = .ok (.iand, 1) := by decide +kernel
theorem dX11_agreesWithAll_23 : decode cX11_agreesWithAll 23 = .ok (.iload_n 3, 1) := by decide +kernel
theorem dX11_agreesWithAll_24 : decode cX11_agreesWithAll 24 = .ok (.bipush 6, 2) := by decide +kernel
theorem dX11_agreesWithAll_26 : decode cX11_agreesWithAll 26 = .ok (.ishr, 1) := by decide +kernel
theorem dX11_agreesWithAll_27 : decode cX11_agreesWithAll 27 = .ok (.bipush 15, 2) := by decide +kernel
theorem dX11_agreesWithAll_29 : decode cX11_agreesWithAll 29 = .ok (.iand, 1) := by decide +kernel
theorem dX11_agreesWithAll_30 : decode cX11_agreesWithAll 30 = .ok (.invokevirtual 380, 3) := by decide +kernel
theorem dX11_agreesWithAll_33 : decode cX11_agreesWithAll 33 = .ok (.iload_n 3, 1) := by decide +kernel
theorem dX11_agreesWithAll_34 : decode cX11_agreesWithAll 34 = .ok (.iconst 3, 1) := by decide +kernel
theorem dX11_agreesWithAll_35 : decode cX11_agreesWithAll 35 = .ok (.ishr, 1) := by decide +kernel
theorem dX11_agreesWithAll_36 : decode cX11_agreesWithAll 36 = .ok (.bipush 7, 2) := by decide +kernel
theorem dX11_agreesWithAll_38 : decode cX11_agreesWithAll 38 = .ok (.iand, 1) := by decide +kernel
theorem dX11_agreesWithAll_39 : decode cX11_agreesWithAll 39 = .ok (.if_icmp .ne 7, 3) := by decide +kernel
theorem dX11_agreesWithAll_42 : decode cX11_agreesWithAll 42 = .ok (.iconst 1, 1) := by decide +kernel
theorem dX11_agreesWithAll_43 : decode cX11_agreesWithAll 43 = .ok (.goto 4, 3) := by decide +kernel
theorem dX11_agreesWithAll_46 : decode cX11_agreesWithAll 46 = .ok (.iconst 0, 1) := by decide +kernel
theorem dX11_agreesWithAll_47 : decode cX11_agreesWithAll 47 = .ok (.istore 4, 2) := by decide +kernel
theorem dX11_agreesWithAll_49 : decode cX11_agreesWithAll 49 = .ok (.iload 4, 2) := by decide +kernel
theorem dX11_agreesWithAll_51 : decode cX11_agreesWithAll 51 = .ok (.iload_n 3, 1) := by decide +kernel
theorem dX11_agreesWithAll_52 : decode cX11_agreesWithAll 52 = .ok (.bipush 10, 2) := by decide +kernel
theorem dX11_agreesWithAll_54 : decode cX11_agreesWithAll 54 = .ok (.ishr, 1) := by decide +kernel
theorem dX11_agreesWithAll_55 : decode cX11_agreesWithAll 55 = .ok (.iconst 1, 1) := by decide +kernel
theorem dX11_agreesWithAll_56 : decode cX11_agreesWithAll 56 = .ok (.if_icmp .ne 7, 3) := by decide +kernel
theorem dX11_agreesWithAll_59 : decode cX11_agreesWithAll 59 = .ok (.iconst 1, 1) := by decide +kernel
theorem dX11_agreesWithAll_60 : decode cX11_agreesWithAll 60 = .ok (.goto 4, 3) := by decide +kernel
theorem dX11_agreesWithAll_63 : decode cX11_agreesWithAll 63 = .ok (.iconst 0, 1) := by decide +kernel
theorem dX11_agreesWithAll_64 : decode cX11_agreesWithAll 64 = .ok (.if_icmp .eq 5, 3) := by decide +kernel
theorem dX11_agreesWithAll_67 : decode cX11_agreesWithAll 67 = .ok (.iconst 0, 1) := by decide +kernel
theorem dX11_agreesWithAll_68 : decode cX11_agreesWithAll 68 = .ok (.ireturn, 1) := by decide +kernel
theorem dX11_agreesWithAll_69 : decode cX11_agreesWithAll 69 = .ok (.iinc 2 1, 3) := by decide +kernel
theorem dX11_agreesWithAll_72 : decode cX11_agreesWithAll 72 = .ok (.goto (-70), 3) := by decide +kernel
theorem dX11_agreesWithAll_75 : decode cX11_agreesWithAll 75 = .ok (.iconst 1, 1) := by decide +kernel
theorem dX11_agreesWithAll_76 : decode cX11_agreesWithAll 76 = .ok (.ireturn, 1) := by decide +kernel
theorem dX11_ask_0 : decode cX11_ask 0 = .ok (.aload_n 0, 1) := by decide +kernel
theorem dX11_ask_1 : decode cX11_ask 1 = .ok (.invokevirtual 420, 3) := by decide +kernel
theorem dX11_ask_4 : decode cX11_ask 4 = .ok (.istore_n 2, 1) := by decide +kernel
theorem dX11_ask_5 : decode cX11_ask 5 = .ok (.aload_n 0, 1) := by decide +kernel
theorem dX11_ask_6 : decode cX11_ask 6 = .ok (.iload_n 1, 1) := by decide +kernel
theorem dX11_ask_7 : decode cX11_ask 7 = .ok (.invokevirtual 188, 3) := by decide +kernel
theorem dX11_ask_10 : decode cX11_ask 10 = .ok (.ifCond .eq 7, 3) := by decide +kernel
theorem dX11_ask_13 : decode cX11_ask 13 = .ok (.iload_n 2, 1) := by decide +kernel
theorem dX11_ask_14 : decode cX11_ask 14 = .ok (.ifCond .gt 5, 3) := by decide +kernel
theorem dX11_ask_17 : decode cX11_ask 17 = .ok (.iconst (-1), 1) := by decide +kernel
theorem dX11_ask_18 : decode cX11_ask 18 = .ok (.ireturn, 1) := by decide +kernel
theorem dX11_ask_19 : decode cX11_ask 19 = .ok (.iconst 1, 1) := by decide +kernel
theorem dX11_ask_20 : decode cX11_ask 20 = .ok (.istore_n 3, 1) := by decide +kernel
theorem dX11_ask_21 : decode cX11_ask 21 = .ok (.bipush 7, 2) := by decide +kernel
theorem dX11_ask_23 : decode cX11_ask 23 = .ok (.istore 4, 2) := by decide +kernel
theorem dX11_ask_25 : decode cX11_ask 25 = .ok (.iconst 1, 1) := by decide +kernel
theorem dX11_ask_26 : decode cX11_ask 26 = .ok (.istore 5, 2) := by decide +kernel
theorem dX11_ask_28 : decode cX11_ask 28 = .ok (.iload 5, 2) := by decide +kernel
theorem dX11_ask_30 : decode cX11_ask 30 = .ok (.bipush 9, 2) := by decide +kernel
theorem dX11_ask_32 : decode cX11_ask 32 = .ok (.if_icmp .gt 33, 3) := by decide +kernel
theorem dX11_ask_35 : decode cX11_ask 35 = .ok (.aload_n 0, 1) := by decide +kernel
theorem dX11_ask_36 : decode cX11_ask 36 = .ok (.iload_n 2, 1) := by decide +kernel
theorem dX11_ask_37 : decode cX11_ask 37 = .ok (.iload_n 1, 1) := by decide +kernel
theorem dX11_ask_38 : decode cX11_ask 38 = .ok (.iload 5, 2) := by decide +kernel
theorem dX11_ask_40 : decode cX11_ask 40 = .ok (.invokevirtual 423, 3) := by decide +kernel
theorem dX11_ask_43 : decode cX11_ask 43 = .ok (.istore 6, 2) := by decide +kernel
theorem dX11_ask_45 : decode cX11_ask 45 = .ok (.iload 6, 2) := by decide +kernel
theorem dX11_ask_47 : decode cX11_ask 47 = .ok (.iload 4, 2) := by decide +kernel
theorem dX11_ask_49 : decode cX11_ask 49 = .ok (.if_icmp .ge 10, 3) := by decide +kernel
theorem dX11_ask_52 : decode cX11_ask 52 = .ok (.iload 6, 2) := by decide +kernel
theorem dX11_ask_54 : decode cX11_ask 54 = .ok (.istore 4, 2) := by decide +kernel
theorem dX11_ask_56 : decode cX11_ask 56 = .ok (.iload 5, 2) := by decide +kernel
theorem dX11_ask_58 : decode cX11_ask 58 = .ok (.istore_n 3, 1) := by decide +kernel
theorem dX11_ask_59 : decode cX11_ask 59 = .ok (.iinc 5 1, 3) := by decide +kernel
theorem dX11_ask_62 : decode cX11_ask 62 = .ok (.goto (-34), 3) := by decide +kernel
theorem dX11_ask_65 : decode cX11_ask 65 = .ok (.iload_n 3, 1) := by decide +kernel
theorem dX11_ask_66 : decode cX11_ask 66 = .ok (.ireturn, 1) := by decide +kernel
theorem dX11_mostAgreeing_0 : decode cX11_mostAgreeing 0 = .ok (.iconst 0, 1) := by decide +kernel
theorem dX11_mostAgreeing_1 : decode cX11_mostAgreeing 1 = .ok (.istore 4, 2) := by decide +kernel
theorem dX11_mostAgreeing_3 : decode cX11_mostAgreeing 3 = .ok (.iconst 0, 1) := by decide +kernel
theorem dX11_mostAgreeing_4 : decode cX11_mostAgreeing 4 = .ok (.istore 5, 2) := by decide +kernel
theorem dX11_mostAgreeing_6 : decode cX11_mostAgreeing 6 = .ok (.iconst 0, 1) := by decide +kernel
theorem dX11_mostAgreeing_7 : decode cX11_mostAgreeing 7 = .ok (.istore 6, 2) := by decide +kernel
theorem dX11_mostAgreeing_9 : decode cX11_mostAgreeing 9 = .ok (.iload 6, 2) := by decide +kernel
theorem dX11_mostAgreeing_11 : decode cX11_mostAgreeing 11 = .ok (.aload_n 0, 1) := by decide +kernel
theorem dX11_mostAgreeing_12 : decode cX11_mostAgreeing 12 = .ok (.getfield 167, 3) := by decide +kernel
theorem dX11_mostAgreeing_15 : decode cX11_mostAgreeing 15 = .ok (.if_icmp .ge 59, 3) := by decide +kernel
theorem dX11_mostAgreeing_18 : decode cX11_mostAgreeing 18 = .ok (.iload_n 1, 1) := by decide +kernel
theorem dX11_mostAgreeing_19 : decode cX11_mostAgreeing 19 = .ok (.iload 6, 2) := by decide +kernel
theorem dX11_mostAgreeing_21 : decode cX11_mostAgreeing 21 = .ok (.ishr, 1) := by decide +kernel
theorem dX11_mostAgreeing_22 : decode cX11_mostAgreeing 22 = .ok (.iconst 1, 1) := by decide +kernel
theorem dX11_mostAgreeing_23 : decode cX11_mostAgreeing 23 = .ok (.iand, 1) := by decide +kernel
theorem dX11_mostAgreeing_24 : decode cX11_mostAgreeing 24 = .ok (.ifCond .eq 44, 3) := by decide +kernel
theorem dX11_mostAgreeing_27 : decode cX11_mostAgreeing 27 = .ok (.iconst 4, 1) := by decide +kernel
theorem dX11_mostAgreeing_28 : decode cX11_mostAgreeing 28 = .ok (.aload_n 0, 1) := by decide +kernel
theorem dX11_mostAgreeing_29 : decode cX11_mostAgreeing 29 = .ok (.aload_n 0, 1) := by decide +kernel
theorem dX11_mostAgreeing_30 : decode cX11_mostAgreeing 30 = .ok (.getfield 75, 3) := by decide +kernel
theorem dX11_mostAgreeing_33 : decode cX11_mostAgreeing 33 = .ok (.iload 6, 2) := by decide +kernel
theorem dX11_mostAgreeing_35 : decode cX11_mostAgreeing 35 = .ok (.aaload, 1) := by decide +kernel
theorem dX11_mostAgreeing_36 : decode cX11_mostAgreeing 36 = .ok (.iload_n 2, 1) := by decide +kernel
theorem dX11_mostAgreeing_37 : decode cX11_mostAgreeing 37 = .ok (.iload_n 3, 1) := by decide +kernel
theorem dX11_mostAgreeing_38 : decode cX11_mostAgreeing 38 = .ok (.invokevirtual 380, 3) := by decide +kernel
theorem dX11_mostAgreeing_41 : decode cX11_mostAgreeing 41 = .ok (.imul, 1) := by decide +kernel
theorem dX11_mostAgreeing_42 : decode cX11_mostAgreeing 42 = .ok (.istore 7, 2) := by decide +kernel
theorem dX11_mostAgreeing_44 : decode cX11_mostAgreeing 44 = .ok (.iload 5, 2) := by decide +kernel
theorem dX11_mostAgreeing_46 : decode cX11_mostAgreeing 46 = .ok (.iconst 1, 1) := by decide +kernel
theorem dX11_mostAgreeing_47 : decode cX11_mostAgreeing 47 = .ok (.iload 7, 2) := by decide +kernel
theorem dX11_mostAgreeing_49 : decode cX11_mostAgreeing 49 = .ok (.ishl, 1) := by decide +kernel
theorem dX11_mostAgreeing_50 : decode cX11_mostAgreeing 50 = .ok (.iadd, 1) := by decide +kernel
theorem dX11_mostAgreeing_51 : decode cX11_mostAgreeing 51 = .ok (.istore 5, 2) := by decide +kernel
theorem dX11_mostAgreeing_53 : decode cX11_mostAgreeing 53 = .ok (.iload 4, 2) := by decide +kernel
theorem dX11_mostAgreeing_55 : decode cX11_mostAgreeing 55 = .ok (.iload 5, 2) := by decide +kernel
theorem dX11_mostAgreeing_57 : decode cX11_mostAgreeing 57 = .ok (.iload 7, 2) := by decide +kernel
theorem dX11_mostAgreeing_59 : decode cX11_mostAgreeing 59 = .ok (.ishr, 1) := by decide +kernel
theorem dX11_mostAgreeing_60 : decode cX11_mostAgreeing 60 = .ok (.bipush 15, 2) := by decide +kernel
theorem dX11_mostAgreeing_62 : decode cX11_mostAgreeing 62 = .ok (.iand, 1) := by decide +kernel
theorem dX11_mostAgreeing_63 : decode cX11_mostAgreeing 63 = .ok (.invokestatic 273, 3) := by decide +kernel
theorem dX11_mostAgreeing_66 : decode cX11_mostAgreeing 66 = .ok (.istore 4, 2) := by decide +kernel
theorem dX11_mostAgreeing_68 : decode cX11_mostAgreeing 68 = .ok (.iinc 6 1, 3) := by decide +kernel
theorem dX11_mostAgreeing_71 : decode cX11_mostAgreeing 71 = .ok (.goto (-62), 3) := by decide +kernel
theorem dX11_mostAgreeing_74 : decode cX11_mostAgreeing 74 = .ok (.iload 4, 2) := by decide +kernel
theorem dX11_mostAgreeing_76 : decode cX11_mostAgreeing 76 = .ok (.ireturn, 1) := by decide +kernel
theorem dX11_game_0 : decode cX11_game 0 = .ok (.aload_n 0, 1) := by decide +kernel
theorem dX11_game_1 : decode cX11_game 1 = .ok (.getfield 49, 3) := by decide +kernel
theorem dX11_game_4 : decode cX11_game 4 = .ok (.iload_n 1, 1) := by decide +kernel
theorem dX11_game_5 : decode cX11_game 5 = .ok (.invokevirtual 211, 3) := by decide +kernel
theorem dX11_game_8 : decode cX11_game 8 = .ok (.ifCond .eq 32, 3) := by decide +kernel
theorem dX11_game_11 : decode cX11_game 11 = .ok (.iload_n 2, 1) := by decide +kernel
theorem dX11_game_12 : decode cX11_game 12 = .ok (.ifCond .lt 28, 3) := by decide +kernel
theorem dX11_game_15 : decode cX11_game 15 = .ok (.iload_n 2, 1) := by decide +kernel
theorem dX11_game_16 : decode cX11_game 16 = .ok (.iconst 2, 1) := by decide +kernel
theorem dX11_game_17 : decode cX11_game 17 = .ok (.if_icmp .gt 23, 3) := by decide +kernel
theorem dX11_game_20 : decode cX11_game 20 = .ok (.iload_n 3, 1) := by decide +kernel
theorem dX11_game_21 : decode cX11_game 21 = .ok (.ifCond .lt 19, 3) := by decide +kernel
theorem dX11_game_24 : decode cX11_game 24 = .ok (.iload_n 3, 1) := by decide +kernel
theorem dX11_game_25 : decode cX11_game 25 = .ok (.iconst 2, 1) := by decide +kernel
theorem dX11_game_26 : decode cX11_game 26 = .ok (.if_icmp .gt 14, 3) := by decide +kernel
theorem dX11_game_29 : decode cX11_game 29 = .ok (.iload 4, 2) := by decide +kernel
theorem dX11_game_31 : decode cX11_game 31 = .ok (.ifCond .lt 9, 3) := by decide +kernel
theorem dX11_game_34 : decode cX11_game 34 = .ok (.iload 4, 2) := by decide +kernel
theorem dX11_game_36 : decode cX11_game 36 = .ok (.iconst 1, 1) := by decide +kernel
theorem dX11_game_37 : decode cX11_game 37 = .ok (.if_icmp .le 6, 3) := by decide +kernel
theorem dX11_game_40 : decode cX11_game 40 = .ok (.ldc 254, 2) := by decide +kernel
theorem dX11_game_42 : decode cX11_game 42 = .ok (.ireturn, 1) := by decide +kernel
theorem dX11_game_43 : decode cX11_game 43 = .ok (.aload_n 0, 1) := by decide +kernel
theorem dX11_game_44 : decode cX11_game 44 = .ok (.iload_n 1, 1) := by decide +kernel
theorem dX11_game_45 : decode cX11_game 45 = .ok (.iload_n 2, 1) := by decide +kernel
theorem dX11_game_46 : decode cX11_game 46 = .ok (.iload_n 3, 1) := by decide +kernel
theorem dX11_game_47 : decode cX11_game 47 = .ok (.iload 4, 2) := by decide +kernel
theorem dX11_game_49 : decode cX11_game 49 = .ok (.invokevirtual 427, 3) := by decide +kernel
theorem dX11_game_52 : decode cX11_game 52 = .ok (.ireturn, 1) := by decide +kernel
theorem dX11_gain_0 : decode cX11_gain 0 = .ok (.iload_n 2, 1) := by decide +kernel
theorem dX11_gain_1 : decode cX11_gain 1 = .ok (.iconst 2, 1) := by decide +kernel
theorem dX11_gain_2 : decode cX11_gain 2 = .ok (.if_icmp .eq 8, 3) := by decide +kernel
theorem dX11_gain_5 : decode cX11_gain 5 = .ok (.iload_n 3, 1) := by decide +kernel
theorem dX11_gain_6 : decode cX11_gain 6 = .ok (.iconst 2, 1) := by decide +kernel
theorem dX11_gain_7 : decode cX11_gain 7 = .ok (.if_icmp .ne 5, 3) := by decide +kernel
theorem dX11_gain_10 : decode cX11_gain 10 = .ok (.iconst 0, 1) := by decide +kernel
theorem dX11_gain_11 : decode cX11_gain 11 = .ok (.ireturn, 1) := by decide +kernel
theorem dX11_gain_12 : decode cX11_gain 12 = .ok (.iload_n 2, 1) := by decide +kernel
theorem dX11_gain_13 : decode cX11_gain 13 = .ok (.iload_n 3, 1) := by decide +kernel
theorem dX11_gain_14 : decode cX11_gain 14 = .ok (.if_icmp .ne 14, 3) := by decide +kernel
theorem dX11_gain_17 : decode cX11_gain 17 = .ok (.iload_n 2, 1) := by decide +kernel
theorem dX11_gain_18 : decode cX11_gain 18 = .ok (.ifCond .ne 8, 3) := by decide +kernel
theorem dX11_gain_21 : decode cX11_gain 21 = .ok (.bipush (-2), 2) := by decide +kernel
theorem dX11_gain_23 : decode cX11_gain 23 = .ok (.goto 4, 3) := by decide +kernel
theorem dX11_gain_26 : decode cX11_gain 26 = .ok (.iconst (-1), 1) := by decide +kernel
theorem dX11_gain_27 : decode cX11_gain 27 = .ok (.ireturn, 1) := by decide +kernel
theorem dX11_gain_28 : decode cX11_gain 28 = .ok (.iload_n 1, 1) := by decide +kernel
theorem dX11_gain_29 : decode cX11_gain 29 = .ok (.iload_n 2, 1) := by decide +kernel
theorem dX11_gain_30 : decode cX11_gain 30 = .ok (.ifCond .ne 7, 3) := by decide +kernel
theorem dX11_gain_33 : decode cX11_gain 33 = .ok (.iconst 1, 1) := by decide +kernel
theorem dX11_gain_34 : decode cX11_gain 34 = .ok (.goto 4, 3) := by decide +kernel
theorem dX11_gain_37 : decode cX11_gain 37 = .ok (.iconst 0, 1) := by decide +kernel
theorem dX11_gain_38 : decode cX11_gain 38 = .ok (.invokestatic 306, 3) := by decide +kernel
theorem dX11_gain_41 : decode cX11_gain 41 = .ok (.istore 5, 2) := by decide +kernel
theorem dX11_gain_43 : decode cX11_gain 43 = .ok (.aload_n 0, 1) := by decide +kernel
theorem dX11_gain_44 : decode cX11_gain 44 = .ok (.getfield 49, 3) := by decide +kernel
theorem dX11_gain_47 : decode cX11_gain 47 = .ok (.iload 5, 2) := by decide +kernel
theorem dX11_gain_49 : decode cX11_gain 49 = .ok (.invokevirtual 276, 3) := by decide +kernel
theorem dX11_gain_52 : decode cX11_gain 52 = .ok (.ifCond .lt 5, 3) := by decide +kernel
theorem dX11_gain_55 : decode cX11_gain 55 = .ok (.iconst 4, 1) := by decide +kernel
theorem dX11_gain_56 : decode cX11_gain 56 = .ok (.ireturn, 1) := by decide +kernel
theorem dX11_gain_57 : decode cX11_gain 57 = .ok (.aload_n 0, 1) := by decide +kernel
theorem dX11_gain_58 : decode cX11_gain 58 = .ok (.aload_n 0, 1) := by decide +kernel
theorem dX11_gain_59 : decode cX11_gain 59 = .ok (.getfield 49, 3) := by decide +kernel
theorem dX11_gain_62 : decode cX11_gain 62 = .ok (.iload 5, 2) := by decide +kernel
theorem dX11_gain_64 : decode cX11_gain 64 = .ok (.invokevirtual 279, 3) := by decide +kernel
theorem dX11_gain_67 : decode cX11_gain 67 = .ok (.istore 6, 2) := by decide +kernel
theorem dX11_gain_69 : decode cX11_gain 69 = .ok (.aload_n 0, 1) := by decide +kernel
theorem dX11_gain_70 : decode cX11_gain 70 = .ok (.getfield 49, 3) := by decide +kernel
theorem dX11_gain_73 : decode cX11_gain 73 = .ok (.iload 5, 2) := by decide +kernel
theorem dX11_gain_75 : decode cX11_gain 75 = .ok (.iload 6, 2) := by decide +kernel
theorem dX11_gain_77 : decode cX11_gain 77 = .ok (.invokevirtual 283, 3) := by decide +kernel
theorem dX11_gain_80 : decode cX11_gain 80 = .ok (.ifCond .eq 6, 3) := by decide +kernel
theorem dX11_gain_83 : decode cX11_gain 83 = .ok (.bipush (-3), 2) := by decide +kernel
theorem dX11_gain_85 : decode cX11_gain 85 = .ok (.ireturn, 1) := by decide +kernel
theorem dX11_gain_86 : decode cX11_gain 86 = .ok (.iload 4, 2) := by decide +kernel
theorem dX11_gain_88 : decode cX11_gain 88 = .ok (.ifCond .ne 7, 3) := by decide +kernel
theorem dX11_gain_91 : decode cX11_gain 91 = .ok (.iload_n 2, 1) := by decide +kernel
theorem dX11_gain_92 : decode cX11_gain 92 = .ok (.goto 4, 3) := by decide +kernel
theorem dX11_gain_95 : decode cX11_gain 95 = .ok (.iload_n 3, 1) := by decide +kernel
theorem dX11_gain_96 : decode cX11_gain 96 = .ok (.istore 7, 2) := by decide +kernel
theorem dX11_gain_98 : decode cX11_gain 98 = .ok (.iload 7, 2) := by decide +kernel
theorem dX11_gain_100 : decode cX11_gain 100 = .ok (.ifCond .ne 8, 3) := by decide +kernel
theorem dX11_gain_103 : decode cX11_gain 103 = .ok (.bipush 6, 2) := by decide +kernel
theorem dX11_gain_105 : decode cX11_gain 105 = .ok (.goto 4, 3) := by decide +kernel
theorem dX11_gain_108 : decode cX11_gain 108 = .ok (.iconst 5, 1) := by decide +kernel
theorem dX11_gain_109 : decode cX11_gain 109 = .ok (.iload 6, 2) := by decide +kernel
theorem dX11_gain_111 : decode cX11_gain 111 = .ok (.isub, 1) := by decide +kernel
theorem dX11_gain_112 : decode cX11_gain 112 = .ok (.ireturn, 1) := by decide +kernel
theorem dX11_rests_0 : decode cX11_rests 0 = .ok (.aload_n 0, 1) := by decide +kernel
theorem dX11_rests_1 : decode cX11_rests 1 = .ok (.getfield 49, 3) := by decide +kernel
theorem dX11_rests_4 : decode cX11_rests 4 = .ok (.iload_n 1, 1) := by decide +kernel
theorem dX11_rests_5 : decode cX11_rests 5 = .ok (.invokevirtual 211, 3) := by decide +kernel
theorem dX11_rests_8 : decode cX11_rests 8 = .ok (.ifCond .eq 8, 3) := by decide +kernel
theorem dX11_rests_11 : decode cX11_rests 11 = .ok (.iload_n 2, 1) := by decide +kernel
theorem dX11_rests_12 : decode cX11_rests 12 = .ok (.iconst (-1), 1) := by decide +kernel
theorem dX11_rests_13 : decode cX11_rests 13 = .ok (.if_icmp .ge 5, 3) := by decide +kernel
theorem dX11_rests_16 : decode cX11_rests 16 = .ok (.iconst (-1), 1) := by decide +kernel
theorem dX11_rests_17 : decode cX11_rests 17 = .ok (.ireturn, 1) := by decide +kernel
theorem dX11_rests_18 : decode cX11_rests 18 = .ok (.iconst 0, 1) := by decide +kernel
theorem dX11_rests_19 : decode cX11_rests 19 = .ok (.istore_n 3, 1) := by decide +kernel
theorem dX11_rests_20 : decode cX11_rests 20 = .ok (.iconst 0, 1) := by decide +kernel
theorem dX11_rests_21 : decode cX11_rests 21 = .ok (.istore 4, 2) := by decide +kernel
theorem dX11_rests_23 : decode cX11_rests 23 = .ok (.iload 4, 2) := by decide +kernel
theorem dX11_rests_25 : decode cX11_rests 25 = .ok (.iconst 2, 1) := by decide +kernel
theorem dX11_rests_26 : decode cX11_rests 26 = .ok (.if_icmp .gt 53, 3) := by decide +kernel
theorem dX11_rests_29 : decode cX11_rests 29 = .ok (.iconst 0, 1) := by decide +kernel
theorem dX11_rests_30 : decode cX11_rests 30 = .ok (.istore 5, 2) := by decide +kernel
theorem dX11_rests_32 : decode cX11_rests 32 = .ok (.iload 5, 2) := by decide +kernel
theorem dX11_rests_34 : decode cX11_rests 34 = .ok (.iconst 2, 1) := by decide +kernel
theorem dX11_rests_35 : decode cX11_rests 35 = .ok (.if_icmp .gt 38, 3) := by decide +kernel
theorem dX11_rests_38 : decode cX11_rests 38 = .ok (.aload_n 0, 1) := by decide +kernel
theorem dX11_rests_39 : decode cX11_rests 39 = .ok (.iload_n 1, 1) := by decide +kernel
theorem dX11_rests_40 : decode cX11_rests 40 = .ok (.iload 4, 2) := by decide +kernel
theorem dX11_rests_42 : decode cX11_rests 42 = .ok (.iload 5, 2) := by decide +kernel
theorem dX11_rests_44 : decode cX11_rests 44 = .ok (.invokevirtual 431, 3) := by decide +kernel
theorem dX11_rests_47 : decode cX11_rests 47 = .ok (.ifCond .eq 20, 3) := by decide +kernel
theorem dX11_rests_50 : decode cX11_rests 50 = .ok (.iload_n 3, 1) := by decide +kernel
theorem dX11_rests_51 : decode cX11_rests 51 = .ok (.iload_n 2, 1) := by decide +kernel
theorem dX11_rests_52 : decode cX11_rests 52 = .ok (.if_icmp .ne 12, 3) := by decide +kernel
theorem dX11_rests_55 : decode cX11_rests 55 = .ok (.bipush 10, 2) := by decide +kernel
theorem dX11_rests_57 : decode cX11_rests 57 = .ok (.iload 4, 2) := by decide +kernel
theorem dX11_rests_59 : decode cX11_rests 59 = .ok (.imul, 1) := by decide +kernel
theorem dX11_rests_60 : decode cX11_rests 60 = .ok (.iload 5, 2) := by decide +kernel
theorem dX11_rests_62 : decode cX11_rests 62 = .ok (.iadd, 1) := by decide +kernel
theorem dX11_rests_63 : decode cX11_rests 63 = .ok (.ireturn, 1) := by decide +kernel
theorem dX11_rests_64 : decode cX11_rests 64 = .ok (.iinc 3 1, 3) := by decide +kernel
theorem dX11_rests_67 : decode cX11_rests 67 = .ok (.iinc 5 1, 3) := by decide +kernel
theorem dX11_rests_70 : decode cX11_rests 70 = .ok (.goto (-38), 3) := by decide +kernel
theorem dX11_rests_73 : decode cX11_rests 73 = .ok (.iinc 4 1, 3) := by decide +kernel
theorem dX11_rests_76 : decode cX11_rests 76 = .ok (.goto (-53), 3) := by decide +kernel
theorem dX11_rests_79 : decode cX11_rests 79 = .ok (.iload_n 2, 1) := by decide +kernel
theorem dX11_rests_80 : decode cX11_rests 80 = .ok (.iconst (-1), 1) := by decide +kernel
theorem dX11_rests_81 : decode cX11_rests 81 = .ok (.if_icmp .ne 7, 3) := by decide +kernel
theorem dX11_rests_84 : decode cX11_rests 84 = .ok (.iload_n 3, 1) := by decide +kernel
theorem dX11_rests_85 : decode cX11_rests 85 = .ok (.goto 4, 3) := by decide +kernel
theorem dX11_rests_88 : decode cX11_rests 88 = .ok (.iconst (-1), 1) := by decide +kernel
theorem dX11_rests_89 : decode cX11_rests 89 = .ok (.ireturn, 1) := by decide +kernel
theorem dX11_isRest_0 : decode cX11_isRest 0 = .ok (.aload_n 0, 1) := by decide +kernel
theorem dX11_isRest_1 : decode cX11_isRest 1 = .ok (.iload_n 1, 1) := by decide +kernel
theorem dX11_isRest_2 : decode cX11_isRest 2 = .ok (.iload_n 2, 1) := by decide +kernel
theorem dX11_isRest_3 : decode cX11_isRest 3 = .ok (.iload_n 3, 1) := by decide +kernel
theorem dX11_isRest_4 : decode cX11_isRest 4 = .ok (.iconst 0, 1) := by decide +kernel
theorem dX11_isRest_5 : decode cX11_isRest 5 = .ok (.invokevirtual 427, 3) := by decide +kernel
theorem dX11_isRest_8 : decode cX11_isRest 8 = .ok (.istore 4, 2) := by decide +kernel
theorem dX11_isRest_10 : decode cX11_isRest 10 = .ok (.aload_n 0, 1) := by decide +kernel
theorem dX11_isRest_11 : decode cX11_isRest 11 = .ok (.iload_n 1, 1) := by decide +kernel
theorem dX11_isRest_12 : decode cX11_isRest 12 = .ok (.iload_n 2, 1) := by decide +kernel
theorem dX11_isRest_13 : decode cX11_isRest 13 = .ok (.iload_n 3, 1) := by decide +kernel
theorem dX11_isRest_14 : decode cX11_isRest 14 = .ok (.iconst 1, 1) := by decide +kernel
theorem dX11_isRest_15 : decode cX11_isRest 15 = .ok (.invokevirtual 427, 3) := by decide +kernel
theorem dX11_isRest_18 : decode cX11_isRest 18 = .ok (.istore 5, 2) := by decide +kernel
theorem dX11_isRest_20 : decode cX11_isRest 20 = .ok (.iconst 0, 1) := by decide +kernel
theorem dX11_isRest_21 : decode cX11_isRest 21 = .ok (.istore 6, 2) := by decide +kernel
theorem dX11_isRest_23 : decode cX11_isRest 23 = .ok (.iload 6, 2) := by decide +kernel
theorem dX11_isRest_25 : decode cX11_isRest 25 = .ok (.iconst 2, 1) := by decide +kernel
theorem dX11_isRest_26 : decode cX11_isRest 26 = .ok (.if_icmp .gt 39, 3) := by decide +kernel
theorem dX11_isRest_29 : decode cX11_isRest 29 = .ok (.aload_n 0, 1) := by decide +kernel
theorem dX11_isRest_30 : decode cX11_isRest 30 = .ok (.iload_n 1, 1) := by decide +kernel
theorem dX11_isRest_31 : decode cX11_isRest 31 = .ok (.iload 6, 2) := by decide +kernel
theorem dX11_isRest_33 : decode cX11_isRest 33 = .ok (.iload_n 3, 1) := by decide +kernel
theorem dX11_isRest_34 : decode cX11_isRest 34 = .ok (.iconst 0, 1) := by decide +kernel
theorem dX11_isRest_35 : decode cX11_isRest 35 = .ok (.invokevirtual 427, 3) := by decide +kernel
theorem dX11_isRest_38 : decode cX11_isRest 38 = .ok (.iload 4, 2) := by decide +kernel
theorem dX11_isRest_40 : decode cX11_isRest 40 = .ok (.if_icmp .gt 17, 3) := by decide +kernel
theorem dX11_isRest_43 : decode cX11_isRest 43 = .ok (.aload_n 0, 1) := by decide +kernel
theorem dX11_isRest_44 : decode cX11_isRest 44 = .ok (.iload_n 1, 1) := by decide +kernel
theorem dX11_isRest_45 : decode cX11_isRest 45 = .ok (.iload_n 2, 1) := by decide +kernel
theorem dX11_isRest_46 : decode cX11_isRest 46 = .ok (.iload 6, 2) := by decide +kernel
theorem dX11_isRest_48 : decode cX11_isRest 48 = .ok (.iconst 1, 1) := by decide +kernel
theorem dX11_isRest_49 : decode cX11_isRest 49 = .ok (.invokevirtual 427, 3) := by decide +kernel
theorem dX11_isRest_52 : decode cX11_isRest 52 = .ok (.iload 5, 2) := by decide +kernel
theorem dX11_isRest_54 : decode cX11_isRest 54 = .ok (.if_icmp .le 5, 3) := by decide +kernel
theorem dX11_isRest_57 : decode cX11_isRest 57 = .ok (.iconst 0, 1) := by decide +kernel
theorem dX11_isRest_58 : decode cX11_isRest 58 = .ok (.ireturn, 1) := by decide +kernel
theorem dX11_isRest_59 : decode cX11_isRest 59 = .ok (.iinc 6 1, 3) := by decide +kernel
theorem dX11_isRest_62 : decode cX11_isRest 62 = .ok (.goto (-39), 3) := by decide +kernel
theorem dX11_isRest_65 : decode cX11_isRest 65 = .ok (.iconst 1, 1) := by decide +kernel
theorem dX11_isRest_66 : decode cX11_isRest 66 = .ok (.ireturn, 1) := by decide +kernel
theorem dX11_odds_0 : decode cX11_odds 0 = .ok (.aload_n 0, 1) := by decide +kernel
theorem dX11_odds_1 : decode cX11_odds 1 = .ok (.invokevirtual 176, 3) := by decide +kernel
theorem dX11_odds_4 : decode cX11_odds 4 = .ok (.ifCond .eq 31, 3) := by decide +kernel
theorem dX11_odds_7 : decode cX11_odds 7 = .ok (.aload_n 0, 1) := by decide +kernel
theorem dX11_odds_8 : decode cX11_odds 8 = .ok (.iload_n 1, 1) := by decide +kernel
theorem dX11_odds_9 : decode cX11_odds 9 = .ok (.invokevirtual 217, 3) := by decide +kernel
theorem dX11_odds_12 : decode cX11_odds 12 = .ok (.ifCond .eq 23, 3) := by decide +kernel
theorem dX11_odds_15 : decode cX11_odds 15 = .ok (.iload_n 2, 1) := by decide +kernel
theorem dX11_odds_16 : decode cX11_odds 16 = .ok (.ifCond .lt 19, 3) := by decide +kernel
theorem dX11_odds_19 : decode cX11_odds 19 = .ok (.iload_n 2, 1) := by decide +kernel
theorem dX11_odds_20 : decode cX11_odds 20 = .ok (.bipush 100, 2) := by decide +kernel
theorem dX11_odds_22 : decode cX11_odds 22 = .ok (.if_icmp .gt 13, 3) := by decide +kernel
theorem dX11_odds_25 : decode cX11_odds 25 = .ok (.iload_n 3, 1) := by decide +kernel
theorem dX11_odds_26 : decode cX11_odds 26 = .ok (.ifCond .lt 9, 3) := by decide +kernel
theorem dX11_odds_29 : decode cX11_odds 29 = .ok (.iload_n 3, 1) := by decide +kernel
theorem dX11_odds_30 : decode cX11_odds 30 = .ok (.bipush 60, 2) := by decide +kernel
theorem dX11_odds_32 : decode cX11_odds 32 = .ok (.if_icmp .le 5, 3) := by decide +kernel
theorem dX11_odds_35 : decode cX11_odds 35 = .ok (.iconst (-1), 1) := by decide +kernel
theorem dX11_odds_36 : decode cX11_odds 36 = .ok (.ireturn, 1) := by decide +kernel
theorem dX11_odds_37 : decode cX11_odds 37 = .ok (.aload_n 0, 1) := by decide +kernel
theorem dX11_odds_38 : decode cX11_odds 38 = .ok (.getfield 75, 3) := by decide +kernel
theorem dX11_odds_41 : decode cX11_odds 41 = .ok (.iload_n 1, 1) := by decide +kernel
theorem dX11_odds_42 : decode cX11_odds 42 = .ok (.aaload, 1) := by decide +kernel
theorem dX11_odds_43 : decode cX11_odds 43 = .ok (.astore 4, 2) := by decide +kernel
theorem dX11_odds_45 : decode cX11_odds 45 = .ok (.aload 4, 2) := by decide +kernel
theorem dX11_odds_47 : decode cX11_odds 47 = .ok (.getfield 220, 3) := by decide +kernel
theorem dX11_odds_50 : decode cX11_odds 50 = .ok (.bipush 8, 2) := by decide +kernel
theorem dX11_odds_52 : decode cX11_odds 52 = .ok (.if_icmp .le 5, 3) := by decide +kernel
theorem dX11_odds_55 : decode cX11_odds 55 = .ok (.iconst (-1), 1) := by decide +kernel
theorem dX11_odds_56 : decode cX11_odds 56 = .ok (.ireturn, 1) := by decide +kernel
theorem dX11_odds_57 : decode cX11_odds 57 = .ok (.aload_n 0, 1) := by decide +kernel
theorem dX11_odds_58 : decode cX11_odds 58 = .ok (.getfield 86, 3) := by decide +kernel
theorem dX11_odds_61 : decode cX11_odds 61 = .ok (.iconst 0, 1) := by decide +kernel
theorem dX11_odds_62 : decode cX11_odds 62 = .ok (.aaload, 1) := by decide +kernel
theorem dX11_odds_63 : decode cX11_odds 63 = .ok (.aload_n 0, 1) := by decide +kernel
theorem dX11_odds_64 : decode cX11_odds 64 = .ok (.getfield 49, 3) := by decide +kernel
theorem dX11_odds_67 : decode cX11_odds 67 = .ok (.invokevirtual 409, 3) := by decide +kernel
theorem dX11_odds_70 : decode cX11_odds 70 = .ok (.aload_n 0, 1) := by decide +kernel
theorem dX11_odds_71 : decode cX11_odds 71 = .ok (.iconst 0, 1) := by decide +kernel
theorem dX11_odds_72 : decode cX11_odds 72 = .ok (.ldc2_w 435, 3) := by decide +kernel
theorem dX11_odds_75 : decode cX11_odds 75 = .ok (.aload 4, 2) := by decide +kernel
theorem dX11_odds_77 : decode cX11_odds 77 = .ok (.iload_n 2, 1) := by decide +kernel
theorem dX11_odds_78 : decode cX11_odds 78 = .ok (.iload_n 3, 1) := by decide +kernel
theorem dX11_odds_79 : decode cX11_odds 79 = .ok (.invokevirtual 437, 3) := by decide +kernel
theorem dX11_odds_82 : decode cX11_odds 82 = .ok (.l2i, 1) := by decide +kernel
theorem dX11_odds_83 : decode cX11_odds 83 = .ok (.ireturn, 1) := by decide +kernel
theorem dX11_fewFrom_0 : decode cX11_fewFrom 0 = .ok (.lload_n 2, 1) := by decide +kernel
theorem dX11_fewFrom_1 : decode cX11_fewFrom 1 = .ok (.lconst 0, 1) := by decide +kernel
theorem dX11_fewFrom_2 : decode cX11_fewFrom 2 = .ok (.lcmp, 1) := by decide +kernel
theorem dX11_fewFrom_3 : decode cX11_fewFrom 3 = .ok (.ifCond .eq 13, 3) := by decide +kernel
theorem dX11_fewFrom_6 : decode cX11_fewFrom 6 = .ok (.iload_n 1, 1) := by decide +kernel
theorem dX11_fewFrom_7 : decode cX11_fewFrom 7 = .ok (.ifCond .lt 9, 3) := by decide +kernel
theorem dX11_fewFrom_10 : decode cX11_fewFrom 10 = .ok (.iload_n 1, 1) := by decide +kernel
theorem dX11_fewFrom_11 : decode cX11_fewFrom 11 = .ok (.bipush 8, 2) := by decide +kernel
theorem dX11_fewFrom_13 : decode cX11_fewFrom 13 = .ok (.if_icmp .le 5, 3) := by decide +kernel
theorem dX11_fewFrom_16 : decode cX11_fewFrom 16 = .ok (.lconst 0, 1) := by decide +kernel
theorem dX11_fewFrom_17 : decode cX11_fewFrom 17 = .ok (.lreturn, 1) := by decide +kernel
theorem dX11_fewFrom_18 : decode cX11_fewFrom 18 = .ok (.iload_n 1, 1) := by decide +kernel
theorem dX11_fewFrom_19 : decode cX11_fewFrom 19 = .ok (.aload 4, 2) := by decide +kernel
theorem dX11_fewFrom_21 : decode cX11_fewFrom 21 = .ok (.getfield 220, 3) := by decide +kernel
theorem dX11_fewFrom_24 : decode cX11_fewFrom 24 = .ok (.if_icmp .lt 23, 3) := by decide +kernel
theorem dX11_fewFrom_27 : decode cX11_fewFrom 27 = .ok (.aload_n 0, 1) := by decide +kernel
theorem dX11_fewFrom_28 : decode cX11_fewFrom 28 = .ok (.getfield 86, 3) := by decide +kernel
theorem dX11_fewFrom_31 : decode cX11_fewFrom 31 = .ok (.iload_n 1, 1) := by decide +kernel
theorem dX11_fewFrom_32 : decode cX11_fewFrom 32 = .ok (.aaload, 1) := by decide +kernel
theorem dX11_fewFrom_33 : decode cX11_fewFrom 33 = .ok (.getfield 224, 3) := by decide +kernel
theorem dX11_fewFrom_36 : decode cX11_fewFrom 36 = .ok (.iload 6, 2) := by decide +kernel
theorem dX11_fewFrom_38 : decode cX11_fewFrom 38 = .ok (.if_icmp .gt 7, 3) := by decide +kernel
theorem dX11_fewFrom_41 : decode cX11_fewFrom 41 = .ok (.lload_n 2, 1) := by decide +kernel
theorem dX11_fewFrom_42 : decode cX11_fewFrom 42 = .ok (.goto 4, 3) := by decide +kernel
theorem dX11_fewFrom_45 : decode cX11_fewFrom 45 = .ok (.lconst 0, 1) := by decide +kernel
theorem dX11_fewFrom_46 : decode cX11_fewFrom 46 = .ok (.lreturn, 1) := by decide +kernel
theorem dX11_fewFrom_47 : decode cX11_fewFrom 47 = .ok (.aload 4, 2) := by decide +kernel
theorem dX11_fewFrom_49 : decode cX11_fewFrom 49 = .ok (.iload_n 1, 1) := by decide +kernel
theorem dX11_fewFrom_50 : decode cX11_fewFrom 50 = .ok (.invokevirtual 221, 3) := by decide +kernel
theorem dX11_fewFrom_53 : decode cX11_fewFrom 53 = .ok (.istore 7, 2) := by decide +kernel
theorem dX11_fewFrom_55 : decode cX11_fewFrom 55 = .ok (.aload_n 0, 1) := by decide +kernel
theorem dX11_fewFrom_56 : decode cX11_fewFrom 56 = .ok (.getfield 86, 3) := by decide +kernel
theorem dX11_fewFrom_59 : decode cX11_fewFrom 59 = .ok (.iload_n 1, 1) := by decide +kernel
theorem dX11_fewFrom_60 : decode cX11_fewFrom 60 = .ok (.aaload, 1) := by decide +kernel
theorem dX11_fewFrom_61 : decode cX11_fewFrom 61 = .ok (.iload 7, 2) := by decide +kernel
theorem dX11_fewFrom_63 : decode cX11_fewFrom 63 = .ok (.iconst 1, 1) := by decide +kernel
theorem dX11_fewFrom_64 : decode cX11_fewFrom 64 = .ok (.ishr, 1) := by decide +kernel
theorem dX11_fewFrom_65 : decode cX11_fewFrom 65 = .ok (.invokevirtual 211, 3) := by decide +kernel
theorem dX11_fewFrom_68 : decode cX11_fewFrom 68 = .ok (.ifCond .ne 18, 3) := by decide +kernel
theorem dX11_fewFrom_71 : decode cX11_fewFrom 71 = .ok (.aload_n 0, 1) := by decide +kernel
theorem dX11_fewFrom_72 : decode cX11_fewFrom 72 = .ok (.iload_n 1, 1) := by decide +kernel
theorem dX11_fewFrom_73 : decode cX11_fewFrom 73 = .ok (.iload 7, 2) := by decide +kernel
theorem dX11_fewFrom_75 : decode cX11_fewFrom 75 = .ok (.lload_n 2, 1) := by decide +kernel
theorem dX11_fewFrom_76 : decode cX11_fewFrom 76 = .ok (.aload 4, 2) := by decide +kernel
theorem dX11_fewFrom_78 : decode cX11_fewFrom 78 = .ok (.iload 5, 2) := by decide +kernel
theorem dX11_fewFrom_80 : decode cX11_fewFrom 80 = .ok (.iload 6, 2) := by decide +kernel
theorem dX11_fewFrom_82 : decode cX11_fewFrom 82 = .ok (.invokevirtual 441, 3) := by decide +kernel
theorem dX11_fewFrom_85 : decode cX11_fewFrom 85 = .ok (.lreturn, 1) := by decide +kernel
theorem dX11_fewFrom_86 : decode cX11_fewFrom 86 = .ok (.lload_n 2, 1) := by decide +kernel
theorem dX11_fewFrom_87 : decode cX11_fewFrom 87 = .ok (.iload 5, 2) := by decide +kernel
theorem dX11_fewFrom_89 : decode cX11_fewFrom 89 = .ok (.i2l, 1) := by decide +kernel
theorem dX11_fewFrom_90 : decode cX11_fewFrom 90 = .ok (.lmul, 1) := by decide +kernel
theorem dX11_fewFrom_91 : decode cX11_fewFrom 91 = .ok (.ldc2_w 445, 3) := by decide +kernel
theorem dX11_fewFrom_94 : decode cX11_fewFrom 94 = .ok (.ldiv, 1) := by decide +kernel
theorem dX11_fewFrom_95 : decode cX11_fewFrom 95 = .ok (.lstore 8, 2) := by decide +kernel
theorem dX11_fewFrom_97 : decode cX11_fewFrom 97 = .ok (.aload_n 0, 1) := by decide +kernel
theorem dX11_fewFrom_98 : decode cX11_fewFrom 98 = .ok (.iload_n 1, 1) := by decide +kernel
theorem dX11_fewFrom_99 : decode cX11_fewFrom 99 = .ok (.iload 7, 2) := by decide +kernel
theorem dX11_fewFrom_101 : decode cX11_fewFrom 101 = .ok (.lload_n 2, 1) := by decide +kernel
theorem dX11_fewFrom_102 : decode cX11_fewFrom 102 = .ok (.lload 8, 2) := by decide +kernel
theorem dX11_fewFrom_104 : decode cX11_fewFrom 104 = .ok (.lsub, 1) := by decide +kernel
theorem dX11_fewFrom_105 : decode cX11_fewFrom 105 = .ok (.aload 4, 2) := by decide +kernel
theorem dX11_fewFrom_107 : decode cX11_fewFrom 107 = .ok (.iload 5, 2) := by decide +kernel
theorem dX11_fewFrom_109 : decode cX11_fewFrom 109 = .ok (.iload 6, 2) := by decide +kernel
theorem dX11_fewFrom_111 : decode cX11_fewFrom 111 = .ok (.invokevirtual 441, 3) := by decide +kernel
theorem dX11_fewFrom_114 : decode cX11_fewFrom 114 = .ok (.aload_n 0, 1) := by decide +kernel
theorem dX11_fewFrom_115 : decode cX11_fewFrom 115 = .ok (.iload_n 1, 1) := by decide +kernel
theorem dX11_fewFrom_116 : decode cX11_fewFrom 116 = .ok (.iload 7, 2) := by decide +kernel
theorem dX11_fewFrom_118 : decode cX11_fewFrom 118 = .ok (.iconst 1, 1) := by decide +kernel
theorem dX11_fewFrom_119 : decode cX11_fewFrom 119 = .ok (.ixor, 1) := by decide +kernel
theorem dX11_fewFrom_120 : decode cX11_fewFrom 120 = .ok (.lload 8, 2) := by decide +kernel
theorem dX11_fewFrom_122 : decode cX11_fewFrom 122 = .ok (.aload 4, 2) := by decide +kernel
theorem dX11_fewFrom_124 : decode cX11_fewFrom 124 = .ok (.iload 5, 2) := by decide +kernel
theorem dX11_fewFrom_126 : decode cX11_fewFrom 126 = .ok (.iload 6, 2) := by decide +kernel
theorem dX11_fewFrom_128 : decode cX11_fewFrom 128 = .ok (.invokevirtual 441, 3) := by decide +kernel
theorem dX11_fewFrom_131 : decode cX11_fewFrom 131 = .ok (.ladd, 1) := by decide +kernel
theorem dX11_fewFrom_132 : decode cX11_fewFrom 132 = .ok (.lreturn, 1) := by decide +kernel
theorem dX11_fewBy_0 : decode cX11_fewBy 0 = .ok (.lload_n 3, 1) := by decide +kernel
theorem dX11_fewBy_1 : decode cX11_fewBy 1 = .ok (.lconst 0, 1) := by decide +kernel
theorem dX11_fewBy_2 : decode cX11_fewBy 2 = .ok (.lcmp, 1) := by decide +kernel
theorem dX11_fewBy_3 : decode cX11_fewBy 3 = .ok (.ifCond .eq 13, 3) := by decide +kernel
theorem dX11_fewBy_6 : decode cX11_fewBy 6 = .ok (.iload_n 1, 1) := by decide +kernel
theorem dX11_fewBy_7 : decode cX11_fewBy 7 = .ok (.ifCond .lt 9, 3) := by decide +kernel
theorem dX11_fewBy_10 : decode cX11_fewBy 10 = .ok (.iload_n 1, 1) := by decide +kernel
theorem dX11_fewBy_11 : decode cX11_fewBy 11 = .ok (.bipush 8, 2) := by decide +kernel
theorem dX11_fewBy_13 : decode cX11_fewBy 13 = .ok (.if_icmp .lt 5, 3) := by decide +kernel
theorem dX11_fewBy_16 : decode cX11_fewBy 16 = .ok (.lconst 0, 1) := by decide +kernel
theorem dX11_fewBy_17 : decode cX11_fewBy 17 = .ok (.lreturn, 1) := by decide +kernel
theorem dX11_fewBy_18 : decode cX11_fewBy 18 = .ok (.aload_n 0, 1) := by decide +kernel
theorem dX11_fewBy_19 : decode cX11_fewBy 19 = .ok (.getfield 86, 3) := by decide +kernel
theorem dX11_fewBy_22 : decode cX11_fewBy 22 = .ok (.iload_n 1, 1) := by decide +kernel
theorem dX11_fewBy_23 : decode cX11_fewBy 23 = .ok (.iconst 1, 1) := by decide +kernel
theorem dX11_fewBy_24 : decode cX11_fewBy 24 = .ok (.iadd, 1) := by decide +kernel
theorem dX11_fewBy_25 : decode cX11_fewBy 25 = .ok (.aaload, 1) := by decide +kernel
theorem dX11_fewBy_26 : decode cX11_fewBy 26 = .ok (.aload_n 0, 1) := by decide +kernel
theorem dX11_fewBy_27 : decode cX11_fewBy 27 = .ok (.getfield 86, 3) := by decide +kernel
theorem dX11_fewBy_30 : decode cX11_fewBy 30 = .ok (.iload_n 1, 1) := by decide +kernel
theorem dX11_fewBy_31 : decode cX11_fewBy 31 = .ok (.aaload, 1) := by decide +kernel
theorem dX11_fewBy_32 : decode cX11_fewBy 32 = .ok (.invokevirtual 409, 3) := by decide +kernel
theorem dX11_fewBy_35 : decode cX11_fewBy 35 = .ok (.aload_n 0, 1) := by decide +kernel
theorem dX11_fewBy_36 : decode cX11_fewBy 36 = .ok (.getfield 86, 3) := by decide +kernel
theorem dX11_fewBy_39 : decode cX11_fewBy 39 = .ok (.iload_n 1, 1) := by decide +kernel
theorem dX11_fewBy_40 : decode cX11_fewBy 40 = .ok (.iconst 1, 1) := by decide +kernel
theorem dX11_fewBy_41 : decode cX11_fewBy 41 = .ok (.iadd, 1) := by decide +kernel
theorem dX11_fewBy_42 : decode cX11_fewBy 42 = .ok (.aaload, 1) := by decide +kernel
theorem dX11_fewBy_43 : decode cX11_fewBy 43 = .ok (.iload_n 2, 1) := by decide +kernel
theorem dX11_fewBy_44 : decode cX11_fewBy 44 = .ok (.invokevirtual 388, 3) := by decide +kernel
theorem dX11_fewBy_47 : decode cX11_fewBy 47 = .ok (.aload_n 0, 1) := by decide +kernel
theorem dX11_fewBy_48 : decode cX11_fewBy 48 = .ok (.iload_n 1, 1) := by decide +kernel
theorem dX11_fewBy_49 : decode cX11_fewBy 49 = .ok (.iconst 1, 1) := by decide +kernel
theorem dX11_fewBy_50 : decode cX11_fewBy 50 = .ok (.iadd, 1) := by decide +kernel
theorem dX11_fewBy_51 : decode cX11_fewBy 51 = .ok (.lload_n 3, 1) := by decide +kernel
theorem dX11_fewBy_52 : decode cX11_fewBy 52 = .ok (.aload 5, 2) := by decide +kernel
theorem dX11_fewBy_54 : decode cX11_fewBy 54 = .ok (.iload 6, 2) := by decide +kernel
theorem dX11_fewBy_56 : decode cX11_fewBy 56 = .ok (.iload 7, 2) := by decide +kernel
theorem dX11_fewBy_58 : decode cX11_fewBy 58 = .ok (.invokevirtual 437, 3) := by decide +kernel
theorem dX11_fewBy_61 : decode cX11_fewBy 61 = .ok (.lreturn, 1) := by decide +kernel
