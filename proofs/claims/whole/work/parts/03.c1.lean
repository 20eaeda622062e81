theorem dX7_copyFrom_15 : decode cX7_copyFrom 15 = .ok (.bipush 60, 2) := by decide +kernel
theorem dX7_copyFrom_17 : decode cX7_copyFrom 17 = .ok (.invokestatic 50, 3) := by decide +kernel
theorem dX7_copyFrom_20 : decode cX7_copyFrom 20 = .ok (.return_, 1) := by decide +kernel
theorem dX7_hasPlace_0 : decode cX7_hasPlace 0 = .ok (.iload_n 1, 1) := by decide +kernel
theorem dX7_hasPlace_1 : decode cX7_hasPlace 1 = .ok (.ifCond .lt 15, 3) := by decide +kernel
theorem dX7_hasPlace_4 : decode cX7_hasPlace 4 = .ok (.iload_n 1, 1) := by decide +kernel
theorem dX7_hasPlace_5 : decode cX7_hasPlace 5 = .ok (.aload_n 0, 1) := by decide +kernel
theorem dX7_hasPlace_6 : decode cX7_hasPlace 6 = .ok (.getfield 30, 3) := by decide +kernel
theorem dX7_hasPlace_9 : decode cX7_hasPlace 9 = .ok (.if_icmp .ge 7, 3) := by decide +kernel
theorem dX7_hasPlace_12 : decode cX7_hasPlace 12 = .ok (.iconst 1, 1) := by decide +kernel
theorem dX7_hasPlace_13 : decode cX7_hasPlace 13 = .ok (.goto 4, 3) := by decide +kernel
theorem dX7_hasPlace_16 : decode cX7_hasPlace 16 = .ok (.iconst 0, 1) := by decide +kernel
theorem dX7_hasPlace_17 : decode cX7_hasPlace 17 = .ok (.ireturn, 1) := by decide +kernel
theorem dX7_nextPlace_0 : decode cX7_nextPlace 0 = .ok (.iload_n 1, 1) := by decide +kernel
theorem dX7_nextPlace_1 : decode cX7_nextPlace 1 = .ok (.iconst 1, 1) := by decide +kernel
theorem dX7_nextPlace_2 : decode cX7_nextPlace 2 = .ok (.iadd, 1) := by decide +kernel
theorem dX7_nextPlace_3 : decode cX7_nextPlace 3 = .ok (.aload_n 0, 1) := by decide +kernel
theorem dX7_nextPlace_4 : decode cX7_nextPlace 4 = .ok (.getfield 30, 3) := by decide +kernel
theorem dX7_nextPlace_7 : decode cX7_nextPlace 7 = .ok (.if_icmp .ge 9, 3) := by decide +kernel
theorem dX7_nextPlace_10 : decode cX7_nextPlace 10 = .ok (.iload_n 1, 1) := by decide +kernel
theorem dX7_nextPlace_11 : decode cX7_nextPlace 11 = .ok (.iconst 1, 1) := by decide +kernel
theorem dX7_nextPlace_12 : decode cX7_nextPlace 12 = .ok (.iadd, 1) := by decide +kernel
theorem dX7_nextPlace_13 : decode cX7_nextPlace 13 = .ok (.goto 4, 3) := by decide +kernel
theorem dX7_nextPlace_16 : decode cX7_nextPlace 16 = .ok (.iconst 0, 1) := by decide +kernel
theorem dX7_nextPlace_17 : decode cX7_nextPlace 17 = .ok (.ireturn, 1) := by decide +kernel
theorem dX7_nearOf_0 : decode cX7_nearOf 0 = .ok (.iload_n 1, 1) := by decide +kernel
theorem dX7_nearOf_1 : decode cX7_nearOf 1 = .ok (.ifCond .le 9, 3) := by decide +kernel
theorem dX7_nearOf_4 : decode cX7_nearOf 4 = .ok (.iload_n 1, 1) := by decide +kernel
theorem dX7_nearOf_5 : decode cX7_nearOf 5 = .ok (.iconst 1, 1) := by decide +kernel
theorem dX7_nearOf_6 : decode cX7_nearOf 6 = .ok (.isub, 1) := by decide +kernel
theorem dX7_nearOf_7 : decode cX7_nearOf 7 = .ok (.goto 9, 3) := by decide +kernel
theorem dX7_nearOf_10 : decode cX7_nearOf 10 = .ok (.aload_n 0, 1) := by decide +kernel
theorem dX7_nearOf_11 : decode cX7_nearOf 11 = .ok (.getfield 30, 3) := by decide +kernel
theorem dX7_nearOf_14 : decode cX7_nearOf 14 = .ok (.iconst 1, 1) := by decide +kernel
theorem dX7_nearOf_15 : decode cX7_nearOf 15 = .ok (.isub, 1) := by decide +kernel
theorem dX7_nearOf_16 : decode cX7_nearOf 16 = .ok (.istore_n 2, 1) := by decide +kernel
theorem dX7_nearOf_17 : decode cX7_nearOf 17 = .ok (.iconst 1, 1) := by decide +kernel
theorem dX7_nearOf_18 : decode cX7_nearOf 18 = .ok (.iload_n 2, 1) := by decide +kernel
theorem dX7_nearOf_19 : decode cX7_nearOf 19 = .ok (.ishl, 1) := by decide +kernel
theorem dX7_nearOf_20 : decode cX7_nearOf 20 = .ok (.iconst 1, 1) := by decide +kernel
theorem dX7_nearOf_21 : decode cX7_nearOf 21 = .ok (.iload_n 1, 1) := by decide +kernel
theorem dX7_nearOf_22 : decode cX7_nearOf 22 = .ok (.ishl, 1) := by decide +kernel
theorem dX7_nearOf_23 : decode cX7_nearOf 23 = .ok (.ior, 1) := by decide +kernel
theorem dX7_nearOf_24 : decode cX7_nearOf 24 = .ok (.iconst 1, 1) := by decide +kernel
theorem dX7_nearOf_25 : decode cX7_nearOf 25 = .ok (.aload_n 0, 1) := by decide +kernel
theorem dX7_nearOf_26 : decode cX7_nearOf 26 = .ok (.iload_n 1, 1) := by decide +kernel
theorem dX7_nearOf_27 : decode cX7_nearOf 27 = .ok (.invokevirtual 60, 3) := by decide +kernel
theorem dX7_nearOf_30 : decode cX7_nearOf 30 = .ok (.ishl, 1) := by decide +kernel
theorem dX7_nearOf_31 : decode cX7_nearOf 31 = .ok (.ior, 1) := by decide +kernel
theorem dX7_nearOf_32 : decode cX7_nearOf 32 = .ok (.ireturn, 1) := by decide +kernel
theorem dX7_placeOf_0 : decode cX7_placeOf 0 = .ok (.iconst 0, 1) := by decide +kernel
theorem dX7_placeOf_1 : decode cX7_placeOf 1 = .ok (.istore_n 2, 1) := by decide +kernel
theorem dX7_placeOf_2 : decode cX7_placeOf 2 = .ok (.iload_n 2, 1) := by decide +kernel
theorem dX7_placeOf_3 : decode cX7_placeOf 3 = .ok (.aload_n 0, 1) := by decide +kernel
theorem dX7_placeOf_4 : decode cX7_placeOf 4 = .ok (.getfield 30, 3) := by decide +kernel
theorem dX7_placeOf_7 : decode cX7_placeOf 7 = .ok (.if_icmp .ge 21, 3) := by decide +kernel
theorem dX7_placeOf_10 : decode cX7_placeOf 10 = .ok (.aload_n 0, 1) := by decide +kernel
theorem dX7_placeOf_11 : decode cX7_placeOf 11 = .ok (.getfield 9, 3) := by decide +kernel
theorem dX7_placeOf_14 : decode cX7_placeOf 14 = .ok (.iload_n 2, 1) := by decide +kernel
theorem dX7_placeOf_15 : decode cX7_placeOf 15 = .ok (.iaload, 1) := by decide +kernel
theorem dX7_placeOf_16 : decode cX7_placeOf 16 = .ok (.iload_n 1, 1) := by decide +kernel
theorem dX7_placeOf_17 : decode cX7_placeOf 17 = .ok (.if_icmp .ne 5, 3) := by decide +kernel
theorem dX7_placeOf_20 : decode cX7_placeOf 20 = .ok (.iload_n 2, 1) := by decide +kernel
theorem dX7_placeOf_21 : decode cX7_placeOf 21 = .ok (.ireturn, 1) := by decide +kernel
theorem dX7_placeOf_22 : decode cX7_placeOf 22 = .ok (.iinc 2 1, 3) := by decide +kernel
theorem dX7_placeOf_25 : decode cX7_placeOf 25 = .ok (.goto (-23), 3) := by decide +kernel
theorem dX7_placeOf_28 : decode cX7_placeOf 28 = .ok (.iconst (-1), 1) := by decide +kernel
theorem dX7_placeOf_29 : decode cX7_placeOf 29 = .ok (.ireturn, 1) := by decide +kernel
theorem dX7_overBy_0 : decode cX7_overBy 0 = .ok (.iload_n 1, 1) := by decide +kernel
theorem dX7_overBy_1 : decode cX7_overBy 1 = .ok (.iconst 1, 1) := by decide +kernel
theorem dX7_overBy_2 : decode cX7_overBy 2 = .ok (.ishr, 1) := by decide +kernel
theorem dX7_overBy_3 : decode cX7_overBy 3 = .ok (.bipush 7, 2) := by decide +kernel
theorem dX7_overBy_5 : decode cX7_overBy 5 = .ok (.iand, 1) := by decide +kernel
theorem dX7_overBy_6 : decode cX7_overBy 6 = .ok (.istore_n 2, 1) := by decide +kernel
theorem dX7_overBy_7 : decode cX7_overBy 7 = .ok (.aload_n 0, 1) := by decide +kernel
theorem dX7_overBy_8 : decode cX7_overBy 8 = .ok (.getfield 9, 3) := by decide +kernel
theorem dX7_overBy_11 : decode cX7_overBy 11 = .ok (.iload_n 1, 1) := by decide +kernel
theorem dX7_overBy_12 : decode cX7_overBy 12 = .ok (.iconst 1, 1) := by decide +kernel
theorem dX7_overBy_13 : decode cX7_overBy 13 = .ok (.iand, 1) := by decide +kernel
theorem dX7_overBy_14 : decode cX7_overBy 14 = .ok (.ifCond .ne 7, 3) := by decide +kernel
theorem dX7_overBy_17 : decode cX7_overBy 17 = .ok (.iload_n 2, 1) := by decide +kernel
theorem dX7_overBy_18 : decode cX7_overBy 18 = .ok (.goto 8, 3) := by decide +kernel
theorem dX7_overBy_21 : decode cX7_overBy 21 = .ok (.aload_n 0, 1) := by decide +kernel
theorem dX7_overBy_22 : decode cX7_overBy 22 = .ok (.iload_n 2, 1) := by decide +kernel
theorem dX7_overBy_23 : decode cX7_overBy 23 = .ok (.invokevirtual 60, 3) := by decide +kernel
theorem dX7_overBy_26 : decode cX7_overBy 26 = .ok (.iaload, 1) := by decide +kernel
theorem dX7_overBy_27 : decode cX7_overBy 27 = .ok (.ireturn, 1) := by decide +kernel
theorem dX7_underBy_0 : decode cX7_underBy 0 = .ok (.aload_n 0, 1) := by decide +kernel
theorem dX7_underBy_1 : decode cX7_underBy 1 = .ok (.iload_n 1, 1) := by decide +kernel
theorem dX7_underBy_2 : decode cX7_underBy 2 = .ok (.iconst 1, 1) := by decide +kernel
theorem dX7_underBy_3 : decode cX7_underBy 3 = .ok (.ixor, 1) := by decide +kernel
theorem dX7_underBy_4 : decode cX7_underBy 4 = .ok (.invokevirtual 64, 3) := by decide +kernel
theorem dX7_underBy_7 : decode cX7_underBy 7 = .ok (.ireturn, 1) := by decide +kernel
theorem dX7_undoneBy_0 : decode cX7_undoneBy 0 = .ok (.aload_n 0, 1) := by decide +kernel
theorem dX7_undoneBy_1 : decode cX7_undoneBy 1 = .ok (.iload_n 1, 1) := by decide +kernel
theorem dX7_undoneBy_2 : decode cX7_undoneBy 2 = .ok (.iconst 1, 1) := by decide +kernel
theorem dX7_undoneBy_3 : decode cX7_undoneBy 3 = .ok (.ishr, 1) := by decide +kernel
theorem dX7_undoneBy_4 : decode cX7_undoneBy 4 = .ok (.invokevirtual 67, 3) := by decide +kernel
theorem dX7_undoneBy_7 : decode cX7_undoneBy 7 = .ok (.istore_n 2, 1) := by decide +kernel
theorem dX7_undoneBy_8 : decode cX7_undoneBy 8 = .ok (.aload_n 0, 1) := by decide +kernel
theorem dX7_undoneBy_9 : decode cX7_undoneBy 9 = .ok (.getfield 33, 3) := by decide +kernel
theorem dX7_undoneBy_12 : decode cX7_undoneBy 12 = .ok (.iconst 1, 1) := by decide +kernel
theorem dX7_undoneBy_13 : decode cX7_undoneBy 13 = .ok (.isub, 1) := by decide +kernel
theorem dX7_undoneBy_14 : decode cX7_undoneBy 14 = .ok (.istore_n 3, 1) := by decide +kernel
theorem dX7_undoneBy_15 : decode cX7_undoneBy 15 = .ok (.iload_n 3, 1) := by decide +kernel
theorem dX7_undoneBy_16 : decode cX7_undoneBy 16 = .ok (.ifCond .lt 46, 3) := by decide +kernel
theorem dX7_undoneBy_19 : decode cX7_undoneBy 19 = .ok (.iload_n 2, 1) := by decide +kernel
theorem dX7_undoneBy_20 : decode cX7_undoneBy 20 = .ok (.aload_n 0, 1) := by decide +kernel
theorem dX7_undoneBy_21 : decode cX7_undoneBy 21 = .ok (.getfield 18, 3) := by decide +kernel
theorem dX7_undoneBy_24 : decode cX7_undoneBy 24 = .ok (.iload_n 3, 1) := by decide +kernel
theorem dX7_undoneBy_25 : decode cX7_undoneBy 25 = .ok (.iaload, 1) := by decide +kernel
theorem dX7_undoneBy_26 : decode cX7_undoneBy 26 = .ok (.invokestatic 70, 3) := by decide +kernel
theorem dX7_undoneBy_29 : decode cX7_undoneBy 29 = .ok (.ishr, 1) := by decide +kernel
theorem dX7_undoneBy_30 : decode cX7_undoneBy 30 = .ok (.iconst 1, 1) := by decide +kernel
theorem dX7_undoneBy_31 : decode cX7_undoneBy 31 = .ok (.iand, 1) := by decide +kernel
theorem dX7_undoneBy_32 : decode cX7_undoneBy 32 = .ok (.ifCond .eq 24, 3) := by decide +kernel
theorem dX7_undoneBy_35 : decode cX7_undoneBy 35 = .ok (.aload_n 0, 1) := by decide +kernel
theorem dX7_undoneBy_36 : decode cX7_undoneBy 36 = .ok (.getfield 18, 3) := by decide +kernel
theorem dX7_undoneBy_39 : decode cX7_undoneBy 39 = .ok (.iload_n 3, 1) := by decide +kernel
theorem dX7_undoneBy_40 : decode cX7_undoneBy 40 = .ok (.iaload, 1) := by decide +kernel
theorem dX7_undoneBy_41 : decode cX7_undoneBy 41 = .ok (.invokestatic 73, 3) := by decide +kernel
theorem dX7_undoneBy_44 : decode cX7_undoneBy 44 = .ok (.iload_n 1, 1) := by decide +kernel
theorem dX7_undoneBy_45 : decode cX7_undoneBy 45 = .ok (.iconst 1, 1) := by decide +kernel
theorem dX7_undoneBy_46 : decode cX7_undoneBy 46 = .ok (.ixor, 1) := by decide +kernel
theorem dX7_undoneBy_47 : decode cX7_undoneBy 47 = .ok (.if_icmp .ne 7, 3) := by decide +kernel
theorem dX7_undoneBy_50 : decode cX7_undoneBy 50 = .ok (.iload_n 3, 1) := by decide +kernel
theorem dX7_undoneBy_51 : decode cX7_undoneBy 51 = .ok (.goto 4, 3) := by decide +kernel
theorem dX7_undoneBy_54 : decode cX7_undoneBy 54 = .ok (.iconst (-1), 1) := by decide +kernel
theorem dX7_undoneBy_55 : decode cX7_undoneBy 55 = .ok (.ireturn, 1) := by decide +kernel
theorem dX7_undoneBy_56 : decode cX7_undoneBy 56 = .ok (.iinc 3 (-1), 3) := by decide +kernel
theorem dX7_undoneBy_59 : decode cX7_undoneBy 59 = .ok (.goto (-44), 3) := by decide +kernel
theorem dX7_undoneBy_62 : decode cX7_undoneBy 62 = .ok (.iconst (-1), 1) := by decide +kernel
theorem dX7_undoneBy_63 : decode cX7_undoneBy 63 = .ok (.ireturn, 1) := by decide +kernel
theorem dX7_layerAt_0 : decode cX7_layerAt 0 = .ok (.aload_n 0, 1) := by decide +kernel
theorem dX7_layerAt_1 : decode cX7_layerAt 1 = .ok (.iload_n 1, 1) := by decide +kernel
theorem dX7_layerAt_2 : decode cX7_layerAt 2 = .ok (.invokevirtual 67, 3) := by decide +kernel
theorem dX7_layerAt_5 : decode cX7_layerAt 5 = .ok (.istore_n 2, 1) := by decide +kernel
theorem dX7_layerAt_6 : decode cX7_layerAt 6 = .ok (.iconst 0, 1) := by decide +kernel
theorem dX7_layerAt_7 : decode cX7_layerAt 7 = .ok (.istore_n 3, 1) := by decide +kernel
theorem dX7_layerAt_8 : decode cX7_layerAt 8 = .ok (.iconst 0, 1) := by decide +kernel
theorem dX7_layerAt_9 : decode cX7_layerAt 9 = .ok (.istore 4, 2) := by decide +kernel
theorem dX7_layerAt_11 : decode cX7_layerAt 11 = .ok (.iload 4, 2) := by decide +kernel
theorem dX7_layerAt_13 : decode cX7_layerAt 13 = .ok (.aload_n 0, 1) := by decide +kernel
theorem dX7_layerAt_14 : decode cX7_layerAt 14 = .ok (.getfield 33, 3) := by decide +kernel
theorem dX7_layerAt_17 : decode cX7_layerAt 17 = .ok (.if_icmp .ge 41, 3) := by decide +kernel
theorem dX7_layerAt_20 : decode cX7_layerAt 20 = .ok (.iload_n 2, 1) := by decide +kernel
theorem dX7_layerAt_21 : decode cX7_layerAt 21 = .ok (.aload_n 0, 1) := by decide +kernel
theorem dX7_layerAt_22 : decode cX7_layerAt 22 = .ok (.getfield 18, 3) := by decide +kernel
theorem dX7_layerAt_25 : decode cX7_layerAt 25 = .ok (.iload 4, 2) := by decide +kernel
theorem dX7_layerAt_27 : decode cX7_layerAt 27 = .ok (.iaload, 1) := by decide +kernel
theorem dX7_layerAt_28 : decode cX7_layerAt 28 = .ok (.invokestatic 70, 3) := by decide +kernel
theorem dX7_layerAt_31 : decode cX7_layerAt 31 = .ok (.ishr, 1) := by decide +kernel
theorem dX7_layerAt_32 : decode cX7_layerAt 32 = .ok (.iconst 1, 1) := by decide +kernel
theorem dX7_layerAt_33 : decode cX7_layerAt 33 = .ok (.iand, 1) := by decide +kernel
theorem dX7_layerAt_34 : decode cX7_layerAt 34 = .ok (.ifCond .eq 18, 3) := by decide +kernel
theorem dX7_layerAt_37 : decode cX7_layerAt 37 = .ok (.iload_n 3, 1) := by decide +kernel
theorem dX7_layerAt_38 : decode cX7_layerAt 38 = .ok (.aload_n 0, 1) := by decide +kernel
theorem dX7_layerAt_39 : decode cX7_layerAt 39 = .ok (.getfield 18, 3) := by decide +kernel
theorem dX7_layerAt_42 : decode cX7_layerAt 42 = .ok (.iload 4, 2) := by decide +kernel
theorem dX7_layerAt_44 : decode cX7_layerAt 44 = .ok (.iaload, 1) := by decide +kernel
theorem dX7_layerAt_45 : decode cX7_layerAt 45 = .ok (.invokestatic 76, 3) := by decide +kernel
theorem dX7_layerAt_48 : decode cX7_layerAt 48 = .ok (.invokestatic 79, 3) := by decide +kernel
theorem dX7_layerAt_51 : decode cX7_layerAt 51 = .ok (.istore_n 3, 1) := by decide +kernel
theorem dX7_layerAt_52 : decode cX7_layerAt 52 = .ok (.iinc 4 1, 3) := by decide +kernel
theorem dX7_layerAt_55 : decode cX7_layerAt 55 = .ok (.goto (-44), 3) := by decide +kernel
theorem dX7_layerAt_58 : decode cX7_layerAt 58 = .ok (.iload_n 3, 1) := by decide +kernel
theorem dX7_layerAt_59 : decode cX7_layerAt 59 = .ok (.iconst 1, 1) := by decide +kernel
theorem dX7_layerAt_60 : decode cX7_layerAt 60 = .ok (.iadd, 1) := by decide +kernel
theorem dX7_layerAt_61 : decode cX7_layerAt 61 = .ok (.ireturn, 1) := by decide +kernel
theorem dX7_hindrance_0 : decode cX7_hindrance 0 = .ok (.aload_n 0, 1) := by decide +kernel
theorem dX7_hindrance_1 : decode cX7_hindrance 1 = .ok (.aload_n 0, 1) := by decide +kernel
theorem dX7_hindrance_2 : decode cX7_hindrance 2 = .ok (.iload_n 1, 1) := by decide +kernel
theorem dX7_hindrance_3 : decode cX7_hindrance 3 = .ok (.invokevirtual 64, 3) := by decide +kernel
theorem dX7_hindrance_6 : decode cX7_hindrance 6 = .ok (.invokevirtual 84, 3) := by decide +kernel
theorem dX7_hindrance_9 : decode cX7_hindrance 9 = .ok (.iload_n 2, 1) := by decide +kernel
theorem dX7_hindrance_10 : decode cX7_hindrance 10 = .ok (.if_icmp .lt 16, 3) := by decide +kernel
theorem dX7_hindrance_13 : decode cX7_hindrance 13 = .ok (.aload_n 0, 1) := by decide +kernel
theorem dX7_hindrance_14 : decode cX7_hindrance 14 = .ok (.aload_n 0, 1) := by decide +kernel
theorem dX7_hindrance_15 : decode cX7_hindrance 15 = .ok (.iload_n 1, 1) := by decide +kernel
theorem dX7_hindrance_16 : decode cX7_hindrance 16 = .ok (.invokevirtual 87, 3) := by decide +kernel
theorem dX7_hindrance_19 : decode cX7_hindrance 19 = .ok (.invokevirtual 84, 3) := by decide +kernel
theorem dX7_hindrance_22 : decode cX7_hindrance 22 = .ok (.iload_n 2, 1) := by decide +kernel
theorem dX7_hindrance_23 : decode cX7_hindrance 23 = .ok (.if_icmp .ge 5, 3) := by decide +kernel
theorem dX7_hindrance_26 : decode cX7_hindrance 26 = .ok (.iconst 2, 1) := by decide +kernel
theorem dX7_hindrance_27 : decode cX7_hindrance 27 = .ok (.ireturn, 1) := by decide +kernel
theorem dX7_hindrance_28 : decode cX7_hindrance 28 = .ok (.aload_n 0, 1) := by decide +kernel
theorem dX7_hindrance_29 : decode cX7_hindrance 29 = .ok (.getfield 33, 3) := by decide +kernel
theorem dX7_hindrance_32 : decode cX7_hindrance 32 = .ok (.bipush 40, 2) := by decide +kernel
theorem dX7_hindrance_34 : decode cX7_hindrance 34 = .ok (.if_icmp .lt 7, 3) := by decide +kernel
theorem dX7_hindrance_37 : decode cX7_hindrance 37 = .ok (.iconst 3, 1) := by decide +kernel
theorem dX7_hindrance_38 : decode cX7_hindrance 38 = .ok (.goto 4, 3) := by decide +kernel
theorem dX7_hindrance_41 : decode cX7_hindrance 41 = .ok (.iconst 0, 1) := by decide +kernel
theorem dX7_hindrance_42 : decode cX7_hindrance 42 = .ok (.ireturn, 1) := by decide +kernel
theorem dX7_putIn_0 : decode cX7_putIn 0 = .ok (.aload_n 0, 1) := by decide +kernel
theorem dX7_putIn_1 : decode cX7_putIn 1 = .ok (.getfield 33, 3) := by decide +kernel
theorem dX7_putIn_4 : decode cX7_putIn 4 = .ok (.bipush 48, 2) := by decide +kernel
theorem dX7_putIn_6 : decode cX7_putIn 6 = .ok (.if_icmp .lt 4, 3) := by decide +kernel
theorem dX7_putIn_9 : decode cX7_putIn 9 = .ok (.return_, 1) := by decide +kernel
theorem dX7_putIn_10 : decode cX7_putIn 10 = .ok (.aload_n 0, 1) := by decide +kernel
theorem dX7_putIn_11 : decode cX7_putIn 11 = .ok (.iload_n 1, 1) := by decide +kernel
theorem dX7_putIn_12 : decode cX7_putIn 12 = .ok (.invokevirtual 64, 3) := by decide +kernel
theorem dX7_putIn_15 : decode cX7_putIn 15 = .ok (.iconst 4, 1) := by decide +kernel
theorem dX7_putIn_16 : decode cX7_putIn 16 = .ok (.ishl, 1) := by decide +kernel
theorem dX7_putIn_17 : decode cX7_putIn 17 = .ok (.aload_n 0, 1) := by decide +kernel
theorem dX7_putIn_18 : decode cX7_putIn 18 = .ok (.iload_n 1, 1) := by decide +kernel
theorem dX7_putIn_19 : decode cX7_putIn 19 = .ok (.invokevirtual 87, 3) := by decide +kernel
theorem dX7_putIn_22 : decode cX7_putIn 22 = .ok (.bipush 7, 2) := by decide +kernel
theorem dX7_putIn_24 : decode cX7_putIn 24 = .ok (.ishl, 1) := by decide +kernel
theorem dX7_putIn_25 : decode cX7_putIn 25 = .ok (.ior, 1) := by decide +kernel
theorem dX7_putIn_26 : decode cX7_putIn 26 = .ok (.istore_n 3, 1) := by decide +kernel
theorem dX7_putIn_27 : decode cX7_putIn 27 = .ok (.aload_n 0, 1) := by decide +kernel
theorem dX7_putIn_28 : decode cX7_putIn 28 = .ok (.getfield 18, 3) := by decide +kernel
theorem dX7_putIn_31 : decode cX7_putIn 31 = .ok (.aload_n 0, 1) := by decide +kernel
theorem dX7_putIn_32 : decode cX7_putIn 32 = .ok (.getfield 33, 3) := by decide +kernel
theorem dX7_putIn_35 : decode cX7_putIn 35 = .ok (.iload_n 1, 1) := by decide +kernel
theorem dX7_putIn_36 : decode cX7_putIn 36 = .ok (.iload_n 3, 1) := by decide +kernel
theorem dX7_putIn_37 : decode cX7_putIn 37 = .ok (.ior, 1) := by decide +kernel
theorem dX7_putIn_38 : decode cX7_putIn 38 = .ok (.iload_n 2, 1) := by decide +kernel
theorem dX7_putIn_39 : decode cX7_putIn 39 = .ok (.bipush 10, 2) := by decide +kernel
theorem dX7_putIn_41 : decode cX7_putIn 41 = .ok (.ishl, 1) := by decide +kernel
theorem dX7_putIn_42 : decode cX7_putIn 42 = .ok (.ior, 1) := by decide +kernel
theorem dX7_putIn_43 : decode cX7_putIn 43 = .ok (.aload_n 0, 1) := by decide +kernel
theorem dX7_putIn_44 : decode cX7_putIn 44 = .ok (.iload_n 1, 1) := by decide +kernel
theorem dX7_putIn_45 : decode cX7_putIn 45 = .ok (.iconst 1, 1) := by decide +kernel
theorem dX7_putIn_46 : decode cX7_putIn 46 = .ok (.ishr, 1) := by decide +kernel
theorem dX7_putIn_47 : decode cX7_putIn 47 = .ok (.invokevirtual 90, 3) := by decide +kernel
theorem dX7_putIn_50 : decode cX7_putIn 50 = .ok (.bipush 14, 2) := by decide +kernel
theorem dX7_putIn_52 : decode cX7_putIn 52 = .ok (.ishl, 1) := by decide +kernel
theorem dX7_putIn_53 : decode cX7_putIn 53 = .ok (.ior, 1) := by decide +kernel
theorem dX7_putIn_54 : decode cX7_putIn 54 = .ok (.iastore, 1) := by decide +kernel
theorem dX7_putIn_55 : decode cX7_putIn 55 = .ok (.aload_n 0, 1) := by decide +kernel
theorem dX7_putIn_56 : decode cX7_putIn 56 = .ok (.dup, 1) := by decide +kernel
theorem dX7_putIn_57 : decode cX7_putIn 57 = .ok (.getfield 33, 3) := by decide +kernel
theorem dX7_putIn_60 : decode cX7_putIn 60 = .ok (.iconst 1, 1) := by decide +kernel
theorem dX7_putIn_61 : decode cX7_putIn 61 = .ok (.iadd, 1) := by decide +kernel
theorem dX7_putIn_62 : decode cX7_putIn 62 = .ok (.putfield 33, 3) := by decide +kernel
theorem dX7_putIn_65 : decode cX7_putIn 65 = .ok (.aload_n 0, 1) := by decide +kernel
theorem dX7_putIn_66 : decode cX7_putIn 66 = .ok (.iload_n 1, 1) := by decide +kernel
theorem dX7_putIn_67 : decode cX7_putIn 67 = .ok (.iconst 1, 1) := by decide +kernel
theorem dX7_putIn_68 : decode cX7_putIn 68 = .ok (.ishr, 1) := by decide +kernel
theorem dX7_putIn_69 : decode cX7_putIn 69 = .ok (.invokevirtual 93, 3) := by decide +kernel
theorem dX7_putIn_72 : decode cX7_putIn 72 = .ok (.return_, 1) := by decide +kernel
theorem dX7_takeOut_0 : decode cX7_takeOut 0 = .ok (.iload_n 1, 1) := by decide +kernel
theorem dX7_takeOut_1 : decode cX7_takeOut 1 = .ok (.ifCond .lt 11, 3) := by decide +kernel
theorem dX7_takeOut_4 : decode cX7_takeOut 4 = .ok (.iload_n 1, 1) := by decide +kernel
theorem dX7_takeOut_5 : decode cX7_takeOut 5 = .ok (.aload_n 0, 1) := by decide +kernel
theorem dX7_takeOut_6 : decode cX7_takeOut 6 = .ok (.getfield 33, 3) := by decide +kernel
theorem dX7_takeOut_9 : decode cX7_takeOut 9 = .ok (.if_icmp .lt 4, 3) := by decide +kernel
theorem dX7_takeOut_12 : decode cX7_takeOut 12 = .ok (.return_, 1) := by decide +kernel
theorem dX7_takeOut_13 : decode cX7_takeOut 13 = .ok (.aload_n 0, 1) := by decide +kernel
theorem dX7_takeOut_14 : decode cX7_takeOut 14 = .ok (.getfield 18, 3) := by decide +kernel
theorem dX7_takeOut_17 : decode cX7_takeOut 17 = .ok (.iload_n 1, 1) := by decide +kernel
theorem dX7_takeOut_18 : decode cX7_takeOut 18 = .ok (.iaload, 1) := by decide +kernel
theorem dX7_takeOut_19 : decode cX7_takeOut 19 = .ok (.invokestatic 70, 3) := by decide +kernel
theorem dX7_takeOut_22 : decode cX7_takeOut 22 = .ok (.istore_n 2, 1) := by decide +kernel
theorem dX7_takeOut_23 : decode cX7_takeOut 23 = .ok (.iload_n 1, 1) := by decide +kernel
theorem dX7_takeOut_24 : decode cX7_takeOut 24 = .ok (.istore_n 3, 1) := by decide +kernel
theorem dX7_takeOut_25 : decode cX7_takeOut 25 = .ok (.iload_n 3, 1) := by decide +kernel
theorem dX7_takeOut_26 : decode cX7_takeOut 26 = .ok (.aload_n 0, 1) := by decide +kernel
theorem dX7_takeOut_27 : decode cX7_takeOut 27 = .ok (.getfield 33, 3) := by decide +kernel
theorem dX7_takeOut_30 : decode cX7_takeOut 30 = .ok (.iconst 1, 1) := by decide +kernel
theorem dX7_takeOut_31 : decode cX7_takeOut 31 = .ok (.isub, 1) := by decide +kernel
theorem dX7_takeOut_32 : decode cX7_takeOut 32 = .ok (.if_icmp .ge 23, 3) := by decide +kernel
theorem dX7_takeOut_35 : decode cX7_takeOut 35 = .ok (.aload_n 0, 1) := by decide +kernel
theorem dX7_takeOut_36 : decode cX7_takeOut 36 = .ok (.getfield 18, 3) := by decide +kernel
theorem dX7_takeOut_39 : decode cX7_takeOut 39 = .ok (.iload_n 3, 1) := by decide +kernel
theorem dX7_takeOut_40 : decode cX7_takeOut 40 = .ok (.aload_n 0, 1) := by decide +kernel
theorem dX7_takeOut_41 : decode cX7_takeOut 41 = .ok (.getfield 18, 3) := by decide +kernel
theorem dX7_takeOut_44 : decode cX7_takeOut 44 = .ok (.iload_n 3, 1) := by decide +kernel
theorem dX7_takeOut_45 : decode cX7_takeOut 45 = .ok (.iconst 1, 1) := by decide +kernel
theorem dX7_takeOut_46 : decode cX7_takeOut 46 = .ok (.iadd, 1) := by decide +kernel
theorem dX7_takeOut_47 : decode cX7_takeOut 47 = .ok (.iaload, 1) := by decide +kernel
theorem dX7_takeOut_48 : decode cX7_takeOut 48 = .ok (.iastore, 1) := by decide +kernel
theorem dX7_takeOut_49 : decode cX7_takeOut 49 = .ok (.iinc 3 1, 3) := by decide +kernel
theorem dX7_takeOut_52 : decode cX7_takeOut 52 = .ok (.goto (-27), 3) := by decide +kernel
theorem dX7_takeOut_55 : decode cX7_takeOut 55 = .ok (.aload_n 0, 1) := by decide +kernel
theorem dX7_takeOut_56 : decode cX7_takeOut 56 = .ok (.dup, 1) := by decide +kernel
theorem dX7_takeOut_57 : decode cX7_takeOut 57 = .ok (.getfield 33, 3) := by decide +kernel
theorem dX7_takeOut_60 : decode cX7_takeOut 60 = .ok (.iconst 1, 1) := by decide +kernel
theorem dX7_takeOut_61 : decode cX7_takeOut 61 = .ok (.isub, 1) := by decide +kernel
theorem dX7_takeOut_62 : decode cX7_takeOut 62 = .ok (.putfield 33, 3) := by decide +kernel
theorem dX7_takeOut_65 : decode cX7_takeOut 65 = .ok (.aload_n 0, 1) := by decide +kernel
theorem dX7_takeOut_66 : decode cX7_takeOut 66 = .ok (.iload_n 2, 1) := by decide +kernel
theorem dX7_takeOut_67 : decode cX7_takeOut 67 = .ok (.invokevirtual 93, 3) := by decide +kernel
theorem dX7_takeOut_70 : decode cX7_takeOut 70 = .ok (.return_, 1) := by decide +kernel
theorem dX7_change_0 : decode cX7_change 0 = .ok (.aload_n 0, 1) := by decide +kernel
theorem dX7_change_1 : decode cX7_change 1 = .ok (.iload_n 1, 1) := by decide +kernel
theorem dX7_change_2 : decode cX7_change 2 = .ok (.invokevirtual 97, 3) := by decide +kernel
theorem dX7_change_5 : decode cX7_change 5 = .ok (.ifCond .ne 4, 3) := by decide +kernel
theorem dX7_change_8 : decode cX7_change 8 = .ok (.return_, 1) := by decide +kernel
theorem dX7_change_9 : decode cX7_change 9 = .ok (.aload_n 0, 1) := by decide +kernel
theorem dX7_change_10 : decode cX7_change 10 = .ok (.getfield 9, 3) := by decide +kernel
theorem dX7_change_13 : decode cX7_change 13 = .ok (.iload_n 1, 1) := by decide +kernel
theorem dX7_change_14 : decode cX7_change 14 = .ok (.iaload, 1) := by decide +kernel
theorem dX7_change_15 : decode cX7_change 15 = .ok (.istore_n 2, 1) := by decide +kernel
theorem dX7_change_16 : decode cX7_change 16 = .ok (.aload_n 0, 1) := by decide +kernel
theorem dX7_change_17 : decode cX7_change 17 = .ok (.getfield 9, 3) := by decide +kernel
theorem dX7_change_20 : decode cX7_change 20 = .ok (.iload_n 1, 1) := by decide +kernel
theorem dX7_change_21 : decode cX7_change 21 = .ok (.aload_n 0, 1) := by decide +kernel
theorem dX7_change_22 : decode cX7_change 22 = .ok (.getfield 9, 3) := by decide +kernel
theorem dX7_change_25 : decode cX7_change 25 = .ok (.aload_n 0, 1) := by decide +kernel
theorem dX7_change_26 : decode cX7_change 26 = .ok (.iload_n 1, 1) := by decide +kernel
theorem dX7_change_27 : decode cX7_change 27 = .ok (.invokevirtual 60, 3) := by decide +kernel
theorem dX7_change_30 : decode cX7_change 30 = .ok (.iaload, 1) := by decide +kernel
theorem dX7_change_31 : decode cX7_change 31 = .ok (.iastore, 1) := by decide +kernel
theorem dX7_change_32 : decode cX7_change 32 = .ok (.aload_n 0, 1) := by decide +kernel
theorem dX7_change_33 : decode cX7_change 33 = .ok (.getfield 9, 3) := by decide +kernel
theorem dX7_change_36 : decode cX7_change 36 = .ok (.aload_n 0, 1) := by decide +kernel
theorem dX7_change_37 : decode cX7_change 37 = .ok (.iload_n 1, 1) := by decide +kernel
theorem dX7_change_38 : decode cX7_change 38 = .ok (.invokevirtual 60, 3) := by decide +kernel
theorem dX7_change_41 : decode cX7_change 41 = .ok (.iload_n 2, 1) := by decide +kernel
theorem dX7_change_42 : decode cX7_change 42 = .ok (.iastore, 1) := by decide +kernel
theorem dX7_change_43 : decode cX7_change 43 = .ok (.return_, 1) := by decide +kernel
theorem dX7_moveEndless_0 : decode cX7_moveEndless 0 = .ok (.aload_n 0, 1) := by decide +kernel
theorem dX7_moveEndless_1 : decode cX7_moveEndless 1 = .ok (.iload_n 1, 1) := by decide +kernel
theorem dX7_moveEndless_2 : decode cX7_moveEndless 2 = .ok (.iconst 1, 1) := by decide +kernel
theorem dX7_moveEndless_3 : decode cX7_moveEndless 3 = .ok (.ishr, 1) := by decide +kernel
theorem dX7_moveEndless_4 : decode cX7_moveEndless 4 = .ok (.invokevirtual 97, 3) := by decide +kernel
theorem dX7_moveEndless_7 : decode cX7_moveEndless 7 = .ok (.ifCond .ne 4, 3) := by decide +kernel
theorem dX7_moveEndless_10 : decode cX7_moveEndless 10 = .ok (.return_, 1) := by decide +kernel
theorem dX7_moveEndless_11 : decode cX7_moveEndless 11 = .ok (.aload_n 0, 1) := by decide +kernel
theorem dX7_moveEndless_12 : decode cX7_moveEndless 12 = .ok (.iload_n 1, 1) := by decide +kernel
theorem dX7_moveEndless_13 : decode cX7_moveEndless 13 = .ok (.invokevirtual 101, 3) := by decide +kernel
theorem dX7_moveEndless_16 : decode cX7_moveEndless 16 = .ok (.istore_n 2, 1) := by decide +kernel
theorem dX7_moveEndless_17 : decode cX7_moveEndless 17 = .ok (.iload_n 2, 1) := by decide +kernel
theorem dX7_moveEndless_18 : decode cX7_moveEndless 18 = .ok (.ifCond .lt 11, 3) := by decide +kernel
theorem dX7_moveEndless_21 : decode cX7_moveEndless 21 = .ok (.aload_n 0, 1) := by decide +kernel
theorem dX7_moveEndless_22 : decode cX7_moveEndless 22 = .ok (.iload_n 2, 1) := by decide +kernel
theorem dX7_moveEndless_23 : decode cX7_moveEndless 23 = .ok (.invokevirtual 104, 3) := by decide +kernel
theorem dX7_moveEndless_26 : decode cX7_moveEndless 26 = .ok (.goto 9, 3) := by decide +kernel
theorem dX7_moveEndless_29 : decode cX7_moveEndless 29 = .ok (.aload_n 0, 1) := by decide +kernel
theorem dX7_moveEndless_30 : decode cX7_moveEndless 30 = .ok (.iload_n 1, 1) := by decide +kernel
theorem dX7_moveEndless_31 : decode cX7_moveEndless 31 = .ok (.iconst 0, 1) := by decide +kernel
theorem dX7_moveEndless_32 : decode cX7_moveEndless 32 = .ok (.invokevirtual 107, 3) := by decide +kernel
theorem dX7_moveEndless_35 : decode cX7_moveEndless 35 = .ok (.return_, 1) := by decide +kernel
theorem dX7_undoingLetter_0 : decode cX7_undoingLetter 0 = .ok (.aload_n 0, 1) := by decide +kernel
theorem dX7_undoingLetter_1 : decode cX7_undoingLetter 1 = .ok (.invokevirtual 111, 3) := by decide +kernel
theorem dX7_undoingLetter_4 : decode cX7_undoingLetter 4 = .ok (.istore_n 1, 1) := by decide +kernel
theorem dX7_undoingLetter_5 : decode cX7_undoingLetter 5 = .ok (.iconst 2, 1) := by decide +kernel
theorem dX7_undoingLetter_6 : decode cX7_undoingLetter 6 = .ok (.aload_n 0, 1) := by decide +kernel
theorem dX7_undoingLetter_7 : decode cX7_undoingLetter 7 = .ok (.getfield 30, 3) := by decide +kernel
theorem dX7_undoingLetter_10 : decode cX7_undoingLetter 10 = .ok (.imul, 1) := by decide +kernel
theorem dX7_undoingLetter_11 : decode cX7_undoingLetter 11 = .ok (.iconst 1, 1) := by decide +kernel
theorem dX7_undoingLetter_12 : decode cX7_undoingLetter 12 = .ok (.isub, 1) := by decide +kernel
theorem dX7_undoingLetter_13 : decode cX7_undoingLetter 13 = .ok (.istore_n 2, 1) := by decide +kernel
theorem dX7_undoingLetter_14 : decode cX7_undoingLetter 14 = .ok (.iload_n 2, 1) := by decide +kernel
theorem dX7_undoingLetter_15 : decode cX7_undoingLetter 15 = .ok (.ifCond .lt 21, 3) := by decide +kernel
theorem dX7_undoingLetter_18 : decode cX7_undoingLetter 18 = .ok (.iload_n 1, 1) := by decide +kernel
theorem dX7_undoingLetter_19 : decode cX7_undoingLetter 19 = .ok (.iload_n 2, 1) := by decide +kernel
theorem dX7_undoingLetter_20 : decode cX7_undoingLetter 20 = .ok (.ishr, 1) := by decide +kernel
theorem dX7_undoingLetter_21 : decode cX7_undoingLetter 21 = .ok (.iconst 1, 1) := by decide +kernel
theorem dX7_undoingLetter_22 : decode cX7_undoingLetter 22 = .ok (.iand, 1) := by decide +kernel
theorem dX7_undoingLetter_23 : decode cX7_undoingLetter 23 = .ok (.ifCond .eq 7, 3) := by decide +kernel
theorem dX7_undoingLetter_26 : decode cX7_undoingLetter 26 = .ok (.iload_n 2, 1) := by decide +kernel
theorem dX7_undoingLetter_27 : decode cX7_undoingLetter 27 = .ok (.iconst 1, 1) := by decide +kernel
theorem dX7_undoingLetter_28 : decode cX7_undoingLetter 28 = .ok (.ixor, 1) := by decide +kernel
theorem dX7_undoingLetter_29 : decode cX7_undoingLetter 29 = .ok (.ireturn, 1) := by decide +kernel
theorem dX7_undoingLetter_30 : decode cX7_undoingLetter 30 = .ok (.iinc 2 (-1), 3) := by decide +kernel
theorem dX7_undoingLetter_33 : decode cX7_undoingLetter 33 = .ok (.goto (-19), 3) := by decide +kernel
theorem dX7_undoingLetter_36 : decode cX7_undoingLetter 36 = .ok (.bipush 20, 2) := by decide +kernel
theorem dX7_undoingLetter_38 : decode cX7_undoingLetter 38 = .ok (.ireturn, 1) := by decide +kernel
theorem dX7_noteBeat_0 : decode cX7_noteBeat 0 = .ok (.aload_n 0, 1) := by decide +kernel
theorem dX7_noteBeat_1 : decode cX7_noteBeat 1 = .ok (.getfield 43, 3) := by decide +kernel
theorem dX7_noteBeat_4 : decode cX7_noteBeat 4 = .ok (.ifCond .lt 28, 3) := by decide +kernel
theorem dX7_noteBeat_7 : decode cX7_noteBeat 7 = .ok (.aload_n 0, 1) := by decide +kernel
theorem dX7_noteBeat_8 : decode cX7_noteBeat 8 = .ok (.getfield 21, 3) := by decide +kernel
theorem dX7_noteBeat_11 : decode cX7_noteBeat 11 = .ok (.aload_n 0, 1) := by decide +kernel
theorem dX7_noteBeat_12 : decode cX7_noteBeat 12 = .ok (.getfield 43, 3) := by decide +kernel
theorem dX7_noteBeat_15 : decode cX7_noteBeat 15 = .ok (.bipush 60, 2) := by decide +kernel
theorem dX7_noteBeat_17 : decode cX7_noteBeat 17 = .ok (.irem, 1) := by decide +kernel
theorem dX7_noteBeat_18 : decode cX7_noteBeat 18 = .ok (.iload_n 1, 1) := by decide +kernel
theorem dX7_noteBeat_19 : decode cX7_noteBeat 19 = .ok (.iload_n 2, 1) := by decide +kernel
theorem dX7_noteBeat_20 : decode cX7_noteBeat 20 = .ok (.iconst 5, 1) := by decide +kernel
theorem dX7_noteBeat_21 : decode cX7_noteBeat 21 = .ok (.ishl, 1) := by decide +kernel
theorem dX7_noteBeat_22 : decode cX7_noteBeat 22 = .ok (.ior, 1) := by decide +kernel
theorem dX7_noteBeat_23 : decode cX7_noteBeat 23 = .ok (.aload_n 0, 1) := by decide +kernel
theorem dX7_noteBeat_24 : decode cX7_noteBeat 24 = .ok (.getfield 33, 3) := by decide +kernel
theorem dX7_noteBeat_27 : decode cX7_noteBeat 27 = .ok (.bipush 6, 2) := by decide +kernel
theorem dX7_noteBeat_29 : decode cX7_noteBeat 29 = .ok (.ishl, 1) := by decide +kernel
theorem dX7_noteBeat_30 : decode cX7_noteBeat 30 = .ok (.ior, 1) := by decide +kernel
theorem dX7_noteBeat_31 : decode cX7_noteBeat 31 = .ok (.iastore, 1) := by decide +kernel
theorem dX7_noteBeat_32 : decode cX7_noteBeat 32 = .ok (.aload_n 0, 1) := by decide +kernel
theorem dX7_noteBeat_33 : decode cX7_noteBeat 33 = .ok (.dup, 1) := by decide +kernel
theorem dX7_noteBeat_34 : decode cX7_noteBeat 34 = .ok (.getfield 43, 3) := by decide +kernel
theorem dX7_noteBeat_37 : decode cX7_noteBeat 37 = .ok (.iconst 1, 1) := by decide +kernel
theorem dX7_noteBeat_38 : decode cX7_noteBeat 38 = .ok (.iadd, 1) := by decide +kernel
theorem dX7_noteBeat_39 : decode cX7_noteBeat 39 = .ok (.putfield 43, 3) := by decide +kernel
theorem dX7_noteBeat_42 : decode cX7_noteBeat 42 = .ok (.return_, 1) := by decide +kernel
theorem dX7_entryCount_0 : decode cX7_entryCount 0 = .ok (.aload_n 0, 1) := by decide +kernel
theorem dX7_entryCount_1 : decode cX7_entryCount 1 = .ok (.getfield 43, 3) := by decide +kernel
theorem dX7_entryCount_4 : decode cX7_entryCount 4 = .ok (.bipush 60, 2) := by decide +kernel
theorem dX7_entryCount_6 : decode cX7_entryCount 6 = .ok (.invokestatic 114, 3) := by decide +kernel
theorem dX7_entryCount_9 : decode cX7_entryCount 9 = .ok (.ireturn, 1) := by decide +kernel
theorem dX7_entryAgo_0 : decode cX7_entryAgo 0 = .ok (.aload_n 0, 1) := by decide +kernel
theorem dX7_entryAgo_1 : decode cX7_entryAgo 1 = .ok (.getfield 43, 3) := by decide +kernel
theorem dX7_entryAgo_4 : decode cX7_entryAgo 4 = .ok (.iconst 1, 1) := by decide +kernel
theorem dX7_entryAgo_5 : decode cX7_entryAgo 5 = .ok (.isub, 1) := by decide +kernel
theorem dX7_entryAgo_6 : decode cX7_entryAgo 6 = .ok (.iload_n 1, 1) := by decide +kernel
theorem dX7_entryAgo_7 : decode cX7_entryAgo 7 = .ok (.isub, 1) := by decide +kernel
theorem dX7_entryAgo_8 : decode cX7_entryAgo 8 = .ok (.istore_n 2, 1) := by decide +kernel
theorem dX7_entryAgo_9 : decode cX7_entryAgo 9 = .ok (.iload_n 2, 1) := by decide +kernel
theorem dX7_entryAgo_10 : decode cX7_entryAgo 10 = .ok (.ifCond .ge 7, 3) := by decide +kernel
theorem dX7_entryAgo_13 : decode cX7_entryAgo 13 = .ok (.iconst 0, 1) := by decide +kernel
theorem dX7_entryAgo_14 : decode cX7_entryAgo 14 = .ok (.goto 12, 3) := by decide +kernel
theorem dX7_entryAgo_17 : decode cX7_entryAgo 17 = .ok (.aload_n 0, 1) := by decide +kernel
theorem dX7_entryAgo_18 : decode cX7_entryAgo 18 = .ok (.getfield 21, 3) := by decide +kernel
theorem dX7_entryAgo_21 : decode cX7_entryAgo 21 = .ok (.iload_n 2, 1) := by decide +kernel
theorem dX7_entryAgo_22 : decode cX7_entryAgo 22 = .ok (.bipush 60, 2) := by decide +kernel
theorem dX7_entryAgo_24 : decode cX7_entryAgo 24 = .ok (.irem, 1) := by decide +kernel
theorem dX7_entryAgo_25 : decode cX7_entryAgo 25 = .ok (.iaload, 1) := by decide +kernel
theorem dX7_entryAgo_26 : decode cX7_entryAgo 26 = .ok (.ireturn, 1) := by decide +kernel
theorem dX7_tellOrder_0 : decode cX7_tellOrder 0 = .ok (.lconst 1, 1) := by decide +kernel
theorem dX7_tellOrder_1 : decode cX7_tellOrder 1 = .ok (.aload_n 0, 1) := by decide +kernel
theorem dX7_tellOrder_2 : decode cX7_tellOrder 2 = .ok (.getfield 33, 3) := by decide +kernel
theorem dX7_tellOrder_5 : decode cX7_tellOrder 5 = .ok (.lshl, 1) := by decide +kernel
theorem dX7_tellOrder_6 : decode cX7_tellOrder 6 = .ok (.lconst 1, 1) := by decide +kernel
theorem dX7_tellOrder_7 : decode cX7_tellOrder 7 = .ok (.lsub, 1) := by decide +kernel
theorem dX7_tellOrder_8 : decode cX7_tellOrder 8 = .ok (.lstore_n 2, 1) := by decide +kernel
theorem dX7_tellOrder_9 : decode cX7_tellOrder 9 = .ok (.iconst 0, 1) := by decide +kernel
theorem dX7_tellOrder_10 : decode cX7_tellOrder 10 = .ok (.istore 4, 2) := by decide +kernel
theorem dX7_tellOrder_12 : decode cX7_tellOrder 12 = .ok (.iload 4, 2) := by decide +kernel
theorem dX7_tellOrder_14 : decode cX7_tellOrder 14 = .ok (.aload_n 0, 1) := by decide +kernel
theorem dX7_tellOrder_15 : decode cX7_tellOrder 15 = .ok (.getfield 33, 3) := by decide +kernel
theorem dX7_tellOrder_18 : decode cX7_tellOrder 18 = .ok (.if_icmp .ge 45, 3) := by decide +kernel
theorem dX7_tellOrder_21 : decode cX7_tellOrder 21 = .ok (.iload 4, 2) := by decide +kernel
theorem dX7_tellOrder_23 : decode cX7_tellOrder 23 = .ok (.aload_n 1, 1) := by decide +kernel
theorem dX7_tellOrder_24 : decode cX7_tellOrder 24 = .ok (.arraylength, 1) := by decide +kernel
theorem dX7_tellOrder_25 : decode cX7_tellOrder 25 = .ok (.if_icmp .ge 38, 3) := by decide +kernel
theorem dX7_tellOrder_28 : decode cX7_tellOrder 28 = .ok (.aload_n 0, 1) := by decide +kernel
theorem dX7_tellOrder_29 : decode cX7_tellOrder 29 = .ok (.lload_n 2, 1) := by decide +kernel
theorem dX7_tellOrder_30 : decode cX7_tellOrder 30 = .ok (.invokevirtual 117, 3) := by decide +kernel
theorem dX7_tellOrder_33 : decode cX7_tellOrder 33 = .ok (.istore 5, 2) := by decide +kernel
theorem dX7_tellOrder_35 : decode cX7_tellOrder 35 = .ok (.aload_n 1, 1) := by decide +kernel
theorem dX7_tellOrder_36 : decode cX7_tellOrder 36 = .ok (.iload 4, 2) := by decide +kernel
theorem dX7_tellOrder_38 : decode cX7_tellOrder 38 = .ok (.aload_n 0, 1) := by decide +kernel
theorem dX7_tellOrder_39 : decode cX7_tellOrder 39 = .ok (.getfield 18, 3) := by decide +kernel
theorem dX7_tellOrder_42 : decode cX7_tellOrder 42 = .ok (.iload 5, 2) := by decide +kernel
theorem dX7_tellOrder_44 : decode cX7_tellOrder 44 = .ok (.iaload, 1) := by decide +kernel
theorem dX7_tellOrder_45 : decode cX7_tellOrder 45 = .ok (.iastore, 1) := by decide +kernel
theorem dX7_tellOrder_46 : decode cX7_tellOrder 46 = .ok (.lload_n 2, 1) := by decide +kernel
theorem dX7_tellOrder_47 : decode cX7_tellOrder 47 = .ok (.lconst 1, 1) := by decide +kernel
theorem dX7_tellOrder_48 : decode cX7_tellOrder 48 = .ok (.iload 5, 2) := by decide +kernel
theorem dX7_tellOrder_50 : decode cX7_tellOrder 50 = .ok (.lshl, 1) := by decide +kernel
theorem dX7_tellOrder_51 : decode cX7_tellOrder 51 = .ok (.ldc2_w 121, 3) := by decide +kernel
theorem dX7_tellOrder_54 : decode cX7_tellOrder 54 = .ok (.lxor, 1) := by decide +kernel
theorem dX7_tellOrder_55 : decode cX7_tellOrder 55 = .ok (.land, 1) := by decide +kernel
theorem dX7_tellOrder_56 : decode cX7_tellOrder 56 = .ok (.lstore_n 2, 1) := by decide +kernel
theorem dX7_tellOrder_57 : decode cX7_tellOrder 57 = .ok (.iinc 4 1, 3) := by decide +kernel
theorem dX7_tellOrder_60 : decode cX7_tellOrder 60 = .ok (.goto (-48), 3) := by decide +kernel
theorem dX7_tellOrder_63 : decode cX7_tellOrder 63 = .ok (.return_, 1) := by decide +kernel
theorem dX7_toldNext_0 : decode cX7_toldNext 0 = .ok (.iconst 0, 1) := by decide +kernel
theorem dX7_toldNext_1 : decode cX7_toldNext 1 = .ok (.istore_n 3, 1) := by decide +kernel
theorem dX7_toldNext_2 : decode cX7_toldNext 2 = .ok (.iconst 0, 1) := by decide +kernel
theorem dX7_toldNext_3 : decode cX7_toldNext 3 = .ok (.istore 4, 2) := by decide +kernel
theorem dX7_toldNext_5 : decode cX7_toldNext 5 = .ok (.bipush 20, 2) := by decide +kernel
theorem dX7_toldNext_7 : decode cX7_toldNext 7 = .ok (.istore 5, 2) := by decide +kernel
theorem dX7_toldNext_9 : decode cX7_toldNext 9 = .ok (.iconst 0, 1) := by decide +kernel
theorem dX7_toldNext_10 : decode cX7_toldNext 10 = .ok (.istore 6, 2) := by decide +kernel
theorem dX7_toldNext_12 : decode cX7_toldNext 12 = .ok (.iload 6, 2) := by decide +kernel
theorem dX7_toldNext_14 : decode cX7_toldNext 14 = .ok (.aload_n 0, 1) := by decide +kernel
theorem dX7_toldNext_15 : decode cX7_toldNext 15 = .ok (.getfield 33, 3) := by decide +kernel
theorem dX7_toldNext_18 : decode cX7_toldNext 18 = .ok (.if_icmp .ge 81, 3) := by decide +kernel
theorem dX7_toldNext_21 : decode cX7_toldNext 21 = .ok (.lload_n 1, 1) := by decide +kernel
theorem dX7_toldNext_22 : decode cX7_toldNext 22 = .ok (.iload 6, 2) := by decide +kernel
theorem dX7_toldNext_24 : decode cX7_toldNext 24 = .ok (.lshr, 1) := by decide +kernel
theorem dX7_toldNext_25 : decode cX7_toldNext 25 = .ok (.lconst 1, 1) := by decide +kernel
theorem dX7_toldNext_26 : decode cX7_toldNext 26 = .ok (.land, 1) := by decide +kernel
theorem dX7_toldNext_27 : decode cX7_toldNext 27 = .ok (.lconst 0, 1) := by decide +kernel
theorem dX7_toldNext_28 : decode cX7_toldNext 28 = .ok (.lcmp, 1) := by decide +kernel
theorem dX7_toldNext_29 : decode cX7_toldNext 29 = .ok (.ifCond .eq 64, 3) := by decide +kernel
theorem dX7_toldNext_32 : decode cX7_toldNext 32 = .ok (.aload_n 0, 1) := by decide +kernel
theorem dX7_toldNext_33 : decode cX7_toldNext 33 = .ok (.getfield 18, 3) := by decide +kernel
theorem dX7_toldNext_36 : decode cX7_toldNext 36 = .ok (.iload 6, 2) := by decide +kernel
theorem dX7_toldNext_38 : decode cX7_toldNext 38 = .ok (.iaload, 1) := by decide +kernel
theorem dX7_toldNext_39 : decode cX7_toldNext 39 = .ok (.invokestatic 70, 3) := by decide +kernel
theorem dX7_toldNext_42 : decode cX7_toldNext 42 = .ok (.istore 7, 2) := by decide +kernel
theorem dX7_toldNext_44 : decode cX7_toldNext 44 = .ok (.iload_n 3, 1) := by decide +kernel
theorem dX7_toldNext_45 : decode cX7_toldNext 45 = .ok (.iload 7, 2) := by decide +kernel
theorem dX7_toldNext_47 : decode cX7_toldNext 47 = .ok (.ishr, 1) := by decide +kernel
theorem dX7_toldNext_48 : decode cX7_toldNext 48 = .ok (.iconst 1, 1) := by decide +kernel
theorem dX7_toldNext_49 : decode cX7_toldNext 49 = .ok (.iand, 1) := by decide +kernel
theorem dX7_toldNext_50 : decode cX7_toldNext 50 = .ok (.ifCond .ne 34, 3) := by decide +kernel
theorem dX7_toldNext_53 : decode cX7_toldNext 53 = .ok (.aload_n 0, 1) := by decide +kernel
theorem dX7_toldNext_54 : decode cX7_toldNext 54 = .ok (.getfield 18, 3) := by decide +kernel
theorem dX7_toldNext_57 : decode cX7_toldNext 57 = .ok (.iload 6, 2) := by decide +kernel
theorem dX7_toldNext_59 : decode cX7_toldNext 59 = .ok (.iaload, 1) := by decide +kernel
theorem dX7_toldNext_60 : decode cX7_toldNext 60 = .ok (.invokestatic 73, 3) := by decide +kernel
theorem dX7_toldNext_63 : decode cX7_toldNext 63 = .ok (.iload 5, 2) := by decide +kernel
theorem dX7_toldNext_65 : decode cX7_toldNext 65 = .ok (.if_icmp .ge 19, 3) := by decide +kernel
theorem dX7_toldNext_68 : decode cX7_toldNext 68 = .ok (.aload_n 0, 1) := by decide +kernel
theorem dX7_toldNext_69 : decode cX7_toldNext 69 = .ok (.getfield 18, 3) := by decide +kernel
theorem dX7_toldNext_72 : decode cX7_toldNext 72 = .ok (.iload 6, 2) := by decide +kernel
theorem dX7_toldNext_74 : decode cX7_toldNext 74 = .ok (.iaload, 1) := by decide +kernel
theorem dX7_toldNext_75 : decode cX7_toldNext 75 = .ok (.invokestatic 73, 3) := by decide +kernel
theorem dX7_toldNext_78 : decode cX7_toldNext 78 = .ok (.istore 5, 2) := by decide +kernel
theorem dX7_toldNext_80 : decode cX7_toldNext 80 = .ok (.iload 6, 2) := by decide +kernel
theorem dX7_toldNext_82 : decode cX7_toldNext 82 = .ok (.istore 4, 2) := by decide +kernel
theorem dX7_toldNext_84 : decode cX7_toldNext 84 = .ok (.iload_n 3, 1) := by decide +kernel
theorem dX7_toldNext_85 : decode cX7_toldNext 85 = .ok (.aload_n 0, 1) := by decide +kernel
theorem dX7_toldNext_86 : decode cX7_toldNext 86 = .ok (.iload 7, 2) := by decide +kernel
theorem dX7_toldNext_88 : decode cX7_toldNext 88 = .ok (.invokevirtual 67, 3) := by decide +kernel
theorem dX7_toldNext_91 : decode cX7_toldNext 91 = .ok (.ior, 1) := by decide +kernel
theorem dX7_toldNext_92 : decode cX7_toldNext 92 = .ok (.istore_n 3, 1) := by decide +kernel
theorem dX7_toldNext_93 : decode cX7_toldNext 93 = .ok (.iinc 6 1, 3) := by decide +kernel
theorem dX7_toldNext_96 : decode cX7_toldNext 96 = .ok (.goto (-84), 3) := by decide +kernel
theorem dX7_toldNext_99 : decode cX7_toldNext 99 = .ok (.iload 4, 2) := by decide +kernel
theorem dX7_toldNext_101 : decode cX7_toldNext 101 = .ok (.ireturn, 1) := by decide +kernel
theorem dX7_plaitsLike_0 : decode cX7_plaitsLike 0 = .ok (.aload_n 0, 1) := by decide +kernel
theorem dX7_plaitsLike_1 : decode cX7_plaitsLike 1 = .ok (.getfield 33, 3) := by decide +kernel
theorem dX7_plaitsLike_4 : decode cX7_plaitsLike 4 = .ok (.aload_n 1, 1) := by decide +kernel
theorem dX7_plaitsLike_5 : decode cX7_plaitsLike 5 = .ok (.getfield 33, 3) := by decide +kernel
theorem dX7_plaitsLike_8 : decode cX7_plaitsLike 8 = .ok (.if_icmp .eq 5, 3) := by decide +kernel
theorem dX7_plaitsLike_11 : decode cX7_plaitsLike 11 = .ok (.iconst 0, 1) := by decide +kernel
theorem dX7_plaitsLike_12 : decode cX7_plaitsLike 12 = .ok (.ireturn, 1) := by decide +kernel
theorem dX7_plaitsLike_13 : decode cX7_plaitsLike 13 = .ok (.lconst 1, 1) := by decide +kernel
theorem dX7_plaitsLike_14 : decode cX7_plaitsLike 14 = .ok (.aload_n 0, 1) := by decide +kernel
theorem dX7_plaitsLike_15 : decode cX7_plaitsLike 15 = .ok (.getfield 33, 3) := by decide +kernel
theorem dX7_plaitsLike_18 : decode cX7_plaitsLike 18 = .ok (.lshl, 1) := by decide +kernel
theorem dX7_plaitsLike_19 : decode cX7_plaitsLike 19 = .ok (.lconst 1, 1) := by decide +kernel
theorem dX7_plaitsLike_20 : decode cX7_plaitsLike 20 = .ok (.lsub, 1) := by decide +kernel
theorem dX7_plaitsLike_21 : decode cX7_plaitsLike 21 = .ok (.lstore_n 2, 1) := by decide +kernel
theorem dX7_plaitsLike_22 : decode cX7_plaitsLike 22 = .ok (.lload_n 2, 1) := by decide +kernel
theorem dX7_plaitsLike_23 : decode cX7_plaitsLike 23 = .ok (.lstore 4, 2) := by decide +kernel
theorem dX7_plaitsLike_25 : decode cX7_plaitsLike 25 = .ok (.iconst 0, 1) := by decide +kernel
theorem dX7_plaitsLike_26 : decode cX7_plaitsLike 26 = .ok (.istore 6, 2) := by decide +kernel
theorem dX7_plaitsLike_28 : decode cX7_plaitsLike 28 = .ok (.iload 6, 2) := by decide +kernel
theorem dX7_plaitsLike_30 : decode cX7_plaitsLike 30 = .ok (.aload_n 0, 1) := by decide +kernel
theorem dX7_plaitsLike_31 : decode cX7_plaitsLike 31 = .ok (.getfield 33, 3) := by decide +kernel
theorem dX7_plaitsLike_34 : decode cX7_plaitsLike 34 = .ok (.if_icmp .ge 73, 3) := by decide +kernel
theorem dX7_plaitsLike_37 : decode cX7_plaitsLike 37 = .ok (.aload_n 0, 1) := by decide +kernel
theorem dX7_plaitsLike_38 : decode cX7_plaitsLike 38 = .ok (.lload_n 2, 1) := by decide +kernel
theorem dX7_plaitsLike_39 : decode cX7_plaitsLike 39 = .ok (.invokevirtual 117, 3) := by decide +kernel
theorem dX7_plaitsLike_42 : decode cX7_plaitsLike 42 = .ok (.istore 7, 2) := by decide +kernel
theorem dX7_plaitsLike_44 : decode cX7_plaitsLike 44 = .ok (.aload_n 1, 1) := by decide +kernel
theorem dX7_plaitsLike_45 : decode cX7_plaitsLike 45 = .ok (.lload 4, 2) := by decide +kernel
theorem dX7_plaitsLike_47 : decode cX7_plaitsLike 47 = .ok (.invokevirtual 117, 3) := by decide +kernel
theorem dX7_plaitsLike_50 : decode cX7_plaitsLike 50 = .ok (.istore 8, 2) := by decide +kernel
theorem dX7_plaitsLike_52 : decode cX7_plaitsLike 52 = .ok (.aload_n 0, 1) := by decide +kernel
theorem dX7_plaitsLike_53 : decode cX7_plaitsLike 53 = .ok (.getfield 18, 3) := by decide +kernel
theorem dX7_plaitsLike_56 : decode cX7_plaitsLike 56 = .ok (.iload 7, 2) := by decide +kernel
theorem dX7_plaitsLike_58 : decode cX7_plaitsLike 58 = .ok (.iaload, 1) := by decide +kernel
theorem dX7_plaitsLike_59 : decode cX7_plaitsLike 59 = .ok (.invokestatic 73, 3) := by decide +kernel
theorem dX7_plaitsLike_62 : decode cX7_plaitsLike 62 = .ok (.aload_n 1, 1) := by decide +kernel
theorem dX7_plaitsLike_63 : decode cX7_plaitsLike 63 = .ok (.getfield 18, 3) := by decide +kernel
theorem dX7_plaitsLike_66 : decode cX7_plaitsLike 66 = .ok (.iload 8, 2) := by decide +kernel
theorem dX7_plaitsLike_68 : decode cX7_plaitsLike 68 = .ok (.iaload, 1) := by decide +kernel
theorem dX7_plaitsLike_69 : decode cX7_plaitsLike 69 = .ok (.invokestatic 73, 3) := by decide +kernel
theorem dX7_plaitsLike_72 : decode cX7_plaitsLike 72 = .ok (.if_icmp .eq 5, 3) := by decide +kernel
theorem dX7_plaitsLike_75 : decode cX7_plaitsLike 75 = .ok (.iconst 0, 1) := by decide +kernel
theorem dX7_plaitsLike_76 : decode cX7_plaitsLike 76 = .ok (.ireturn, 1) := by decide +kernel
theorem dX7_plaitsLike_77 : decode cX7_plaitsLike 77 = .ok (.lload_n 2, 1) := by decide +kernel
theorem dX7_plaitsLike_78 : decode cX7_plaitsLike 78 = .ok (.lconst 1, 1) := by decide +kernel
theorem dX7_plaitsLike_79 : decode cX7_plaitsLike 79 = .ok (.iload 7, 2) := by decide +kernel
theorem dX7_plaitsLike_81 : decode cX7_plaitsLike 81 = .ok (.lshl, 1) := by decide +kernel
theorem dX7_plaitsLike_82 : decode cX7_plaitsLike 82 = .ok (.ldc2_w 121, 3) := by decide +kernel
theorem dX7_plaitsLike_85 : decode cX7_plaitsLike 85 = .ok (.lxor, 1) := by decide +kernel
theorem dX7_plaitsLike_86 : decode cX7_plaitsLike 86 = .ok (.land, 1) := by decide +kernel
theorem dX7_plaitsLike_87 : decode cX7_plaitsLike 87 = .ok (.lstore_n 2, 1) := by decide +kernel
theorem dX7_plaitsLike_88 : decode cX7_plaitsLike 88 = .ok (.lload 4, 2) := by decide +kernel
theorem dX7_plaitsLike_90 : decode cX7_plaitsLike 90 = .ok (.lconst 1, 1) := by decide +kernel
theorem dX7_plaitsLike_91 : decode cX7_plaitsLike 91 = .ok (.iload 8, 2) := by decide +kernel
theorem dX7_plaitsLike_93 : decode cX7_plaitsLike 93 = .ok (.lshl, 1) := by decide +kernel
theorem dX7_plaitsLike_94 : decode cX7_plaitsLike 94 = .ok (.ldc2_w 121, 3) := by decide +kernel
theorem dX7_plaitsLike_97 : decode cX7_plaitsLike 97 = .ok (.lxor, 1) := by decide +kernel
theorem dX7_plaitsLike_98 : decode cX7_plaitsLike 98 = .ok (.land, 1) := by decide +kernel
theorem dX7_plaitsLike_99 : decode cX7_plaitsLike 99 = .ok (.lstore 4, 2) := by decide +kernel
theorem dX7_plaitsLike_101 : decode cX7_plaitsLike 101 = .ok (.iinc 6 1, 3) := by decide +kernel
theorem dX7_plaitsLike_104 : decode cX7_plaitsLike 104 = .ok (.goto (-76), 3) := by decide +kernel
theorem dX7_plaitsLike_107 : decode cX7_plaitsLike 107 = .ok (.iconst 1, 1) := by decide +kernel
theorem dX7_plaitsLike_108 : decode cX7_plaitsLike 108 = .ok (.ireturn, 1) := by decide +kernel
theorem dX7_looseLetters_0 : decode cX7_looseLetters 0 = .ok (.iconst 0, 1) := by decide +kernel
theorem dX7_looseLetters_1 : decode cX7_looseLetters 1 = .ok (.istore_n 1, 1) := by decide +kernel
theorem dX7_looseLetters_2 : decode cX7_looseLetters 2 = .ok (.iconst 0, 1) := by decide +kernel
theorem dX7_looseLetters_3 : decode cX7_looseLetters 3 = .ok (.istore_n 2, 1) := by decide +kernel
theorem dX7_looseLetters_4 : decode cX7_looseLetters 4 = .ok (.aload_n 0, 1) := by decide +kernel
theorem dX7_looseLetters_5 : decode cX7_looseLetters 5 = .ok (.getfield 33, 3) := by decide +kernel
theorem dX7_looseLetters_8 : decode cX7_looseLetters 8 = .ok (.iconst 1, 1) := by decide +kernel
theorem dX7_looseLetters_9 : decode cX7_looseLetters 9 = .ok (.isub, 1) := by decide +kernel
theorem dX7_looseLetters_10 : decode cX7_looseLetters 10 = .ok (.istore_n 3, 1) := by decide +kernel
theorem dX7_looseLetters_11 : decode cX7_looseLetters 11 = .ok (.iload_n 3, 1) := by decide +kernel
theorem dX7_looseLetters_12 : decode cX7_looseLetters 12 = .ok (.ifCond .lt 52, 3) := by decide +kernel
theorem dX7_looseLetters_15 : decode cX7_looseLetters 15 = .ok (.aload_n 0, 1) := by decide +kernel
theorem dX7_looseLetters_16 : decode cX7_looseLetters 16 = .ok (.getfield 18, 3) := by decide +kernel
theorem dX7_looseLetters_19 : decode cX7_looseLetters 19 = .ok (.iload_n 3, 1) := by decide +kernel
theorem dX7_looseLetters_20 : decode cX7_looseLetters 20 = .ok (.iaload, 1) := by decide +kernel
theorem dX7_looseLetters_21 : decode cX7_looseLetters 21 = .ok (.invokestatic 70, 3) := by decide +kernel
theorem dX7_looseLetters_24 : decode cX7_looseLetters 24 = .ok (.istore 4, 2) := by decide +kernel
theorem dX7_looseLetters_26 : decode cX7_looseLetters 26 = .ok (.iload_n 1, 1) := by decide +kernel
theorem dX7_looseLetters_27 : decode cX7_looseLetters 27 = .ok (.iload 4, 2) := by decide +kernel
theorem dX7_looseLetters_29 : decode cX7_looseLetters 29 = .ok (.ishr, 1) := by decide +kernel
theorem dX7_looseLetters_30 : decode cX7_looseLetters 30 = .ok (.iconst 1, 1) := by decide +kernel
theorem dX7_looseLetters_31 : decode cX7_looseLetters 31 = .ok (.iand, 1) := by decide +kernel
theorem dX7_looseLetters_32 : decode cX7_looseLetters 32 = .ok (.ifCond .ne 17, 3) := by decide +kernel
theorem dX7_looseLetters_35 : decode cX7_looseLetters 35 = .ok (.iload_n 2, 1) := by decide +kernel
theorem dX7_looseLetters_36 : decode cX7_looseLetters 36 = .ok (.iconst 1, 1) := by decide +kernel
theorem dX7_looseLetters_37 : decode cX7_looseLetters 37 = .ok (.aload_n 0, 1) := by decide +kernel
theorem dX7_looseLetters_38 : decode cX7_looseLetters 38 = .ok (.getfield 18, 3) := by decide +kernel
theorem dX7_looseLetters_41 : decode cX7_looseLetters 41 = .ok (.iload_n 3, 1) := by decide +kernel
theorem dX7_looseLetters_42 : decode cX7_looseLetters 42 = .ok (.iaload, 1) := by decide +kernel
theorem dX7_looseLetters_43 : decode cX7_looseLetters 43 = .ok (.invokestatic 73, 3) := by decide +kernel
theorem dX7_looseLetters_46 : decode cX7_looseLetters 46 = .ok (.ishl, 1) := by decide +kernel
theorem dX7_looseLetters_47 : decode cX7_looseLetters 47 = .ok (.ior, 1) := by decide +kernel
theorem dX7_looseLetters_48 : decode cX7_looseLetters 48 = .ok (.istore_n 2, 1) := by decide +kernel
theorem dX7_looseLetters_49 : decode cX7_looseLetters 49 = .ok (.iload_n 1, 1) := by decide +kernel
theorem dX7_looseLetters_50 : decode cX7_looseLetters 50 = .ok (.aload_n 0, 1) := by decide +kernel
theorem dX7_looseLetters_51 : decode cX7_looseLetters 51 = .ok (.iload 4, 2) := by decide +kernel
theorem dX7_looseLetters_53 : decode cX7_looseLetters 53 = .ok (.invokevirtual 67, 3) := by decide +kernel
theorem dX7_looseLetters_56 : decode cX7_looseLetters 56 = .ok (.ior, 1) := by decide +kernel
theorem dX7_looseLetters_57 : decode cX7_looseLetters 57 = .ok (.istore_n 1, 1) := by decide +kernel
theorem dX7_looseLetters_58 : decode cX7_looseLetters 58 = .ok (.iinc 3 (-1), 3) := by decide +kernel
theorem dX7_looseLetters_61 : decode cX7_looseLetters 61 = .ok (.goto (-50), 3) := by decide +kernel
theorem dX7_looseLetters_64 : decode cX7_looseLetters 64 = .ok (.iload_n 2, 1) := by decide +kernel
theorem dX7_looseLetters_65 : decode cX7_looseLetters 65 = .ok (.ireturn, 1) := by decide +kernel
theorem dX7_firstLetters_0 : decode cX7_firstLetters 0 = .ok (.iconst 0, 1) := by decide +kernel
theorem dX7_firstLetters_1 : decode cX7_firstLetters 1 = .ok (.istore_n 1, 1) := by decide +kernel
theorem dX7_firstLetters_2 : decode cX7_firstLetters 2 = .ok (.iconst 0, 1) := by decide +kernel
theorem dX7_firstLetters_3 : decode cX7_firstLetters 3 = .ok (.istore_n 2, 1) := by decide +kernel
theorem dX7_firstLetters_4 : decode cX7_firstLetters 4 = .ok (.iconst 0, 1) := by decide +kernel
theorem dX7_firstLetters_5 : decode cX7_firstLetters 5 = .ok (.istore_n 3, 1) := by decide +kernel
theorem dX7_firstLetters_6 : decode cX7_firstLetters 6 = .ok (.iload_n 3, 1) := by decide +kernel
theorem dX7_firstLetters_7 : decode cX7_firstLetters 7 = .ok (.aload_n 0, 1) := by decide +kernel
theorem dX7_firstLetters_8 : decode cX7_firstLetters 8 = .ok (.getfield 33, 3) := by decide +kernel
theorem dX7_firstLetters_11 : decode cX7_firstLetters 11 = .ok (.if_icmp .ge 52, 3) := by decide +kernel
theorem dX7_firstLetters_14 : decode cX7_firstLetters 14 = .ok (.aload_n 0, 1) := by decide +kernel
theorem dX7_firstLetters_15 : decode cX7_firstLetters 15 = .ok (.getfield 18, 3) := by decide +kernel
theorem dX7_firstLetters_18 : decode cX7_firstLetters 18 = .ok (.iload_n 3, 1) := by decide +kernel
theorem dX7_firstLetters_19 : decode cX7_firstLetters 19 = .ok (.iaload, 1) := by decide +kernel
theorem dX7_firstLetters_20 : decode cX7_firstLetters 20 = .ok (.invokestatic 70, 3) := by decide +kernel
theorem dX7_firstLetters_23 : decode cX7_firstLetters 23 = .ok (.istore 4, 2) := by decide +kernel
theorem dX7_firstLetters_25 : decode cX7_firstLetters 25 = .ok (.iload_n 1, 1) := by decide +kernel
theorem dX7_firstLetters_26 : decode cX7_firstLetters 26 = .ok (.iload 4, 2) := by decide +kernel
theorem dX7_firstLetters_28 : decode cX7_firstLetters 28 = .ok (.ishr, 1) := by decide +kernel
theorem dX7_firstLetters_29 : decode cX7_firstLetters 29 = .ok (.iconst 1, 1) := by decide +kernel
theorem dX7_firstLetters_30 : decode cX7_firstLetters 30 = .ok (.iand, 1) := by decide +kernel
theorem dX7_firstLetters_31 : decode cX7_firstLetters 31 = .ok (.ifCond .ne 17, 3) := by decide +kernel
theorem dX7_firstLetters_34 : decode cX7_firstLetters 34 = .ok (.iload_n 2, 1) := by decide +kernel
theorem dX7_firstLetters_35 : decode cX7_firstLetters 35 = .ok (.iconst 1, 1) := by decide +kernel
theorem dX7_firstLetters_36 : decode cX7_firstLetters 36 = .ok (.aload_n 0, 1) := by decide +kernel
theorem dX7_firstLetters_37 : decode cX7_firstLetters 37 = .ok (.getfield 18, 3) := by decide +kernel
theorem dX7_firstLetters_40 : decode cX7_firstLetters 40 = .ok (.iload_n 3, 1) := by decide +kernel
theorem dX7_firstLetters_41 : decode cX7_firstLetters 41 = .ok (.iaload, 1) := by decide +kernel
theorem dX7_firstLetters_42 : decode cX7_firstLetters 42 = .ok (.invokestatic 73, 3) := by decide +kernel
theorem dX7_firstLetters_45 : decode cX7_firstLetters 45 = .ok (.ishl, 1) := by decide +kernel
theorem dX7_firstLetters_46 : decode cX7_firstLetters 46 = .ok (.ior, 1) := by decide +kernel
theorem dX7_firstLetters_47 : decode cX7_firstLetters 47 = .ok (.istore_n 2, 1) := by decide +kernel
theorem dX7_firstLetters_48 : decode cX7_firstLetters 48 = .ok (.iload_n 1, 1) := by decide +kernel
theorem dX7_firstLetters_49 : decode cX7_firstLetters 49 = .ok (.aload_n 0, 1) := by decide +kernel
theorem dX7_firstLetters_50 : decode cX7_firstLetters 50 = .ok (.iload 4, 2) := by decide +kernel
theorem dX7_firstLetters_52 : decode cX7_firstLetters 52 = .ok (.invokevirtual 67, 3) := by decide +kernel
theorem dX7_firstLetters_55 : decode cX7_firstLetters 55 = .ok (.ior, 1) := by decide +kernel
theorem dX7_firstLetters_56 : decode cX7_firstLetters 56 = .ok (.istore_n 1, 1) := by decide +kernel
theorem dX7_firstLetters_57 : decode cX7_firstLetters 57 = .ok (.iinc 3 1, 3) := by decide +kernel
theorem dX7_firstLetters_60 : decode cX7_firstLetters 60 = .ok (.goto (-54), 3) := by decide +kernel
theorem dX7_firstLetters_63 : decode cX7_firstLetters 63 = .ok (.iload_n 2, 1) := by decide +kernel
theorem dX7_firstLetters_64 : decode cX7_firstLetters 64 = .ok (.ireturn, 1) := by decide +kernel
theorem dX7_toLetOut_0 : decode cX7_toLetOut 0 = .ok (.iconst 0, 1) := by decide +kernel
theorem dX7_toLetOut_1 : decode cX7_toLetOut 1 = .ok (.istore_n 2, 1) := by decide +kernel
theorem dX7_toLetOut_2 : decode cX7_toLetOut 2 = .ok (.iconst 0, 1) := by decide +kernel
theorem dX7_toLetOut_3 : decode cX7_toLetOut 3 = .ok (.istore_n 3, 1) := by decide +kernel
theorem dX7_toLetOut_4 : decode cX7_toLetOut 4 = .ok (.iconst 0, 1) := by decide +kernel
theorem dX7_toLetOut_5 : decode cX7_toLetOut 5 = .ok (.istore 4, 2) := by decide +kernel
theorem dX7_toLetOut_7 : decode cX7_toLetOut 7 = .ok (.iload 4, 2) := by decide +kernel
theorem dX7_toLetOut_9 : decode cX7_toLetOut 9 = .ok (.aload_n 0, 1) := by decide +kernel
theorem dX7_toLetOut_10 : decode cX7_toLetOut 10 = .ok (.getfield 33, 3) := by decide +kernel
theorem dX7_toLetOut_13 : decode cX7_toLetOut 13 = .ok (.if_icmp .ge 52, 3) := by decide +kernel
theorem dX7_toLetOut_16 : decode cX7_toLetOut 16 = .ok (.aload_n 0, 1) := by decide +kernel
theorem dX7_toLetOut_17 : decode cX7_toLetOut 17 = .ok (.getfield 18, 3) := by decide +kernel
theorem dX7_toLetOut_20 : decode cX7_toLetOut 20 = .ok (.iload 4, 2) := by decide +kernel
theorem dX7_toLetOut_22 : decode cX7_toLetOut 22 = .ok (.iaload, 1) := by decide +kernel
theorem dX7_toLetOut_23 : decode cX7_toLetOut 23 = .ok (.invokestatic 70, 3) := by decide +kernel
theorem dX7_toLetOut_26 : decode cX7_toLetOut 26 = .ok (.istore 5, 2) := by decide +kernel
theorem dX7_toLetOut_28 : decode cX7_toLetOut 28 = .ok (.aload_n 0, 1) := by decide +kernel
theorem dX7_toLetOut_29 : decode cX7_toLetOut 29 = .ok (.iload 4, 2) := by decide +kernel
theorem dX7_toLetOut_31 : decode cX7_toLetOut 31 = .ok (.iload_n 1, 1) := by decide +kernel
theorem dX7_toLetOut_32 : decode cX7_toLetOut 32 = .ok (.invokevirtual 123, 3) := by decide +kernel
theorem dX7_toLetOut_35 : decode cX7_toLetOut 35 = .ok (.ifCond .ne 12, 3) := by decide +kernel
theorem dX7_toLetOut_38 : decode cX7_toLetOut 38 = .ok (.iload_n 2, 1) := by decide +kernel
theorem dX7_toLetOut_39 : decode cX7_toLetOut 39 = .ok (.iload 5, 2) := by decide +kernel
theorem dX7_toLetOut_41 : decode cX7_toLetOut 41 = .ok (.ishr, 1) := by decide +kernel
theorem dX7_toLetOut_42 : decode cX7_toLetOut 42 = .ok (.iconst 1, 1) := by decide +kernel
theorem dX7_toLetOut_43 : decode cX7_toLetOut 43 = .ok (.iand, 1) := by decide +kernel
theorem dX7_toLetOut_44 : decode cX7_toLetOut 44 = .ok (.ifCond .eq 15, 3) := by decide +kernel
theorem dX7_toLetOut_47 : decode cX7_toLetOut 47 = .ok (.iinc 3 1, 3) := by decide +kernel
theorem dX7_toLetOut_50 : decode cX7_toLetOut 50 = .ok (.iload_n 2, 1) := by decide +kernel
theorem dX7_toLetOut_51 : decode cX7_toLetOut 51 = .ok (.aload_n 0, 1) := by decide +kernel
theorem dX7_toLetOut_52 : decode cX7_toLetOut 52 = .ok (.iload 5, 2) := by decide +kernel
theorem dX7_toLetOut_54 : decode cX7_toLetOut 54 = .ok (.invokevirtual 67, 3) := by decide +kernel
theorem dX7_toLetOut_57 : decode cX7_toLetOut 57 = .ok (.ior, 1) := by decide +kernel
theorem dX7_toLetOut_58 : decode cX7_toLetOut 58 = .ok (.istore_n 2, 1) := by decide +kernel
theorem dX7_toLetOut_59 : decode cX7_toLetOut 59 = .ok (.iinc 4 1, 3) := by decide +kernel
theorem dX7_toLetOut_62 : decode cX7_toLetOut 62 = .ok (.goto (-55), 3) := by decide +kernel
theorem dX7_toLetOut_65 : decode cX7_toLetOut 65 = .ok (.iload_n 3, 1) := by decide +kernel
theorem dX7_toLetOut_66 : decode cX7_toLetOut 66 = .ok (.ireturn, 1) := by decide +kernel
theorem dX7_isOf_0 : decode cX7_isOf 0 = .ok (.aload_n 0, 1) := by decide +kernel
theorem dX7_isOf_1 : decode cX7_isOf 1 = .ok (.getfield 18, 3) := by decide +kernel
theorem dX7_isOf_4 : decode cX7_isOf 4 = .ok (.iload_n 1, 1) := by decide +kernel
theorem dX7_isOf_5 : decode cX7_isOf 5 = .ok (.iaload, 1) := by decide +kernel
theorem dX7_isOf_6 : decode cX7_isOf 6 = .ok (.invokestatic 127, 3) := by decide +kernel
theorem dX7_isOf_9 : decode cX7_isOf 9 = .ok (.iload_n 2, 1) := by decide +kernel
theorem dX7_isOf_10 : decode cX7_isOf 10 = .ok (.if_icmp .eq 16, 3) := by decide +kernel
theorem dX7_isOf_13 : decode cX7_isOf 13 = .ok (.aload_n 0, 1) := by decide +kernel
theorem dX7_isOf_14 : decode cX7_isOf 14 = .ok (.getfield 18, 3) := by decide +kernel
theorem dX7_isOf_17 : decode cX7_isOf 17 = .ok (.iload_n 1, 1) := by decide +kernel
theorem dX7_isOf_18 : decode cX7_isOf 18 = .ok (.iaload, 1) := by decide +kernel
theorem dX7_isOf_19 : decode cX7_isOf 19 = .ok (.invokestatic 130, 3) := by decide +kernel
theorem dX7_isOf_22 : decode cX7_isOf 22 = .ok (.iload_n 2, 1) := by decide +kernel
theorem dX7_isOf_23 : decode cX7_isOf 23 = .ok (.if_icmp .ne 7, 3) := by decide +kernel
theorem dX7_isOf_26 : decode cX7_isOf 26 = .ok (.iconst 1, 1) := by decide +kernel
theorem dX7_isOf_27 : decode cX7_isOf 27 = .ok (.goto 4, 3) := by decide +kernel
theorem dX7_isOf_30 : decode cX7_isOf 30 = .ok (.iconst 0, 1) := by decide +kernel
theorem dX7_isOf_31 : decode cX7_isOf 31 = .ok (.ireturn, 1) := by decide +kernel
theorem dX7_oversOf_0 : decode cX7_oversOf 0 = .ok (.iconst 0, 1) := by decide +kernel
theorem dX7_oversOf_1 : decode cX7_oversOf 1 = .ok (.istore_n 3, 1) := by decide +kernel
theorem dX7_oversOf_2 : decode cX7_oversOf 2 = .ok (.iconst 0, 1) := by decide +kernel
theorem dX7_oversOf_3 : decode cX7_oversOf 3 = .ok (.istore 4, 2) := by decide +kernel
theorem dX7_oversOf_5 : decode cX7_oversOf 5 = .ok (.iload 4, 2) := by decide +kernel
theorem dX7_oversOf_7 : decode cX7_oversOf 7 = .ok (.aload_n 0, 1) := by decide +kernel
theorem dX7_oversOf_8 : decode cX7_oversOf 8 = .ok (.getfield 33, 3) := by decide +kernel
theorem dX7_oversOf_11 : decode cX7_oversOf 11 = .ok (.if_icmp .ge 40, 3) := by decide +kernel
theorem dX7_oversOf_14 : decode cX7_oversOf 14 = .ok (.aload_n 0, 1) := by decide +kernel
theorem dX7_oversOf_15 : decode cX7_oversOf 15 = .ok (.getfield 18, 3) := by decide +kernel
theorem dX7_oversOf_18 : decode cX7_oversOf 18 = .ok (.iload 4, 2) := by decide +kernel
theorem dX7_oversOf_20 : decode cX7_oversOf 20 = .ok (.iaload, 1) := by decide +kernel
theorem dX7_oversOf_21 : decode cX7_oversOf 21 = .ok (.invokestatic 127, 3) := by decide +kernel
theorem dX7_oversOf_24 : decode cX7_oversOf 24 = .ok (.iload_n 1, 1) := by decide +kernel
theorem dX7_oversOf_25 : decode cX7_oversOf 25 = .ok (.if_icmp .ne 20, 3) := by decide +kernel
theorem dX7_oversOf_28 : decode cX7_oversOf 28 = .ok (.aload_n 0, 1) := by decide +kernel
theorem dX7_oversOf_29 : decode cX7_oversOf 29 = .ok (.getfield 18, 3) := by decide +kernel
theorem dX7_oversOf_32 : decode cX7_oversOf 32 = .ok (.iload 4, 2) := by decide +kernel
theorem dX7_oversOf_34 : decode cX7_oversOf 34 = .ok (.iaload, 1) := by decide +kernel
theorem dX7_oversOf_35 : decode cX7_oversOf 35 = .ok (.invokestatic 130, 3) := by decide +kernel
theorem dX7_oversOf_38 : decode cX7_oversOf 38 = .ok (.iload_n 2, 1) := by decide +kernel
theorem dX7_oversOf_39 : decode cX7_oversOf 39 = .ok (.if_icmp .ne 6, 3) := by decide +kernel
theorem dX7_oversOf_42 : decode cX7_oversOf 42 = .ok (.iinc 3 1, 3) := by decide +kernel
theorem dX7_oversOf_45 : decode cX7_oversOf 45 = .ok (.iinc 4 1, 3) := by decide +kernel
theorem dX7_oversOf_48 : decode cX7_oversOf 48 = .ok (.goto (-43), 3) := by decide +kernel
theorem dX7_oversOf_51 : decode cX7_oversOf 51 = .ok (.iload_n 3, 1) := by decide +kernel
theorem dX7_oversOf_52 : decode cX7_oversOf 52 = .ok (.ireturn, 1) := by decide +kernel
theorem dX7_crossingsOf_0 : decode cX7_crossingsOf 0 = .ok (.iconst 0, 1) := by decide +kernel
theorem dX7_crossingsOf_1 : decode cX7_crossingsOf 1 = .ok (.istore_n 2, 1) := by decide +kernel
theorem dX7_crossingsOf_2 : decode cX7_crossingsOf 2 = .ok (.iconst 0, 1) := by decide +kernel
theorem dX7_crossingsOf_3 : decode cX7_crossingsOf 3 = .ok (.istore_n 3, 1) := by decide +kernel
theorem dX7_crossingsOf_4 : decode cX7_crossingsOf 4 = .ok (.iload_n 3, 1) := by decide +kernel
theorem dX7_crossingsOf_5 : decode cX7_crossingsOf 5 = .ok (.aload_n 0, 1) := by decide +kernel
theorem dX7_crossingsOf_6 : decode cX7_crossingsOf 6 = .ok (.getfield 33, 3) := by decide +kernel
theorem dX7_crossingsOf_9 : decode cX7_crossingsOf 9 = .ok (.if_icmp .ge 21, 3) := by decide +kernel
theorem dX7_crossingsOf_12 : decode cX7_crossingsOf 12 = .ok (.aload_n 0, 1) := by decide +kernel
theorem dX7_crossingsOf_13 : decode cX7_crossingsOf 13 = .ok (.iload_n 3, 1) := by decide +kernel
theorem dX7_crossingsOf_14 : decode cX7_crossingsOf 14 = .ok (.iload_n 1, 1) := by decide +kernel
theorem dX7_crossingsOf_15 : decode cX7_crossingsOf 15 = .ok (.invokevirtual 123, 3) := by decide +kernel
theorem dX7_crossingsOf_18 : decode cX7_crossingsOf 18 = .ok (.ifCond .eq 6, 3) := by decide +kernel
theorem dX7_crossingsOf_21 : decode cX7_crossingsOf 21 = .ok (.iinc 2 1, 3) := by decide +kernel
theorem dX7_crossingsOf_24 : decode cX7_crossingsOf 24 = .ok (.iinc 3 1, 3) := by decide +kernel
theorem dX7_crossingsOf_27 : decode cX7_crossingsOf 27 = .ok (.goto (-23), 3) := by decide +kernel
theorem dX7_crossingsOf_30 : decode cX7_crossingsOf 30 = .ok (.iload_n 2, 1) := by decide +kernel
theorem dX7_crossingsOf_31 : decode cX7_crossingsOf 31 = .ok (.ireturn, 1) := by decide +kernel
theorem dX7_takenOf_0 : decode cX7_takenOf 0 = .ok (.iconst 0, 1) := by decide +kernel
theorem dX7_takenOf_1 : decode cX7_takenOf 1 = .ok (.istore_n 2, 1) := by decide +kernel
theorem dX7_takenOf_2 : decode cX7_takenOf 2 = .ok (.iconst 0, 1) := by decide +kernel
theorem dX7_takenOf_3 : decode cX7_takenOf 3 = .ok (.istore_n 3, 1) := by decide +kernel
theorem dX7_takenOf_4 : decode cX7_takenOf 4 = .ok (.iload_n 3, 1) := by decide +kernel
theorem dX7_takenOf_5 : decode cX7_takenOf 5 = .ok (.aload_n 0, 1) := by decide +kernel
theorem dX7_takenOf_6 : decode cX7_takenOf 6 = .ok (.getfield 33, 3) := by decide +kernel
theorem dX7_takenOf_9 : decode cX7_takenOf 9 = .ok (.if_icmp .ge 30, 3) := by decide +kernel
theorem dX7_takenOf_12 : decode cX7_takenOf 12 = .ok (.aload_n 0, 1) := by decide +kernel
theorem dX7_takenOf_13 : decode cX7_takenOf 13 = .ok (.iload_n 3, 1) := by decide +kernel
theorem dX7_takenOf_14 : decode cX7_takenOf 14 = .ok (.iload_n 1, 1) := by decide +kernel
theorem dX7_takenOf_15 : decode cX7_takenOf 15 = .ok (.invokevirtual 123, 3) := by decide +kernel
theorem dX7_takenOf_18 : decode cX7_takenOf 18 = .ok (.ifCond .eq 15, 3) := by decide +kernel
theorem dX7_takenOf_21 : decode cX7_takenOf 21 = .ok (.iload_n 2, 1) := by decide +kernel
theorem dX7_takenOf_22 : decode cX7_takenOf 22 = .ok (.aload_n 0, 1) := by decide +kernel
theorem dX7_takenOf_23 : decode cX7_takenOf 23 = .ok (.getfield 18, 3) := by decide +kernel
theorem dX7_takenOf_26 : decode cX7_takenOf 26 = .ok (.iload_n 3, 1) := by decide +kernel
theorem dX7_takenOf_27 : decode cX7_takenOf 27 = .ok (.iaload, 1) := by decide +kernel
theorem dX7_takenOf_28 : decode cX7_takenOf 28 = .ok (.invokestatic 133, 3) := by decide +kernel
theorem dX7_takenOf_31 : decode cX7_takenOf 31 = .ok (.iadd, 1) := by decide +kernel
theorem dX7_takenOf_32 : decode cX7_takenOf 32 = .ok (.istore_n 2, 1) := by decide +kernel
theorem dX7_takenOf_33 : decode cX7_takenOf 33 = .ok (.iinc 3 1, 3) := by decide +kernel
theorem dX7_takenOf_36 : decode cX7_takenOf 36 = .ok (.goto (-32), 3) := by decide +kernel
theorem dX7_takenOf_39 : decode cX7_takenOf 39 = .ok (.iload_n 2, 1) := by decide +kernel
theorem dX7_takenOf_40 : decode cX7_takenOf 40 = .ok (.ireturn, 1) := by decide +kernel
theorem dX7_takenOfAll_0 : decode cX7_takenOfAll 0 = .ok (.iconst 0, 1) := by decide +kernel
theorem dX7_takenOfAll_1 : decode cX7_takenOfAll 1 = .ok (.istore_n 1, 1) := by decide +kernel
theorem dX7_takenOfAll_2 : decode cX7_takenOfAll 2 = .ok (.iconst 0, 1) := by decide +kernel
theorem dX7_takenOfAll_3 : decode cX7_takenOfAll 3 = .ok (.istore_n 2, 1) := by decide +kernel
theorem dX7_takenOfAll_4 : decode cX7_takenOfAll 4 = .ok (.iload_n 2, 1) := by decide +kernel
theorem dX7_takenOfAll_5 : decode cX7_takenOfAll 5 = .ok (.aload_n 0, 1) := by decide +kernel
theorem dX7_takenOfAll_6 : decode cX7_takenOfAll 6 = .ok (.getfield 33, 3) := by decide +kernel
theorem dX7_takenOfAll_9 : decode cX7_takenOfAll 9 = .ok (.if_icmp .ge 23, 3) := by decide +kernel
theorem dX7_takenOfAll_12 : decode cX7_takenOfAll 12 = .ok (.iload_n 1, 1) := by decide +kernel
theorem dX7_takenOfAll_13 : decode cX7_takenOfAll 13 = .ok (.iconst 2, 1) := by decide +kernel
theorem dX7_takenOfAll_14 : decode cX7_takenOfAll 14 = .ok (.aload_n 0, 1) := by decide +kernel
theorem dX7_takenOfAll_15 : decode cX7_takenOfAll 15 = .ok (.getfield 18, 3) := by decide +kernel
theorem dX7_takenOfAll_18 : decode cX7_takenOfAll 18 = .ok (.iload_n 2, 1) := by decide +kernel
theorem dX7_takenOfAll_19 : decode cX7_takenOfAll 19 = .ok (.iaload, 1) := by decide +kernel
theorem dX7_takenOfAll_20 : decode cX7_takenOfAll 20 = .ok (.invokestatic 133, 3) := by decide +kernel
theorem dX7_takenOfAll_23 : decode cX7_takenOfAll 23 = .ok (.imul, 1) := by decide +kernel
theorem dX7_takenOfAll_24 : decode cX7_takenOfAll 24 = .ok (.iadd, 1) := by decide +kernel
theorem dX7_takenOfAll_25 : decode cX7_takenOfAll 25 = .ok (.istore_n 1, 1) := by decide +kernel
theorem dX7_takenOfAll_26 : decode cX7_takenOfAll 26 = .ok (.iinc 2 1, 3) := by decide +kernel
theorem dX7_takenOfAll_29 : decode cX7_takenOfAll 29 = .ok (.goto (-25), 3) := by decide +kernel
theorem dX7_takenOfAll_32 : decode cX7_takenOfAll 32 = .ok (.iload_n 1, 1) := by decide +kernel
theorem dX7_takenOfAll_33 : decode cX7_takenOfAll 33 = .ok (.ireturn, 1) := by decide +kernel
theorem dX7_leftOf_0 : decode cX7_leftOf 0 = .ok (.aload_n 0, 1) := by decide +kernel
theorem dX7_leftOf_1 : decode cX7_leftOf 1 = .ok (.getfield 15, 3) := by decide +kernel
theorem dX7_leftOf_4 : decode cX7_leftOf 4 = .ok (.iload_n 1, 1) := by decide +kernel
theorem dX7_leftOf_5 : decode cX7_leftOf 5 = .ok (.bipush 7, 2) := by decide +kernel
theorem dX7_leftOf_7 : decode cX7_leftOf 7 = .ok (.iand, 1) := by decide +kernel
theorem dX7_leftOf_8 : decode cX7_leftOf 8 = .ok (.iaload, 1) := by decide +kernel
theorem dX7_leftOf_9 : decode cX7_leftOf 9 = .ok (.aload_n 0, 1) := by decide +kernel
theorem dX7_leftOf_10 : decode cX7_leftOf 10 = .ok (.iload_n 1, 1) := by decide +kernel
theorem dX7_leftOf_11 : decode cX7_leftOf 11 = .ok (.invokevirtual 136, 3) := by decide +kernel
theorem dX7_leftOf_14 : decode cX7_leftOf 14 = .ok (.isub, 1) := by decide +kernel
theorem dX7_leftOf_15 : decode cX7_leftOf 15 = .ok (.ireturn, 1) := by decide +kernel
theorem dX7_depth_0 : decode cX7_depth 0 = .ok (.iconst 0, 1) := by decide +kernel
theorem dX7_depth_1 : decode cX7_depth 1 = .ok (.istore_n 1, 1) := by decide +kernel
theorem dX7_depth_2 : decode cX7_depth 2 = .ok (.iconst 0, 1) := by decide +kernel
theorem dX7_depth_3 : decode cX7_depth 3 = .ok (.istore_n 2, 1) := by decide +kernel
theorem dX7_depth_4 : decode cX7_depth 4 = .ok (.iload_n 2, 1) := by decide +kernel
theorem dX7_depth_5 : decode cX7_depth 5 = .ok (.aload_n 0, 1) := by decide +kernel
theorem dX7_depth_6 : decode cX7_depth 6 = .ok (.getfield 33, 3) := by decide +kernel
theorem dX7_depth_9 : decode cX7_depth 9 = .ok (.if_icmp .ge 23, 3) := by decide +kernel
theorem dX7_depth_12 : decode cX7_depth 12 = .ok (.iload_n 1, 1) := by decide +kernel
theorem dX7_depth_13 : decode cX7_depth 13 = .ok (.aload_n 0, 1) := by decide +kernel
theorem dX7_depth_14 : decode cX7_depth 14 = .ok (.getfield 18, 3) := by decide +kernel
theorem dX7_depth_17 : decode cX7_depth 17 = .ok (.iload_n 2, 1) := by decide +kernel
theorem dX7_depth_18 : decode cX7_depth 18 = .ok (.iaload, 1) := by decide +kernel
theorem dX7_depth_19 : decode cX7_depth 19 = .ok (.invokestatic 76, 3) := by decide +kernel
theorem dX7_depth_22 : decode cX7_depth 22 = .ok (.invokestatic 79, 3) := by decide +kernel
theorem dX7_depth_25 : decode cX7_depth 25 = .ok (.istore_n 1, 1) := by decide +kernel
theorem dX7_depth_26 : decode cX7_depth 26 = .ok (.iinc 2 1, 3) := by decide +kernel
theorem dX7_depth_29 : decode cX7_depth 29 = .ok (.goto (-25), 3) := by decide +kernel
theorem dX7_depth_32 : decode cX7_depth 32 = .ok (.iload_n 1, 1) := by decide +kernel
theorem dX7_depth_33 : decode cX7_depth 33 = .ok (.ireturn, 1) := by decide +kernel
theorem dX7_twist_0 : decode cX7_twist 0 = .ok (.iconst 0, 1) := by decide +kernel
theorem dX7_twist_1 : decode cX7_twist 1 = .ok (.istore_n 1, 1) := by decide +kernel
theorem dX7_twist_2 : decode cX7_twist 2 = .ok (.iconst 0, 1) := by decide +kernel
theorem dX7_twist_3 : decode cX7_twist 3 = .ok (.istore_n 2, 1) := by decide +kernel
theorem dX7_twist_4 : decode cX7_twist 4 = .ok (.iload_n 2, 1) := by decide +kernel
theorem dX7_twist_5 : decode cX7_twist 5 = .ok (.aload_n 0, 1) := by decide +kernel
theorem dX7_twist_6 : decode cX7_twist 6 = .ok (.getfield 33, 3) := by decide +kernel
theorem dX7_twist_9 : decode cX7_twist 9 = .ok (.if_icmp .ge 31, 3) := by decide +kernel
theorem dX7_twist_12 : decode cX7_twist 12 = .ok (.iload_n 1, 1) := by decide +kernel
theorem dX7_twist_13 : decode cX7_twist 13 = .ok (.aload_n 0, 1) := by decide +kernel
theorem dX7_twist_14 : decode cX7_twist 14 = .ok (.getfield 18, 3) := by decide +kernel
theorem dX7_twist_17 : decode cX7_twist 17 = .ok (.iload_n 2, 1) := by decide +kernel
theorem dX7_twist_18 : decode cX7_twist 18 = .ok (.iaload, 1) := by decide +kernel
theorem dX7_twist_19 : decode cX7_twist 19 = .ok (.invokestatic 73, 3) := by decide +kernel
theorem dX7_twist_22 : decode cX7_twist 22 = .ok (.iconst 1, 1) := by decide +kernel
theorem dX7_twist_23 : decode cX7_twist 23 = .ok (.iand, 1) := by decide +kernel
theorem dX7_twist_24 : decode cX7_twist 24 = .ok (.ifCond .ne 7, 3) := by decide +kernel
theorem dX7_twist_27 : decode cX7_twist 27 = .ok (.iconst 1, 1) := by decide +kernel
theorem dX7_twist_28 : decode cX7_twist 28 = .ok (.goto 4, 3) := by decide +kernel
theorem dX7_twist_31 : decode cX7_twist 31 = .ok (.iconst (-1), 1) := by decide +kernel
theorem dX7_twist_32 : decode cX7_twist 32 = .ok (.iadd, 1) := by decide +kernel
theorem dX7_twist_33 : decode cX7_twist 33 = .ok (.istore_n 1, 1) := by decide +kernel
theorem dX7_twist_34 : decode cX7_twist 34 = .ok (.iinc 2 1, 3) := by decide +kernel
theorem dX7_twist_37 : decode cX7_twist 37 = .ok (.goto (-33), 3) := by decide +kernel
theorem dX7_twist_40 : decode cX7_twist 40 = .ok (.iload_n 1, 1) := by decide +kernel
theorem dX7_twist_41 : decode cX7_twist 41 = .ok (.ireturn, 1) := by decide +kernel
theorem dX7_orderOfAll_0 : decode cX7_orderOfAll 0 = .ok (.iconst 0, 1) := by decide +kernel
theorem dX7_orderOfAll_1 : decode cX7_orderOfAll 1 = .ok (.istore_n 1, 1) := by decide +kernel
theorem dX7_orderOfAll_2 : decode cX7_orderOfAll 2 = .ok (.iconst 0, 1) := by decide +kernel
theorem dX7_orderOfAll_3 : decode cX7_orderOfAll 3 = .ok (.istore_n 2, 1) := by decide +kernel
theorem dX7_orderOfAll_4 : decode cX7_orderOfAll 4 = .ok (.iload_n 2, 1) := by decide +kernel
theorem dX7_orderOfAll_5 : decode cX7_orderOfAll 5 = .ok (.aload_n 0, 1) := by decide +kernel
theorem dX7_orderOfAll_6 : decode cX7_orderOfAll 6 = .ok (.getfield 30, 3) := by decide +kernel
theorem dX7_orderOfAll_9 : decode cX7_orderOfAll 9 = .ok (.if_icmp .ge 21, 3) := by decide +kernel
theorem dX7_orderOfAll_12 : decode cX7_orderOfAll 12 = .ok (.bipush 10, 2) := by decide +kernel
theorem dX7_orderOfAll_14 : decode cX7_orderOfAll 14 = .ok (.iload_n 1, 1) := by decide +kernel
theorem dX7_orderOfAll_15 : decode cX7_orderOfAll 15 = .ok (.imul, 1) := by decide +kernel
theorem dX7_orderOfAll_16 : decode cX7_orderOfAll 16 = .ok (.aload_n 0, 1) := by decide +kernel
theorem dX7_orderOfAll_17 : decode cX7_orderOfAll 17 = .ok (.getfield 9, 3) := by decide +kernel
theorem dX7_orderOfAll_20 : decode cX7_orderOfAll 20 = .ok (.iload_n 2, 1) := by decide +kernel
theorem dX7_orderOfAll_21 : decode cX7_orderOfAll 21 = .ok (.iaload, 1) := by decide +kernel
theorem dX7_orderOfAll_22 : decode cX7_orderOfAll 22 = .ok (.iadd, 1) := by decide +kernel
theorem dX7_orderOfAll_23 : decode cX7_orderOfAll 23 = .ok (.istore_n 1, 1) := by decide +kernel
theorem dX7_orderOfAll_24 : decode cX7_orderOfAll 24 = .ok (.iinc 2 1, 3) := by decide +kernel
theorem dX7_orderOfAll_27 : decode cX7_orderOfAll 27 = .ok (.goto (-23), 3) := by decide +kernel
theorem dX7_orderOfAll_30 : decode cX7_orderOfAll 30 = .ok (.iload_n 1, 1) := by decide +kernel
theorem dX7_orderOfAll_31 : decode cX7_orderOfAll 31 = .ok (.ireturn, 1) := by decide +kernel
theorem dX7_freeDancers_0 : decode cX7_freeDancers 0 = .ok (.iconst 1, 1) := by decide +kernel
theorem dX7_freeDancers_1 : decode cX7_freeDancers 1 = .ok (.aload_n 0, 1) := by decide +kernel
theorem dX7_freeDancers_2 : decode cX7_freeDancers 2 = .ok (.getfield 30, 3) := by decide +kernel
theorem dX7_freeDancers_5 : decode cX7_freeDancers 5 = .ok (.ishl, 1) := by decide +kernel
theorem dX7_freeDancers_6 : decode cX7_freeDancers 6 = .ok (.iconst 1, 1) := by decide +kernel
theorem dX7_freeDancers_7 : decode cX7_freeDancers 7 = .ok (.isub, 1) := by decide +kernel
theorem dX7_freeDancers_8 : decode cX7_freeDancers 8 = .ok (.istore_n 1, 1) := by decide +kernel
theorem dX7_freeDancers_9 : decode cX7_freeDancers 9 = .ok (.iconst 0, 1) := by decide +kernel
theorem dX7_freeDancers_10 : decode cX7_freeDancers 10 = .ok (.istore_n 2, 1) := by decide +kernel
theorem dX7_freeDancers_11 : decode cX7_freeDancers 11 = .ok (.iload_n 2, 1) := by decide +kernel
theorem dX7_freeDancers_12 : decode cX7_freeDancers 12 = .ok (.aload_n 0, 1) := by decide +kernel
theorem dX7_freeDancers_13 : decode cX7_freeDancers 13 = .ok (.getfield 33, 3) := by decide +kernel
theorem dX7_freeDancers_16 : decode cX7_freeDancers 16 = .ok (.if_icmp .ge 37, 3) := by decide +kernel
theorem dX7_freeDancers_19 : decode cX7_freeDancers 19 = .ok (.iload_n 1, 1) := by decide +kernel
theorem dX7_freeDancers_20 : decode cX7_freeDancers 20 = .ok (.iconst 1, 1) := by decide +kernel
theorem dX7_freeDancers_21 : decode cX7_freeDancers 21 = .ok (.aload_n 0, 1) := by decide +kernel
theorem dX7_freeDancers_22 : decode cX7_freeDancers 22 = .ok (.getfield 18, 3) := by decide +kernel
theorem dX7_freeDancers_25 : decode cX7_freeDancers 25 = .ok (.iload_n 2, 1) := by decide +kernel
theorem dX7_freeDancers_26 : decode cX7_freeDancers 26 = .ok (.iaload, 1) := by decide +kernel
theorem dX7_freeDancers_27 : decode cX7_freeDancers 27 = .ok (.invokestatic 127, 3) := by decide +kernel
theorem dX7_freeDancers_30 : decode cX7_freeDancers 30 = .ok (.ishl, 1) := by decide +kernel
theorem dX7_freeDancers_31 : decode cX7_freeDancers 31 = .ok (.iconst 1, 1) := by decide +kernel
theorem dX7_freeDancers_32 : decode cX7_freeDancers 32 = .ok (.aload_n 0, 1) := by decide +kernel
theorem dX7_freeDancers_33 : decode cX7_freeDancers 33 = .ok (.getfield 18, 3) := by decide +kernel
theorem dX7_freeDancers_36 : decode cX7_freeDancers 36 = .ok (.iload_n 2, 1) := by decide +kernel
theorem dX7_freeDancers_37 : decode cX7_freeDancers 37 = .ok (.iaload, 1) := by decide +kernel
theorem dX7_freeDancers_38 : decode cX7_freeDancers 38 = .ok (.invokestatic 130, 3) := by decide +kernel
theorem dX7_freeDancers_41 : decode cX7_freeDancers 41 = .ok (.ishl, 1) := by decide +kernel
theorem dX7_freeDancers_42 : decode cX7_freeDancers 42 = .ok (.ior, 1) := by decide +kernel
theorem dX7_freeDancers_43 : decode cX7_freeDancers 43 = .ok (.iconst (-1), 1) := by decide +kernel
theorem dX7_freeDancers_44 : decode cX7_freeDancers 44 = .ok (.ixor, 1) := by decide +kernel
theorem dX7_freeDancers_45 : decode cX7_freeDancers 45 = .ok (.iand, 1) := by decide +kernel
theorem dX7_freeDancers_46 : decode cX7_freeDancers 46 = .ok (.istore_n 1, 1) := by decide +kernel
theorem dX7_freeDancers_47 : decode cX7_freeDancers 47 = .ok (.iinc 2 1, 3) := by decide +kernel
theorem dX7_freeDancers_50 : decode cX7_freeDancers 50 = .ok (.goto (-39), 3) := by decide +kernel
theorem dX7_freeDancers_53 : decode cX7_freeDancers 53 = .ok (.iload_n 1, 1) := by decide +kernel
theorem dX7_freeDancers_54 : decode cX7_freeDancers 54 = .ok (.ireturn, 1) := by decide +kernel
theorem dX7_atHome_0 : decode cX7_atHome 0 = .ok (.iconst 0, 1) := by decide +kernel
theorem dX7_atHome_1 : decode cX7_atHome 1 = .ok (.istore_n 1, 1) := by decide +kernel
theorem dX7_atHome_2 : decode cX7_atHome 2 = .ok (.iconst 0, 1) := by decide +kernel
theorem dX7_atHome_3 : decode cX7_atHome 3 = .ok (.istore_n 2, 1) := by decide +kernel
theorem dX7_atHome_4 : decode cX7_atHome 4 = .ok (.iload_n 2, 1) := by decide +kernel
theorem dX7_atHome_5 : decode cX7_atHome 5 = .ok (.aload_n 0, 1) := by decide +kernel
theorem dX7_atHome_6 : decode cX7_atHome 6 = .ok (.getfield 30, 3) := by decide +kernel
theorem dX7_atHome_9 : decode cX7_atHome 9 = .ok (.if_icmp .ge 22, 3) := by decide +kernel
theorem dX7_atHome_12 : decode cX7_atHome 12 = .ok (.aload_n 0, 1) := by decide +kernel
theorem dX7_atHome_13 : decode cX7_atHome 13 = .ok (.getfield 9, 3) := by decide +kernel
theorem dX7_atHome_16 : decode cX7_atHome 16 = .ok (.iload_n 2, 1) := by decide +kernel
theorem dX7_atHome_17 : decode cX7_atHome 17 = .ok (.iaload, 1) := by decide +kernel
theorem dX7_atHome_18 : decode cX7_atHome 18 = .ok (.iload_n 2, 1) := by decide +kernel
theorem dX7_atHome_19 : decode cX7_atHome 19 = .ok (.if_icmp .ne 6, 3) := by decide +kernel
theorem dX7_atHome_22 : decode cX7_atHome 22 = .ok (.iinc 1 1, 3) := by decide +kernel
theorem dX7_atHome_25 : decode cX7_atHome 25 = .ok (.iinc 2 1, 3) := by decide +kernel
theorem dX7_atHome_28 : decode cX7_atHome 28 = .ok (.goto (-24), 3) := by decide +kernel
theorem dX7_atHome_31 : decode cX7_atHome 31 = .ok (.iload_n 1, 1) := by decide +kernel
theorem dX7_atHome_32 : decode cX7_atHome 32 = .ok (.ireturn, 1) := by decide +kernel
theorem dX8_init_0 : decode cX8_init 0 = .ok (.aload_n 0, 1) := by decide +kernel
theorem dX8_init_1 : decode cX8_init 1 = .ok (.invokespecial 3, 3) := by decide +kernel
theorem dX8_init_4 : decode cX8_init 4 = .ok (.aload_n 0, 1) := by decide +kernel
theorem dX8_init_5 : decode cX8_init 5 = .ok (.aload_n 1, 1) := by decide +kernel
theorem dX8_init_6 : decode cX8_init 6 = .ok (.putfield 9, 3) := by decide +kernel
theorem dX8_init_9 : decode cX8_init 9 = .ok (.return_, 1) := by decide +kernel
theorem dX8_nextSign_0 : decode cX8_nextSign 0 = .ok (.aload_n 0, 1) := by decide +kernel
theorem dX8_nextSign_1 : decode cX8_nextSign 1 = .ok (.getfield 15, 3) := by decide +kernel
theorem dX8_nextSign_4 : decode cX8_nextSign 4 = .ok (.aload_n 0, 1) := by decide +kernel
theorem dX8_nextSign_5 : decode cX8_nextSign 5 = .ok (.getfield 9, 3) := by decide +kernel
theorem dX8_nextSign_8 : decode cX8_nextSign 8 = .ok (.getfield 19, 3) := by decide +kernel
theorem dX8_nextSign_11 : decode cX8_nextSign 11 = .ok (.if_icmp .ge 33, 3) := by decide +kernel
theorem dX8_nextSign_14 : decode cX8_nextSign 14 = .ok (.aload_n 0, 1) := by decide +kernel
theorem dX8_nextSign_15 : decode cX8_nextSign 15 = .ok (.getfield 9, 3) := by decide +kernel
theorem dX8_nextSign_18 : decode cX8_nextSign 18 = .ok (.getfield 24, 3) := by decide +kernel
theorem dX8_nextSign_21 : decode cX8_nextSign 21 = .ok (.aload_n 0, 1) := by decide +kernel
theorem dX8_nextSign_22 : decode cX8_nextSign 22 = .ok (.getfield 15, 3) := by decide +kernel
theorem dX8_nextSign_25 : decode cX8_nextSign 25 = .ok (.iaload, 1) := by decide +kernel
theorem dX8_nextSign_26 : decode cX8_nextSign 26 = .ok (.bipush 32, 2) := by decide +kernel
theorem dX8_nextSign_28 : decode cX8_nextSign 28 = .ok (.if_icmp .ne 16, 3) := by decide +kernel
theorem dX8_nextSign_31 : decode cX8_nextSign 31 = .ok (.aload_n 0, 1) := by decide +kernel
theorem dX8_nextSign_32 : decode cX8_nextSign 32 = .ok (.dup, 1) := by decide +kernel
theorem dX8_nextSign_33 : decode cX8_nextSign 33 = .ok (.getfield 15, 3) := by decide +kernel
theorem dX8_nextSign_36 : decode cX8_nextSign 36 = .ok (.iconst 1, 1) := by decide +kernel
theorem dX8_nextSign_37 : decode cX8_nextSign 37 = .ok (.iadd, 1) := by decide +kernel
theorem dX8_nextSign_38 : decode cX8_nextSign 38 = .ok (.putfield 15, 3) := by decide +kernel
theorem dX8_nextSign_41 : decode cX8_nextSign 41 = .ok (.goto (-41), 3) := by decide +kernel
theorem dX8_nextSign_44 : decode cX8_nextSign 44 = .ok (.aload_n 0, 1) := by decide +kernel
theorem dX8_nextSign_45 : decode cX8_nextSign 45 = .ok (.getfield 15, 3) := by decide +kernel
theorem dX8_nextSign_48 : decode cX8_nextSign 48 = .ok (.aload_n 0, 1) := by decide +kernel
theorem dX8_nextSign_49 : decode cX8_nextSign 49 = .ok (.getfield 9, 3) := by decide +kernel
theorem dX8_nextSign_52 : decode cX8_nextSign 52 = .ok (.getfield 19, 3) := by decide +kernel
theorem dX8_nextSign_55 : decode cX8_nextSign 55 = .ok (.if_icmp .ge 18, 3) := by decide +kernel
theorem dX8_nextSign_58 : decode cX8_nextSign 58 = .ok (.aload_n 0, 1) := by decide +kernel
theorem dX8_nextSign_59 : decode cX8_nextSign 59 = .ok (.getfield 9, 3) := by decide +kernel
theorem dX8_nextSign_62 : decode cX8_nextSign 62 = .ok (.getfield 24, 3) := by decide +kernel
theorem dX8_nextSign_65 : decode cX8_nextSign 65 = .ok (.aload_n 0, 1) := by decide +kernel
theorem dX8_nextSign_66 : decode cX8_nextSign 66 = .ok (.getfield 15, 3) := by decide +kernel
theorem dX8_nextSign_69 : decode cX8_nextSign 69 = .ok (.iaload, 1) := by decide +kernel
theorem dX8_nextSign_70 : decode cX8_nextSign 70 = .ok (.goto 4, 3) := by decide +kernel
theorem dX8_nextSign_73 : decode cX8_nextSign 73 = .ok (.iconst (-1), 1) := by decide +kernel
theorem dX8_nextSign_74 : decode cX8_nextSign 74 = .ok (.ireturn, 1) := by decide +kernel
theorem dX8_passes_0 : decode cX8_passes 0 = .ok (.aload_n 0, 1) := by decide +kernel
theorem dX8_passes_1 : decode cX8_passes 1 = .ok (.invokevirtual 28, 3) := by decide +kernel
theorem dX8_passes_4 : decode cX8_passes 4 = .ok (.iload_n 1, 1) := by decide +kernel
theorem dX8_passes_5 : decode cX8_passes 5 = .ok (.if_icmp .eq 5, 3) := by decide +kernel
theorem dX8_passes_8 : decode cX8_passes 8 = .ok (.iconst 0, 1) := by decide +kernel
theorem dX8_passes_9 : decode cX8_passes 9 = .ok (.ireturn, 1) := by decide +kernel
theorem dX8_passes_10 : decode cX8_passes 10 = .ok (.aload_n 0, 1) := by decide +kernel
theorem dX8_passes_11 : decode cX8_passes 11 = .ok (.dup, 1) := by decide +kernel
theorem dX8_passes_12 : decode cX8_passes 12 = .ok (.getfield 15, 3) := by decide +kernel
theorem dX8_passes_15 : decode cX8_passes 15 = .ok (.iconst 1, 1) := by decide +kernel
theorem dX8_passes_16 : decode cX8_passes 16 = .ok (.iadd, 1) := by decide +kernel
theorem dX8_passes_17 : decode cX8_passes 17 = .ok (.putfield 15, 3) := by decide +kernel
theorem dX8_passes_20 : decode cX8_passes 20 = .ok (.iconst 1, 1) := by decide +kernel
theorem dX8_passes_21 : decode cX8_passes 21 = .ok (.ireturn, 1) := by decide +kernel
theorem dX8_isDigit_0 : decode cX8_isDigit 0 = .ok (.iload_n 0, 1) := by decide +kernel
theorem dX8_isDigit_1 : decode cX8_isDigit 1 = .ok (.bipush 48, 2) := by decide +kernel
theorem dX8_isDigit_3 : decode cX8_isDigit 3 = .ok (.if_icmp .lt 13, 3) := by decide +kernel
theorem dX8_isDigit_6 : decode cX8_isDigit 6 = .ok (.iload_n 0, 1) := by decide +kernel
theorem dX8_isDigit_7 : decode cX8_isDigit 7 = .ok (.bipush 57, 2) := by decide +kernel
theorem dX8_isDigit_9 : decode cX8_isDigit 9 = .ok (.if_icmp .gt 7, 3) := by decide +kernel
theorem dX8_isDigit_12 : decode cX8_isDigit 12 = .ok (.iconst 1, 1) := by decide +kernel
theorem dX8_isDigit_13 : decode cX8_isDigit 13 = .ok (.goto 4, 3) := by decide +kernel
theorem dX8_isDigit_16 : decode cX8_isDigit 16 = .ok (.iconst 0, 1) := by decide +kernel
theorem dX8_isDigit_17 : decode cX8_isDigit 17 = .ok (.ireturn, 1) := by decide +kernel
theorem dX8_readNumber_0 : decode cX8_readNumber 0 = .ok (.aload_n 0, 1) := by decide +kernel
theorem dX8_readNumber_1 : decode cX8_readNumber 1 = .ok (.invokevirtual 28, 3) := by decide +kernel
theorem dX8_readNumber_4 : decode cX8_readNumber 4 = .ok (.invokestatic 32, 3) := by decide +kernel
theorem dX8_readNumber_7 : decode cX8_readNumber 7 = .ok (.ifCond .ne 5, 3) := by decide +kernel
theorem dX8_readNumber_10 : decode cX8_readNumber 10 = .ok (.iconst (-1), 1) := by decide +kernel
theorem dX8_readNumber_11 : decode cX8_readNumber 11 = .ok (.ireturn, 1) := by decide +kernel
theorem dX8_readNumber_12 : decode cX8_readNumber 12 = .ok (.iconst 0, 1) := by decide +kernel
theorem dX8_readNumber_13 : decode cX8_readNumber 13 = .ok (.istore_n 2, 1) := by decide +kernel
theorem dX8_readNumber_14 : decode cX8_readNumber 14 = .ok (.iconst 0, 1) := by decide +kernel
theorem dX8_readNumber_15 : decode cX8_readNumber 15 = .ok (.istore_n 3, 1) := by decide +kernel
theorem dX8_readNumber_16 : decode cX8_readNumber 16 = .ok (.iload_n 3, 1) := by decide +kernel
theorem dX8_readNumber_17 : decode cX8_readNumber 17 = .ok (.iload_n 1, 1) := by decide +kernel
theorem dX8_readNumber_18 : decode cX8_readNumber 18 = .ok (.if_icmp .ge 56, 3) := by decide +kernel
theorem dX8_readNumber_21 : decode cX8_readNumber 21 = .ok (.aload_n 0, 1) := by decide +kernel
theorem dX8_readNumber_22 : decode cX8_readNumber 22 = .ok (.getfield 9, 3) := by decide +kernel
theorem dX8_readNumber_25 : decode cX8_readNumber 25 = .ok (.aload_n 0, 1) := by decide +kernel
theorem dX8_readNumber_26 : decode cX8_readNumber 26 = .ok (.getfield 15, 3) := by decide +kernel
theorem dX8_readNumber_29 : decode cX8_readNumber 29 = .ok (.invokevirtual 36, 3) := by decide +kernel
theorem dX8_readNumber_32 : decode cX8_readNumber 32 = .ok (.invokestatic 32, 3) := by decide +kernel
theorem dX8_readNumber_35 : decode cX8_readNumber 35 = .ok (.ifCond .eq 39, 3) := by decide +kernel
theorem dX8_readNumber_38 : decode cX8_readNumber 38 = .ok (.bipush 10, 2) := by decide +kernel
theorem dX8_readNumber_40 : decode cX8_readNumber 40 = .ok (.iload_n 2, 1) := by decide +kernel
theorem dX8_readNumber_41 : decode cX8_readNumber 41 = .ok (.imul, 1) := by decide +kernel
theorem dX8_readNumber_42 : decode cX8_readNumber 42 = .ok (.aload_n 0, 1) := by decide +kernel
theorem dX8_readNumber_43 : decode cX8_readNumber 43 = .ok (.getfield 9, 3) := by decide +kernel
theorem dX8_readNumber_46 : decode cX8_readNumber 46 = .ok (.aload_n 0, 1) := by decide +kernel
theorem dX8_readNumber_47 : decode cX8_readNumber 47 = .ok (.getfield 15, 3) := by decide +kernel
theorem dX8_readNumber_50 : decode cX8_readNumber 50 = .ok (.invokevirtual 36, 3) := by decide +kernel
theorem dX8_readNumber_53 : decode cX8_readNumber 53 = .ok (.iadd, 1) := by decide +kernel
theorem dX8_readNumber_54 : decode cX8_readNumber 54 = .ok (.bipush 48, 2) := by decide +kernel
theorem dX8_readNumber_56 : decode cX8_readNumber 56 = .ok (.isub, 1) := by decide +kernel
theorem dX8_readNumber_57 : decode cX8_readNumber 57 = .ok (.istore_n 2, 1) := by decide +kernel
theorem dX8_readNumber_58 : decode cX8_readNumber 58 = .ok (.aload_n 0, 1) := by decide +kernel
theorem dX8_readNumber_59 : decode cX8_readNumber 59 = .ok (.dup, 1) := by decide +kernel
theorem dX8_readNumber_60 : decode cX8_readNumber 60 = .ok (.getfield 15, 3) := by decide +kernel
theorem dX8_readNumber_63 : decode cX8_readNumber 63 = .ok (.iconst 1, 1) := by decide +kernel
theorem dX8_readNumber_64 : decode cX8_readNumber 64 = .ok (.iadd, 1) := by decide +kernel
theorem dX8_readNumber_65 : decode cX8_readNumber 65 = .ok (.putfield 15, 3) := by decide +kernel
theorem dX8_readNumber_68 : decode cX8_readNumber 68 = .ok (.iinc 3 1, 3) := by decide +kernel
theorem dX8_readNumber_71 : decode cX8_readNumber 71 = .ok (.goto (-55), 3) := by decide +kernel
theorem dX8_readNumber_74 : decode cX8_readNumber 74 = .ok (.aload_n 0, 1) := by decide +kernel
theorem dX8_readNumber_75 : decode cX8_readNumber 75 = .ok (.getfield 9, 3) := by decide +kernel
theorem dX8_readNumber_78 : decode cX8_readNumber 78 = .ok (.aload_n 0, 1) := by decide +kernel
theorem dX8_readNumber_79 : decode cX8_readNumber 79 = .ok (.getfield 15, 3) := by decide +kernel
theorem dX8_readNumber_82 : decode cX8_readNumber 82 = .ok (.invokevirtual 36, 3) := by decide +kernel
theorem dX8_readNumber_85 : decode cX8_readNumber 85 = .ok (.invokestatic 32, 3) := by decide +kernel
theorem dX8_readNumber_88 : decode cX8_readNumber 88 = .ok (.ifCond .eq 7, 3) := by decide +kernel
theorem dX8_readNumber_91 : decode cX8_readNumber 91 = .ok (.iconst (-1), 1) := by decide +kernel
theorem dX8_readNumber_92 : decode cX8_readNumber 92 = .ok (.goto 4, 3) := by decide +kernel
theorem dX8_readNumber_95 : decode cX8_readNumber 95 = .ok (.iload_n 2, 1) := by decide +kernel
theorem dX8_readNumber_96 : decode cX8_readNumber 96 = .ok (.ireturn, 1) := by decide +kernel
theorem dX9_init_0 : decode cX9_init 0 = .ok (.aload_n 0, 1) := by decide +kernel
theorem dX9_init_1 : decode cX9_init 1 = .ok (.invokespecial 3, 3) := by decide +kernel
theorem dX9_init_4 : decode cX9_init 4 = .ok (.aload_n 0, 1) := by decide +kernel
theorem dX9_init_5 : decode cX9_init 5 = .ok (.sipush 240, 3) := by decide +kernel
theorem dX9_init_8 : decode cX9_init 8 = .ok (.newarray .int, 2) := by decide +kernel
theorem dX9_init_10 : decode cX9_init 10 = .ok (.putfield 9, 3) := by decide +kernel
theorem dX9_init_13 : decode cX9_init 13 = .ok (.return_, 1) := by decide +kernel
theorem dX9_bytesIn_0 : decode cX9_bytesIn 0 = .ok (.iconst 0, 1) := by decide +kernel
theorem dX9_bytesIn_1 : decode cX9_bytesIn 1 = .ok (.istore_n 1, 1) := by decide +kernel
theorem dX9_bytesIn_2 : decode cX9_bytesIn 2 = .ok (.bipush 24, 2) := by decide +kernel
theorem dX9_bytesIn_4 : decode cX9_bytesIn 4 = .ok (.istore_n 2, 1) := by decide +kernel
theorem dX9_bytesIn_5 : decode cX9_bytesIn 5 = .ok (.iload_n 2, 1) := by decide +kernel
theorem dX9_bytesIn_6 : decode cX9_bytesIn 6 = .ok (.ifCond .lt 22, 3) := by decide +kernel
theorem dX9_bytesIn_9 : decode cX9_bytesIn 9 = .ok (.iload_n 0, 1) := by decide +kernel
theorem dX9_bytesIn_10 : decode cX9_bytesIn 10 = .ok (.iload_n 2, 1) := by decide +kernel
theorem dX9_bytesIn_11 : decode cX9_bytesIn 11 = .ok (.iushr, 1) := by decide +kernel
theorem dX9_bytesIn_12 : decode cX9_bytesIn 12 = .ok (.sipush 255, 3) := by decide +kernel
theorem dX9_bytesIn_15 : decode cX9_bytesIn 15 = .ok (.iand, 1) := by decide +kernel
theorem dX9_bytesIn_16 : decode cX9_bytesIn 16 = .ok (.ifCond .eq 6, 3) := by decide +kernel
theorem dX9_bytesIn_19 : decode cX9_bytesIn 19 = .ok (.iinc 1 1, 3) := by decide +kernel
theorem dX9_bytesIn_22 : decode cX9_bytesIn 22 = .ok (.iinc 2 (-8), 3) := by decide +kernel
theorem dX9_bytesIn_25 : decode cX9_bytesIn 25 = .ok (.goto (-20), 3) := by decide +kernel
theorem dX9_bytesIn_28 : decode cX9_bytesIn 28 = .ok (.iload_n 1, 1) := by decide +kernel
theorem dX9_bytesIn_29 : decode cX9_bytesIn 29 = .ok (.ireturn, 1) := by decide +kernel
theorem dX9_add_0 : decode cX9_add 0 = .ok (.bipush 24, 2) := by decide +kernel
theorem dX9_add_2 : decode cX9_add 2 = .ok (.istore_n 2, 1) := by decide +kernel
theorem dX9_add_3 : decode cX9_add 3 = .ok (.iload_n 2, 1) := by decide +kernel
theorem dX9_add_4 : decode cX9_add 4 = .ok (.ifCond .lt 51, 3) := by decide +kernel
theorem dX9_add_7 : decode cX9_add 7 = .ok (.iload_n 1, 1) := by decide +kernel
theorem dX9_add_8 : decode cX9_add 8 = .ok (.iload_n 2, 1) := by decide +kernel
theorem dX9_add_9 : decode cX9_add 9 = .ok (.iushr, 1) := by decide +kernel
theorem dX9_add_10 : decode cX9_add 10 = .ok (.sipush 255, 3) := by decide +kernel
theorem dX9_add_13 : decode cX9_add 13 = .ok (.iand, 1) := by decide +kernel
theorem dX9_add_14 : decode cX9_add 14 = .ok (.istore_n 3, 1) := by decide +kernel
theorem dX9_add_15 : decode cX9_add 15 = .ok (.iload_n 3, 1) := by decide +kernel
theorem dX9_add_16 : decode cX9_add 16 = .ok (.ifCond .eq 33, 3) := by decide +kernel
theorem dX9_add_19 : decode cX9_add 19 = .ok (.aload_n 0, 1) := by decide +kernel
theorem dX9_add_20 : decode cX9_add 20 = .ok (.getfield 15, 3) := by decide +kernel
theorem dX9_add_23 : decode cX9_add 23 = .ok (.sipush 240, 3) := by decide +kernel
theorem dX9_add_26 : decode cX9_add 26 = .ok (.if_icmp .ge 23, 3) := by decide +kernel
theorem dX9_add_29 : decode cX9_add 29 = .ok (.aload_n 0, 1) := by decide +kernel
theorem dX9_add_30 : decode cX9_add 30 = .ok (.getfield 9, 3) := by decide +kernel
theorem dX9_add_33 : decode cX9_add 33 = .ok (.aload_n 0, 1) := by decide +kernel
theorem dX9_add_34 : decode cX9_add 34 = .ok (.getfield 15, 3) := by decide +kernel
theorem dX9_add_37 : decode cX9_add 37 = .ok (.iload_n 3, 1) := by decide +kernel
theorem dX9_add_38 : decode cX9_add 38 = .ok (.iastore, 1) := by decide +kernel
theorem dX9_add_39 : decode cX9_add 39 = .ok (.aload_n 0, 1) := by decide +kernel
theorem dX9_add_40 : decode cX9_add 40 = .ok (.dup, 1) := by decide +kernel
theorem dX9_add_41 : decode cX9_add 41 = .ok (.getfield 15, 3) := by decide +kernel
theorem dX9_add_44 : decode cX9_add 44 = .ok (.iconst 1, 1) := by decide +kernel
theorem dX9_add_45 : decode cX9_add 45 = .ok (.iadd, 1) := by decide +kernel
theorem dX9_add_46 : decode cX9_add 46 = .ok (.putfield 15, 3) := by decide +kernel
theorem dX9_add_49 : decode cX9_add 49 = .ok (.iinc 2 (-8), 3) := by decide +kernel
theorem dX9_add_52 : decode cX9_add 52 = .ok (.goto (-49), 3) := by decide +kernel
theorem dX9_add_55 : decode cX9_add 55 = .ok (.return_, 1) := by decide +kernel
theorem dX9_signAt_0 : decode cX9_signAt 0 = .ok (.iload_n 1, 1) := by decide +kernel
theorem dX9_signAt_1 : decode cX9_signAt 1 = .ok (.ifCond .lt 20, 3) := by decide +kernel
theorem dX9_signAt_4 : decode cX9_signAt 4 = .ok (.iload_n 1, 1) := by decide +kernel
theorem dX9_signAt_5 : decode cX9_signAt 5 = .ok (.aload_n 0, 1) := by decide +kernel
theorem dX9_signAt_6 : decode cX9_signAt 6 = .ok (.getfield 15, 3) := by decide +kernel
theorem dX9_signAt_9 : decode cX9_signAt 9 = .ok (.if_icmp .ge 12, 3) := by decide +kernel
theorem dX9_signAt_12 : decode cX9_signAt 12 = .ok (.aload_n 0, 1) := by decide +kernel
theorem dX9_signAt_13 : decode cX9_signAt 13 = .ok (.getfield 9, 3) := by decide +kernel
theorem dX9_signAt_16 : decode cX9_signAt 16 = .ok (.iload_n 1, 1) := by decide +kernel
theorem dX9_signAt_17 : decode cX9_signAt 17 = .ok (.iaload, 1) := by decide +kernel
theorem dX9_signAt_18 : decode cX9_signAt 18 = .ok (.goto 4, 3) := by decide +kernel
theorem dX9_signAt_21 : decode cX9_signAt 21 = .ok (.iconst (-1), 1) := by decide +kernel
theorem dX9_signAt_22 : decode cX9_signAt 22 = .ok (.ireturn, 1) := by decide +kernel
theorem dX10_init_0 : decode cX10_init 0 = .ok (.aload_n 0, 1) := by decide +kernel
theorem dX10_init_1 : decode cX10_init 1 = .ok (.invokespecial 3, 3) := by decide +kernel
theorem dX10_init_4 : decode cX10_init 4 = .ok (.aload_n 0, 1) := by decide +kernel
theorem dX10_init_5 : decode cX10_init 5 = .ok (.bipush 8, 2) := by decide +kernel
theorem dX10_init_7 : decode cX10_init 7 = .ok (.newarray .int, 2) := by decide +kernel
theorem dX10_init_9 : decode cX10_init 9 = .ok (.putfield 9, 3) := by decide +kernel
theorem dX10_init_12 : decode cX10_init 12 = .ok (.aload_n 0, 1) := by decide +kernel
theorem dX10_init_13 : decode cX10_init 13 = .ok (.bipush 8, 2) := by decide +kernel
theorem dX10_init_15 : decode cX10_init 15 = .ok (.newarray .int, 2) := by decide +kernel
theorem dX10_init_17 : decode cX10_init 17 = .ok (.putfield 15, 3) := by decide +kernel
theorem dX10_init_20 : decode cX10_init 20 = .ok (.aload_n 0, 1) := by decide +kernel
theorem dX10_init_21 : decode cX10_init 21 = .ok (.bipush 8, 2) := by decide +kernel
theorem dX10_init_23 : decode cX10_init 23 = .ok (.newarray .int, 2) := by decide +kernel
theorem dX10_init_25 : decode cX10_init 25 = .ok (.putfield 18, 3) := by decide +kernel
theorem dX10_init_28 : decode cX10_init 28 = .ok (.return_, 1) := by decide +kernel
theorem dX10_aim_0 : decode cX10_aim 0 = .ok (.aload_n 0, 1) := by decide +kernel
theorem dX10_aim_1 : decode cX10_aim 1 = .ok (.aload_n 2, 1) := by decide +kernel
theorem dX10_aim_2 : decode cX10_aim 2 = .ok (.getfield 21, 3) := by decide +kernel
theorem dX10_aim_5 : decode cX10_aim 5 = .ok (.putfield 27, 3) := by decide +kernel
theorem dX10_aim_8 : decode cX10_aim 8 = .ok (.aload_n 2, 1) := by decide +kernel
theorem dX10_aim_9 : decode cX10_aim 9 = .ok (.getfield 28, 3) := by decide +kernel
theorem dX10_aim_12 : decode cX10_aim 12 = .ok (.iconst 0, 1) := by decide +kernel
theorem dX10_aim_13 : decode cX10_aim 13 = .ok (.aload_n 0, 1) := by decide +kernel
theorem dX10_aim_14 : decode cX10_aim 14 = .ok (.getfield 9, 3) := by decide +kernel
theorem dX10_aim_17 : decode cX10_aim 17 = .ok (.iconst 0, 1) := by decide +kernel
theorem dX10_aim_18 : decode cX10_aim 18 = .ok (.bipush 8, 2) := by decide +kernel
theorem dX10_aim_20 : decode cX10_aim 20 = .ok (.invokestatic 29, 3) := by decide +kernel
theorem dX10_aim_23 : decode cX10_aim 23 = .ok (.iload_n 1, 1) := by decide +kernel
theorem dX10_aim_24 : decode cX10_aim 24 = .ok (.istore_n 3, 1) := by decide +kernel
theorem dX10_aim_25 : decode cX10_aim 25 = .ok (.iconst 0, 1) := by decide +kernel
theorem dX10_aim_26 : decode cX10_aim 26 = .ok (.istore 4, 2) := by decide +kernel
theorem dX10_aim_28 : decode cX10_aim 28 = .ok (.aload_n 0, 1) := by decide +kernel
theorem dX10_aim_29 : decode cX10_aim 29 = .ok (.getfield 27, 3) := by decide +kernel
theorem dX10_aim_32 : decode cX10_aim 32 = .ok (.iconst 1, 1) := by decide +kernel
theorem dX10_aim_33 : decode cX10_aim 33 = .ok (.isub, 1) := by decide +kernel
theorem dX10_aim_34 : decode cX10_aim 34 = .ok (.istore 5, 2) := by decide +kernel
theorem dX10_aim_36 : decode cX10_aim 36 = .ok (.iload 5, 2) := by decide +kernel
theorem dX10_aim_38 : decode cX10_aim 38 = .ok (.ifCond .lt 64, 3) := by decide +kernel
theorem dX10_aim_41 : decode cX10_aim 41 = .ok (.iload_n 3, 1) := by decide +kernel
theorem dX10_aim_42 : decode cX10_aim 42 = .ok (.bipush 10, 2) := by decide +kernel
theorem dX10_aim_44 : decode cX10_aim 44 = .ok (.irem, 1) := by decide +kernel
theorem dX10_aim_45 : decode cX10_aim 45 = .ok (.istore 6, 2) := by decide +kernel
theorem dX10_aim_47 : decode cX10_aim 47 = .ok (.iload 6, 2) := by decide +kernel
theorem dX10_aim_49 : decode cX10_aim 49 = .ok (.ifCond .lt 22, 3) := by decide +kernel
theorem dX10_aim_52 : decode cX10_aim 52 = .ok (.iload 6, 2) := by decide +kernel
theorem dX10_aim_54 : decode cX10_aim 54 = .ok (.aload_n 0, 1) := by decide +kernel
theorem dX10_aim_55 : decode cX10_aim 55 = .ok (.getfield 27, 3) := by decide +kernel
theorem dX10_aim_58 : decode cX10_aim 58 = .ok (.if_icmp .ge 13, 3) := by decide +kernel
theorem dX10_aim_61 : decode cX10_aim 61 = .ok (.iload 4, 2) := by decide +kernel
theorem dX10_aim_63 : decode cX10_aim 63 = .ok (.iload 6, 2) := by decide +kernel
theorem dX10_aim_65 : decode cX10_aim 65 = .ok (.ishr, 1) := by decide +kernel
theorem dX10_aim_66 : decode cX10_aim 66 = .ok (.iconst 1, 1) := by decide +kernel
theorem dX10_aim_67 : decode cX10_aim 67 = .ok (.iand, 1) := by decide +kernel
theorem dX10_aim_68 : decode cX10_aim 68 = .ok (.ifCond .eq 5, 3) := by decide +kernel
theorem dX10_aim_71 : decode cX10_aim 71 = .ok (.iconst 0, 1) := by decide +kernel
theorem dX10_aim_72 : decode cX10_aim 72 = .ok (.ireturn, 1) := by decide +kernel
theorem dX10_aim_73 : decode cX10_aim 73 = .ok (.iload 4, 2) := by decide +kernel
theorem dX10_aim_75 : decode cX10_aim 75 = .ok (.iconst 1, 1) := by decide +kernel
theorem dX10_aim_76 : decode cX10_aim 76 = .ok (.iload 6, 2) := by decide +kernel
theorem dX10_aim_78 : decode cX10_aim 78 = .ok (.ishl, 1) := by decide +kernel
theorem dX10_aim_79 : decode cX10_aim 79 = .ok (.ior, 1) := by decide +kernel
theorem dX10_aim_80 : decode cX10_aim 80 = .ok (.istore 4, 2) := by decide +kernel
theorem dX10_aim_82 : decode cX10_aim 82 = .ok (.aload_n 0, 1) := by decide +kernel
theorem dX10_aim_83 : decode cX10_aim 83 = .ok (.getfield 15, 3) := by decide +kernel
theorem dX10_aim_86 : decode cX10_aim 86 = .ok (.iload 6, 2) := by decide +kernel
theorem dX10_aim_88 : decode cX10_aim 88 = .ok (.iload 5, 2) := by decide +kernel
theorem dX10_aim_90 : decode cX10_aim 90 = .ok (.iastore, 1) := by decide +kernel
theorem dX10_aim_91 : decode cX10_aim 91 = .ok (.iload_n 3, 1) := by decide +kernel
theorem dX10_aim_92 : decode cX10_aim 92 = .ok (.bipush 10, 2) := by decide +kernel
theorem dX10_aim_94 : decode cX10_aim 94 = .ok (.idiv, 1) := by decide +kernel
theorem dX10_aim_95 : decode cX10_aim 95 = .ok (.istore_n 3, 1) := by decide +kernel
theorem dX10_aim_96 : decode cX10_aim 96 = .ok (.iinc 5 (-1), 3) := by decide +kernel
theorem dX10_aim_99 : decode cX10_aim 99 = .ok (.goto (-63), 3) := by decide +kernel
theorem dX10_aim_102 : decode cX10_aim 102 = .ok (.iload_n 3, 1) := by decide +kernel
theorem dX10_aim_103 : decode cX10_aim 103 = .ok (.ifCond .ne 7, 3) := by decide +kernel
theorem dX10_aim_106 : decode cX10_aim 106 = .ok (.iconst 1, 1) := by decide +kernel
theorem dX10_aim_107 : decode cX10_aim 107 = .ok (.goto 4, 3) := by decide +kernel
theorem dX10_aim_110 : decode cX10_aim 110 = .ok (.iconst 0, 1) := by decide +kernel
theorem dX10_aim_111 : decode cX10_aim 111 = .ok (.ireturn, 1) := by decide +kernel
theorem dX10_fewest_0 : decode cX10_fewest 0 = .ok (.aload_n 0, 1) := by decide +kernel
theorem dX10_fewest_1 : decode cX10_fewest 1 = .ok (.getfield 27, 3) := by decide +kernel
theorem dX10_fewest_4 : decode cX10_fewest 4 = .ok (.iconst 1, 1) := by decide +kernel
theorem dX10_fewest_5 : decode cX10_fewest 5 = .ok (.if_icmp .ge 5, 3) := by decide +kernel
theorem dX10_fewest_8 : decode cX10_fewest 8 = .ok (.iconst 0, 1) := by decide +kernel
theorem dX10_fewest_9 : decode cX10_fewest 9 = .ok (.ireturn, 1) := by decide +kernel
theorem dX10_fewest_10 : decode cX10_fewest 10 = .ok (.iconst 0, 1) := by decide +kernel
theorem dX10_fewest_11 : decode cX10_fewest 11 = .ok (.istore_n 1, 1) := by decide +kernel
theorem dX10_fewest_12 : decode cX10_fewest 12 = .ok (.iconst 0, 1) := by decide +kernel
theorem dX10_fewest_13 : decode cX10_fewest 13 = .ok (.istore_n 2, 1) := by decide +kernel
theorem dX10_fewest_14 : decode cX10_fewest 14 = .ok (.iload_n 2, 1) := by decide +kernel
theorem dX10_fewest_15 : decode cX10_fewest 15 = .ok (.aload_n 0, 1) := by decide +kernel
theorem dX10_fewest_16 : decode cX10_fewest 16 = .ok (.getfield 27, 3) := by decide +kernel
theorem dX10_fewest_19 : decode cX10_fewest 19 = .ok (.if_icmp .ge 47, 3) := by decide +kernel
theorem dX10_fewest_22 : decode cX10_fewest 22 = .ok (.aload_n 0, 1) := by decide +kernel
theorem dX10_fewest_23 : decode cX10_fewest 23 = .ok (.getfield 18, 3) := by decide +kernel
theorem dX10_fewest_26 : decode cX10_fewest 26 = .ok (.iload_n 2, 1) := by decide +kernel
theorem dX10_fewest_27 : decode cX10_fewest 27 = .ok (.aload_n 0, 1) := by decide +kernel
theorem dX10_fewest_28 : decode cX10_fewest 28 = .ok (.getfield 15, 3) := by decide +kernel
theorem dX10_fewest_31 : decode cX10_fewest 31 = .ok (.aload_n 0, 1) := by decide +kernel
theorem dX10_fewest_32 : decode cX10_fewest 32 = .ok (.getfield 9, 3) := by decide +kernel
theorem dX10_fewest_35 : decode cX10_fewest 35 = .ok (.iload_n 2, 1) := by decide +kernel
theorem dX10_fewest_36 : decode cX10_fewest 36 = .ok (.iaload, 1) := by decide +kernel
theorem dX10_fewest_37 : decode cX10_fewest 37 = .ok (.bipush 7, 2) := by decide +kernel
theorem dX10_fewest_39 : decode cX10_fewest 39 = .ok (.iand, 1) := by decide +kernel
theorem dX10_fewest_40 : decode cX10_fewest 40 = .ok (.iaload, 1) := by decide +kernel
theorem dX10_fewest_41 : decode cX10_fewest 41 = .ok (.iload_n 2, 1) := by decide +kernel
theorem dX10_fewest_42 : decode cX10_fewest 42 = .ok (.isub, 1) := by decide +kernel
theorem dX10_fewest_43 : decode cX10_fewest 43 = .ok (.aload_n 0, 1) := by decide +kernel
theorem dX10_fewest_44 : decode cX10_fewest 44 = .ok (.getfield 27, 3) := by decide +kernel
theorem dX10_fewest_47 : decode cX10_fewest 47 = .ok (.invokestatic 35, 3) := by decide +kernel
theorem dX10_fewest_50 : decode cX10_fewest 50 = .ok (.iastore, 1) := by decide +kernel
theorem dX10_fewest_51 : decode cX10_fewest 51 = .ok (.iload_n 1, 1) := by decide +kernel
theorem dX10_fewest_52 : decode cX10_fewest 52 = .ok (.aload_n 0, 1) := by decide +kernel
theorem dX10_fewest_53 : decode cX10_fewest 53 = .ok (.getfield 18, 3) := by decide +kernel
theorem dX10_fewest_56 : decode cX10_fewest 56 = .ok (.iload_n 2, 1) := by decide +kernel
theorem dX10_fewest_57 : decode cX10_fewest 57 = .ok (.iaload, 1) := by decide +kernel
theorem dX10_fewest_58 : decode cX10_fewest 58 = .ok (.iadd, 1) := by decide +kernel
theorem dX10_fewest_59 : decode cX10_fewest 59 = .ok (.istore_n 1, 1) := by decide +kernel
theorem dX10_fewest_60 : decode cX10_fewest 60 = .ok (.iinc 2 1, 3) := by decide +kernel
theorem dX10_fewest_63 : decode cX10_fewest 63 = .ok (.goto (-49), 3) := by decide +kernel
theorem dX10_fewest_66 : decode cX10_fewest 66 = .ok (.iload_n 1, 1) := by decide +kernel
theorem dX10_fewest_67 : decode cX10_fewest 67 = .ok (.aload_n 0, 1) := by decide +kernel
theorem dX10_fewest_68 : decode cX10_fewest 68 = .ok (.getfield 27, 3) := by decide +kernel
theorem dX10_fewest_71 : decode cX10_fewest 71 = .ok (.idiv, 1) := by decide +kernel
theorem dX10_fewest_72 : decode cX10_fewest 72 = .ok (.istore_n 2, 1) := by decide +kernel
theorem dX10_fewest_73 : decode cX10_fewest 73 = .ok (.sipush 1000, 3) := by decide +kernel
theorem dX10_fewest_76 : decode cX10_fewest 76 = .ok (.istore_n 3, 1) := by decide +kernel
theorem dX10_fewest_77 : decode cX10_fewest 77 = .ok (.iconst 0, 1) := by decide +kernel
theorem dX10_fewest_78 : decode cX10_fewest 78 = .ok (.istore 4, 2) := by decide +kernel
theorem dX10_fewest_80 : decode cX10_fewest 80 = .ok (.iload 4, 2) := by decide +kernel
theorem dX10_fewest_82 : decode cX10_fewest 82 = .ok (.iconst 1, 1) := by decide +kernel
theorem dX10_fewest_83 : decode cX10_fewest 83 = .ok (.aload_n 0, 1) := by decide +kernel
theorem dX10_fewest_84 : decode cX10_fewest 84 = .ok (.getfield 27, 3) := by decide +kernel
theorem dX10_fewest_87 : decode cX10_fewest 87 = .ok (.ishl, 1) := by decide +kernel
theorem dX10_fewest_88 : decode cX10_fewest 88 = .ok (.if_icmp .ge 29, 3) := by decide +kernel
theorem dX10_fewest_91 : decode cX10_fewest 91 = .ok (.iload 4, 2) := by decide +kernel
theorem dX10_fewest_93 : decode cX10_fewest 93 = .ok (.invokestatic 41, 3) := by decide +kernel
theorem dX10_fewest_96 : decode cX10_fewest 96 = .ok (.iload_n 2, 1) := by decide +kernel
theorem dX10_fewest_97 : decode cX10_fewest 97 = .ok (.if_icmp .ne 14, 3) := by decide +kernel
theorem dX10_fewest_100 : decode cX10_fewest 100 = .ok (.iload_n 3, 1) := by decide +kernel
theorem dX10_fewest_101 : decode cX10_fewest 101 = .ok (.aload_n 0, 1) := by decide +kernel
theorem dX10_fewest_102 : decode cX10_fewest 102 = .ok (.iload 4, 2) := by decide +kernel
theorem dX10_fewest_104 : decode cX10_fewest 104 = .ok (.invokevirtual 47, 3) := by decide +kernel
theorem dX10_fewest_107 : decode cX10_fewest 107 = .ok (.invokestatic 50, 3) := by decide +kernel
theorem dX10_fewest_110 : decode cX10_fewest 110 = .ok (.istore_n 3, 1) := by decide +kernel
theorem dX10_fewest_111 : decode cX10_fewest 111 = .ok (.iinc 4 1, 3) := by decide +kernel
theorem dX10_fewest_114 : decode cX10_fewest 114 = .ok (.goto (-34), 3) := by decide +kernel
theorem dX10_fewest_117 : decode cX10_fewest 117 = .ok (.iload_n 3, 1) := by decide +kernel
theorem dX10_fewest_118 : decode cX10_fewest 118 = .ok (.ireturn, 1) := by decide +kernel
theorem dX10_crossingsWith_0 : decode cX10_crossingsWith 0 = .ok (.iconst 0, 1) := by decide +kernel
theorem dX10_crossingsWith_1 : decode cX10_crossingsWith 1 = .ok (.istore_n 2, 1) := by decide +kernel
theorem dX10_crossingsWith_2 : decode cX10_crossingsWith 2 = .ok (.iconst 0, 1) := by decide +kernel
theorem dX10_crossingsWith_3 : decode cX10_crossingsWith 3 = .ok (.istore_n 3, 1) := by decide +kernel
theorem dX10_crossingsWith_4 : decode cX10_crossingsWith 4 = .ok (.iload_n 3, 1) := by decide +kernel
theorem dX10_crossingsWith_5 : decode cX10_crossingsWith 5 = .ok (.aload_n 0, 1) := by decide +kernel
theorem dX10_crossingsWith_6 : decode cX10_crossingsWith 6 = .ok (.getfield 27, 3) := by decide +kernel
theorem dX10_crossingsWith_9 : decode cX10_crossingsWith 9 = .ok (.if_icmp .ge 74, 3) := by decide +kernel
theorem dX10_crossingsWith_12 : decode cX10_crossingsWith 12 = .ok (.iload_n 3, 1) := by decide +kernel
theorem dX10_crossingsWith_13 : decode cX10_crossingsWith 13 = .ok (.iconst 1, 1) := by decide +kernel
theorem dX10_crossingsWith_14 : decode cX10_crossingsWith 14 = .ok (.iadd, 1) := by decide +kernel
theorem dX10_crossingsWith_15 : decode cX10_crossingsWith 15 = .ok (.istore 4, 2) := by decide +kernel
theorem dX10_crossingsWith_17 : decode cX10_crossingsWith 17 = .ok (.iload 4, 2) := by decide +kernel
theorem dX10_crossingsWith_19 : decode cX10_crossingsWith 19 = .ok (.aload_n 0, 1) := by decide +kernel
theorem dX10_crossingsWith_20 : decode cX10_crossingsWith 20 = .ok (.getfield 27, 3) := by decide +kernel
theorem dX10_crossingsWith_23 : decode cX10_crossingsWith 23 = .ok (.if_icmp .ge 54, 3) := by decide +kernel
theorem dX10_crossingsWith_26 : decode cX10_crossingsWith 26 = .ok (.aload_n 0, 1) := by decide +kernel
theorem dX10_crossingsWith_27 : decode cX10_crossingsWith 27 = .ok (.iload_n 3, 1) := by decide +kernel
theorem dX10_crossingsWith_28 : decode cX10_crossingsWith 28 = .ok (.iload_n 1, 1) := by decide +kernel
theorem dX10_crossingsWith_29 : decode cX10_crossingsWith 29 = .ok (.invokevirtual 53, 3) := by decide +kernel
theorem dX10_crossingsWith_32 : decode cX10_crossingsWith 32 = .ok (.aload_n 0, 1) := by decide +kernel
theorem dX10_crossingsWith_33 : decode cX10_crossingsWith 33 = .ok (.iload 4, 2) := by decide +kernel
theorem dX10_crossingsWith_35 : decode cX10_crossingsWith 35 = .ok (.iload_n 1, 1) := by decide +kernel
theorem dX10_crossingsWith_36 : decode cX10_crossingsWith 36 = .ok (.invokevirtual 53, 3) := by decide +kernel
theorem dX10_crossingsWith_39 : decode cX10_crossingsWith 39 = .ok (.isub, 1) := by decide +kernel
theorem dX10_crossingsWith_40 : decode cX10_crossingsWith 40 = .ok (.istore 5, 2) := by decide +kernel
theorem dX10_crossingsWith_42 : decode cX10_crossingsWith 42 = .ok (.iload_n 2, 1) := by decide +kernel
theorem dX10_crossingsWith_43 : decode cX10_crossingsWith 43 = .ok (.aload_n 0, 1) := by decide +kernel
theorem dX10_crossingsWith_44 : decode cX10_crossingsWith 44 = .ok (.getfield 27, 3) := by decide +kernel
theorem dX10_crossingsWith_47 : decode cX10_crossingsWith 47 = .ok (.iconst 1, 1) := by decide +kernel
theorem dX10_crossingsWith_48 : decode cX10_crossingsWith 48 = .ok (.if_icmp .ge 7, 3) := by decide +kernel
theorem dX10_crossingsWith_51 : decode cX10_crossingsWith 51 = .ok (.iconst 0, 1) := by decide +kernel
theorem dX10_crossingsWith_52 : decode cX10_crossingsWith 52 = .ok (.goto 17, 3) := by decide +kernel
theorem dX10_crossingsWith_55 : decode cX10_crossingsWith 55 = .ok (.iload 5, 2) := by decide +kernel
theorem dX10_crossingsWith_57 : decode cX10_crossingsWith 57 = .ok (.aload_n 0, 1) := by decide +kernel
theorem dX10_crossingsWith_58 : decode cX10_crossingsWith 58 = .ok (.getfield 27, 3) := by decide +kernel
theorem dX10_crossingsWith_61 : decode cX10_crossingsWith 61 = .ok (.invokestatic 56, 3) := by decide +kernel
theorem dX10_crossingsWith_64 : decode cX10_crossingsWith 64 = .ok (.iconst 1, 1) := by decide +kernel
theorem dX10_crossingsWith_65 : decode cX10_crossingsWith 65 = .ok (.iadd, 1) := by decide +kernel
theorem dX10_crossingsWith_66 : decode cX10_crossingsWith 66 = .ok (.invokestatic 59, 3) := by decide +kernel
theorem dX10_crossingsWith_69 : decode cX10_crossingsWith 69 = .ok (.iadd, 1) := by decide +kernel
theorem dX10_crossingsWith_70 : decode cX10_crossingsWith 70 = .ok (.istore_n 2, 1) := by decide +kernel
theorem dX10_crossingsWith_71 : decode cX10_crossingsWith 71 = .ok (.iinc 4 1, 3) := by decide +kernel
theorem dX10_crossingsWith_74 : decode cX10_crossingsWith 74 = .ok (.goto (-57), 3) := by decide +kernel
theorem dX10_crossingsWith_77 : decode cX10_crossingsWith 77 = .ok (.iinc 3 1, 3) := by decide +kernel
theorem dX10_crossingsWith_80 : decode cX10_crossingsWith 80 = .ok (.goto (-76), 3) := by decide +kernel
theorem dX10_crossingsWith_83 : decode cX10_crossingsWith 83 = .ok (.iload_n 2, 1) := by decide +kernel
theorem dX10_crossingsWith_84 : decode cX10_crossingsWith 84 = .ok (.ireturn, 1) := by decide +kernel
theorem dX10_endOf_0 : decode cX10_endOf 0 = .ok (.iload_n 1, 1) := by decide +kernel
theorem dX10_endOf_1 : decode cX10_endOf 1 = .ok (.aload_n 0, 1) := by decide +kernel
theorem dX10_endOf_2 : decode cX10_endOf 2 = .ok (.getfield 18, 3) := by decide +kernel
theorem dX10_endOf_5 : decode cX10_endOf 5 = .ok (.iload_n 1, 1) := by decide +kernel
theorem dX10_endOf_6 : decode cX10_endOf 6 = .ok (.iaload, 1) := by decide +kernel
theorem dX10_endOf_7 : decode cX10_endOf 7 = .ok (.iadd, 1) := by decide +kernel
theorem dX10_endOf_8 : decode cX10_endOf 8 = .ok (.iload_n 2, 1) := by decide +kernel
theorem dX10_endOf_9 : decode cX10_endOf 9 = .ok (.iload_n 1, 1) := by decide +kernel
theorem dX10_endOf_10 : decode cX10_endOf 10 = .ok (.ishr, 1) := by decide +kernel
theorem dX10_endOf_11 : decode cX10_endOf 11 = .ok (.iconst 1, 1) := by decide +kernel
theorem dX10_endOf_12 : decode cX10_endOf 12 = .ok (.iand, 1) := by decide +kernel
theorem dX10_endOf_13 : decode cX10_endOf 13 = .ok (.ifCond .ne 7, 3) := by decide +kernel
theorem dX10_endOf_16 : decode cX10_endOf 16 = .ok (.iconst 0, 1) := by decide +kernel
theorem dX10_endOf_17 : decode cX10_endOf 17 = .ok (.goto 7, 3) := by decide +kernel
theorem dX10_endOf_20 : decode cX10_endOf 20 = .ok (.aload_n 0, 1) := by decide +kernel
theorem dX10_endOf_21 : decode cX10_endOf 21 = .ok (.getfield 27, 3) := by decide +kernel
theorem dX10_endOf_24 : decode cX10_endOf 24 = .ok (.isub, 1) := by decide +kernel
theorem dX10_endOf_25 : decode cX10_endOf 25 = .ok (.ireturn, 1) := by decide +kernel
theorem dX10_firstPlace_0 : decode cX10_firstPlace 0 = .ok (.aload_n 0, 1) := by decide +kernel
theorem dX10_firstPlace_1 : decode cX10_firstPlace 1 = .ok (.invokevirtual 62, 3) := by decide +kernel
theorem dX10_firstPlace_4 : decode cX10_firstPlace 4 = .ok (.istore_n 1, 1) := by decide +kernel
theorem dX10_firstPlace_5 : decode cX10_firstPlace 5 = .ok (.iconst 0, 1) := by decide +kernel
theorem dX10_firstPlace_6 : decode cX10_firstPlace 6 = .ok (.istore_n 2, 1) := by decide +kernel
theorem dX10_firstPlace_7 : decode cX10_firstPlace 7 = .ok (.iload_n 2, 1) := by decide +kernel
theorem dX10_firstPlace_8 : decode cX10_firstPlace 8 = .ok (.aload_n 0, 1) := by decide +kernel
theorem dX10_firstPlace_9 : decode cX10_firstPlace 9 = .ok (.getfield 27, 3) := by decide +kernel
theorem dX10_firstPlace_12 : decode cX10_firstPlace 12 = .ok (.if_icmp .ge 31, 3) := by decide +kernel
theorem dX10_firstPlace_15 : decode cX10_firstPlace 15 = .ok (.aload_n 0, 1) := by decide +kernel
theorem dX10_firstPlace_16 : decode cX10_firstPlace 16 = .ok (.iload_n 2, 1) := by decide +kernel
theorem dX10_firstPlace_17 : decode cX10_firstPlace 17 = .ok (.invokevirtual 66, 3) := by decide +kernel
theorem dX10_firstPlace_20 : decode cX10_firstPlace 20 = .ok (.aload_n 0, 1) := by decide +kernel
theorem dX10_firstPlace_21 : decode cX10_firstPlace 21 = .ok (.invokevirtual 62, 3) := by decide +kernel
theorem dX10_firstPlace_24 : decode cX10_firstPlace 24 = .ok (.istore_n 3, 1) := by decide +kernel
theorem dX10_firstPlace_25 : decode cX10_firstPlace 25 = .ok (.aload_n 0, 1) := by decide +kernel
theorem dX10_firstPlace_26 : decode cX10_firstPlace 26 = .ok (.iload_n 2, 1) := by decide +kernel
theorem dX10_firstPlace_27 : decode cX10_firstPlace 27 = .ok (.invokevirtual 66, 3) := by decide +kernel
theorem dX10_firstPlace_30 : decode cX10_firstPlace 30 = .ok (.iload_n 3, 1) := by decide +kernel
theorem dX10_firstPlace_31 : decode cX10_firstPlace 31 = .ok (.iload_n 1, 1) := by decide +kernel
theorem dX10_firstPlace_32 : decode cX10_firstPlace 32 = .ok (.if_icmp .ge 5, 3) := by decide +kernel
theorem dX10_firstPlace_35 : decode cX10_firstPlace 35 = .ok (.iload_n 2, 1) := by decide +kernel
theorem dX10_firstPlace_36 : decode cX10_firstPlace 36 = .ok (.ireturn, 1) := by decide +kernel
theorem dX10_firstPlace_37 : decode cX10_firstPlace 37 = .ok (.iinc 2 1, 3) := by decide +kernel
theorem dX10_firstPlace_40 : decode cX10_firstPlace 40 = .ok (.goto (-33), 3) := by decide +kernel
theorem dX10_firstPlace_43 : decode cX10_firstPlace 43 = .ok (.iconst (-1), 1) := by decide +kernel
theorem dX10_firstPlace_44 : decode cX10_firstPlace 44 = .ok (.ireturn, 1) := by decide +kernel
theorem dX10_change_0 : decode cX10_change 0 = .ok (.iload_n 1, 1) := by decide +kernel
theorem dX10_change_1 : decode cX10_change 1 = .ok (.iconst 1, 1) := by decide +kernel
theorem dX10_change_2 : decode cX10_change 2 = .ok (.iadd, 1) := by decide +kernel
theorem dX10_change_3 : decode cX10_change 3 = .ok (.aload_n 0, 1) := by decide +kernel
theorem dX10_change_4 : decode cX10_change 4 = .ok (.getfield 27, 3) := by decide +kernel
theorem dX10_change_7 : decode cX10_change 7 = .ok (.if_icmp .ge 9, 3) := by decide +kernel
theorem dX10_change_10 : decode cX10_change 10 = .ok (.iload_n 1, 1) := by decide +kernel
theorem dX10_change_11 : decode cX10_change 11 = .ok (.iconst 1, 1) := by decide +kernel
theorem dX10_change_12 : decode cX10_change 12 = .ok (.iadd, 1) := by decide +kernel
theorem dX10_change_13 : decode cX10_change 13 = .ok (.goto 4, 3) := by decide +kernel
theorem dX10_change_16 : decode cX10_change 16 = .ok (.iconst 0, 1) := by decide +kernel
theorem dX10_change_17 : decode cX10_change 17 = .ok (.istore_n 2, 1) := by decide +kernel
theorem dX10_change_18 : decode cX10_change 18 = .ok (.aload_n 0, 1) := by decide +kernel
theorem dX10_change_19 : decode cX10_change 19 = .ok (.getfield 9, 3) := by decide +kernel
theorem dX10_change_22 : decode cX10_change 22 = .ok (.iload_n 1, 1) := by decide +kernel
theorem dX10_change_23 : decode cX10_change 23 = .ok (.iaload, 1) := by decide +kernel
theorem dX10_change_24 : decode cX10_change 24 = .ok (.istore_n 3, 1) := by decide +kernel
theorem dX10_change_25 : decode cX10_change 25 = .ok (.aload_n 0, 1) := by decide +kernel
theorem dX10_change_26 : decode cX10_change 26 = .ok (.getfield 9, 3) := by decide +kernel
theorem dX10_change_29 : decode cX10_change 29 = .ok (.iload_n 1, 1) := by decide +kernel
theorem dX10_change_30 : decode cX10_change 30 = .ok (.aload_n 0, 1) := by decide +kernel
theorem dX10_change_31 : decode cX10_change 31 = .ok (.getfield 9, 3) := by decide +kernel
theorem dX10_change_34 : decode cX10_change 34 = .ok (.iload_n 2, 1) := by decide +kernel
theorem dX10_change_35 : decode cX10_change 35 = .ok (.iaload, 1) := by decide +kernel
theorem dX10_change_36 : decode cX10_change 36 = .ok (.iastore, 1) := by decide +kernel
theorem dX10_change_37 : decode cX10_change 37 = .ok (.aload_n 0, 1) := by decide +kernel
theorem dX10_change_38 : decode cX10_change 38 = .ok (.getfield 9, 3) := by decide +kernel
theorem dX10_change_41 : decode cX10_change 41 = .ok (.iload_n 2, 1) := by decide +kernel
theorem dX10_change_42 : decode cX10_change 42 = .ok (.iload_n 3, 1) := by decide +kernel
theorem dX10_change_43 : decode cX10_change 43 = .ok (.iastore, 1) := by decide +kernel
theorem dX10_change_44 : decode cX10_change 44 = .ok (.return_, 1) := by decide +kernel
