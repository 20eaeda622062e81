theorem dX12_readCross_39 : decode cX12_readCross 39 = .ok (.invokevirtual 127, 3) := by decide +kernel
theorem dX12_readCross_42 : decode cX12_readCross 42 = .ok (.bipush 48, 2) := by decide +kernel
theorem dX12_readCross_44 : decode cX12_readCross 44 = .ok (.isub, 1) := by decide +kernel
theorem dX12_readCross_45 : decode cX12_readCross 45 = .ok (.imul, 1) := by decide +kernel
theorem dX12_readCross_46 : decode cX12_readCross 46 = .ok (.iload_n 2, 1) := by decide +kernel
theorem dX12_readCross_47 : decode cX12_readCross 47 = .ok (.iadd, 1) := by decide +kernel
theorem dX12_readCross_48 : decode cX12_readCross 48 = .ok (.invokevirtual 262, 3) := by decide +kernel
theorem dX12_readCross_51 : decode cX12_readCross 51 = .ok (.aload_n 0, 1) := by decide +kernel
theorem dX12_readCross_52 : decode cX12_readCross 52 = .ok (.dup, 1) := by decide +kernel
theorem dX12_readCross_53 : decode cX12_readCross 53 = .ok (.getfield 124, 3) := by decide +kernel
theorem dX12_readCross_56 : decode cX12_readCross 56 = .ok (.iconst 1, 1) := by decide +kernel
theorem dX12_readCross_57 : decode cX12_readCross 57 = .ok (.iadd, 1) := by decide +kernel
theorem dX12_readCross_58 : decode cX12_readCross 58 = .ok (.putfield 124, 3) := by decide +kernel
theorem dX12_readCross_61 : decode cX12_readCross 61 = .ok (.goto 7, 3) := by decide +kernel
theorem dX12_readCross_64 : decode cX12_readCross 64 = .ok (.aload_n 0, 1) := by decide +kernel
theorem dX12_readCross_65 : decode cX12_readCross 65 = .ok (.invokevirtual 140, 3) := by decide +kernel
theorem dX12_readCross_68 : decode cX12_readCross 68 = .ok (.return_, 1) := by decide +kernel
theorem dX12_readAgain_0 : decode cX12_readAgain 0 = .ok (.aload_n 0, 1) := by decide +kernel
theorem dX12_readAgain_1 : decode cX12_readAgain 1 = .ok (.invokevirtual 127, 3) := by decide +kernel
theorem dX12_readAgain_4 : decode cX12_readAgain 4 = .ok (.bipush 48, 2) := by decide +kernel
theorem dX12_readAgain_6 : decode cX12_readAgain 6 = .ok (.isub, 1) := by decide +kernel
theorem dX12_readAgain_7 : decode cX12_readAgain 7 = .ok (.istore_n 3, 1) := by decide +kernel
theorem dX12_readAgain_8 : decode cX12_readAgain 8 = .ok (.iload_n 3, 1) := by decide +kernel
theorem dX12_readAgain_9 : decode cX12_readAgain 9 = .ok (.iconst 2, 1) := by decide +kernel
theorem dX12_readAgain_10 : decode cX12_readAgain 10 = .ok (.if_icmp .ge 8, 3) := by decide +kernel
theorem dX12_readAgain_13 : decode cX12_readAgain 13 = .ok (.aload_n 0, 1) := by decide +kernel
theorem dX12_readAgain_14 : decode cX12_readAgain 14 = .ok (.invokevirtual 140, 3) := by decide +kernel
theorem dX12_readAgain_17 : decode cX12_readAgain 17 = .ok (.return_, 1) := by decide +kernel
theorem dX12_readAgain_18 : decode cX12_readAgain 18 = .ok (.aload_n 0, 1) := by decide +kernel
theorem dX12_readAgain_19 : decode cX12_readAgain 19 = .ok (.dup, 1) := by decide +kernel
theorem dX12_readAgain_20 : decode cX12_readAgain 20 = .ok (.getfield 124, 3) := by decide +kernel
theorem dX12_readAgain_23 : decode cX12_readAgain 23 = .ok (.iconst 1, 1) := by decide +kernel
theorem dX12_readAgain_24 : decode cX12_readAgain 24 = .ok (.iadd, 1) := by decide +kernel
theorem dX12_readAgain_25 : decode cX12_readAgain 25 = .ok (.putfield 124, 3) := by decide +kernel
theorem dX12_readAgain_28 : decode cX12_readAgain 28 = .ok (.aload_n 0, 1) := by decide +kernel
theorem dX12_readAgain_29 : decode cX12_readAgain 29 = .ok (.invokevirtual 143, 3) := by decide +kernel
theorem dX12_readAgain_32 : decode cX12_readAgain 32 = .ok (.bipush 40, 2) := by decide +kernel
theorem dX12_readAgain_34 : decode cX12_readAgain 34 = .ok (.if_icmp .ne 8, 3) := by decide +kernel
theorem dX12_readAgain_37 : decode cX12_readAgain 37 = .ok (.iload_n 2, 1) := by decide +kernel
theorem dX12_readAgain_38 : decode cX12_readAgain 38 = .ok (.iconst 3, 1) := by decide +kernel
theorem dX12_readAgain_39 : decode cX12_readAgain 39 = .ok (.if_icmp .ne 8, 3) := by decide +kernel
theorem dX12_readAgain_42 : decode cX12_readAgain 42 = .ok (.aload_n 0, 1) := by decide +kernel
theorem dX12_readAgain_43 : decode cX12_readAgain 43 = .ok (.invokevirtual 140, 3) := by decide +kernel
theorem dX12_readAgain_46 : decode cX12_readAgain 46 = .ok (.return_, 1) := by decide +kernel
theorem dX12_readAgain_47 : decode cX12_readAgain 47 = .ok (.aload_n 0, 1) := by decide +kernel
theorem dX12_readAgain_48 : decode cX12_readAgain 48 = .ok (.dup, 1) := by decide +kernel
theorem dX12_readAgain_49 : decode cX12_readAgain 49 = .ok (.getfield 124, 3) := by decide +kernel
theorem dX12_readAgain_52 : decode cX12_readAgain 52 = .ok (.iconst 1, 1) := by decide +kernel
theorem dX12_readAgain_53 : decode cX12_readAgain 53 = .ok (.iadd, 1) := by decide +kernel
theorem dX12_readAgain_54 : decode cX12_readAgain 54 = .ok (.putfield 124, 3) := by decide +kernel
theorem dX12_readAgain_57 : decode cX12_readAgain 57 = .ok (.aload_n 0, 1) := by decide +kernel
theorem dX12_readAgain_58 : decode cX12_readAgain 58 = .ok (.getfield 257, 3) := by decide +kernel
theorem dX12_readAgain_61 : decode cX12_readAgain 61 = .ok (.istore 4, 2) := by decide +kernel
theorem dX12_readAgain_63 : decode cX12_readAgain 63 = .ok (.aload_n 0, 1) := by decide +kernel
theorem dX12_readAgain_64 : decode cX12_readAgain 64 = .ok (.iload_n 1, 1) := by decide +kernel
theorem dX12_readAgain_65 : decode cX12_readAgain 65 = .ok (.iload_n 2, 1) := by decide +kernel
theorem dX12_readAgain_66 : decode cX12_readAgain 66 = .ok (.iconst 1, 1) := by decide +kernel
theorem dX12_readAgain_67 : decode cX12_readAgain 67 = .ok (.iadd, 1) := by decide +kernel
theorem dX12_readAgain_68 : decode cX12_readAgain 68 = .ok (.invokevirtual 265, 3) := by decide +kernel
theorem dX12_readAgain_71 : decode cX12_readAgain 71 = .ok (.aload_n 0, 1) := by decide +kernel
theorem dX12_readAgain_72 : decode cX12_readAgain 72 = .ok (.getfield 131, 3) := by decide +kernel
theorem dX12_readAgain_75 : decode cX12_readAgain 75 = .ok (.iconst (-1), 1) := by decide +kernel
theorem dX12_readAgain_76 : decode cX12_readAgain 76 = .ok (.if_icmp .ne 25, 3) := by decide +kernel
theorem dX12_readAgain_79 : decode cX12_readAgain 79 = .ok (.aload_n 0, 1) := by decide +kernel
theorem dX12_readAgain_80 : decode cX12_readAgain 80 = .ok (.invokevirtual 143, 3) := by decide +kernel
theorem dX12_readAgain_83 : decode cX12_readAgain 83 = .ok (.bipush 41, 2) := by decide +kernel
theorem dX12_readAgain_85 : decode cX12_readAgain 85 = .ok (.if_icmp .ne 16, 3) := by decide +kernel
theorem dX12_readAgain_88 : decode cX12_readAgain 88 = .ok (.aload_n 0, 1) := by decide +kernel
theorem dX12_readAgain_89 : decode cX12_readAgain 89 = .ok (.dup, 1) := by decide +kernel
theorem dX12_readAgain_90 : decode cX12_readAgain 90 = .ok (.getfield 124, 3) := by decide +kernel
theorem dX12_readAgain_93 : decode cX12_readAgain 93 = .ok (.iconst 1, 1) := by decide +kernel
theorem dX12_readAgain_94 : decode cX12_readAgain 94 = .ok (.iadd, 1) := by decide +kernel
theorem dX12_readAgain_95 : decode cX12_readAgain 95 = .ok (.putfield 124, 3) := by decide +kernel
theorem dX12_readAgain_98 : decode cX12_readAgain 98 = .ok (.goto 7, 3) := by decide +kernel
theorem dX12_readAgain_101 : decode cX12_readAgain 101 = .ok (.aload_n 0, 1) := by decide +kernel
theorem dX12_readAgain_102 : decode cX12_readAgain 102 = .ok (.invokevirtual 140, 3) := by decide +kernel
theorem dX12_readAgain_105 : decode cX12_readAgain 105 = .ok (.aload_n 0, 1) := by decide +kernel
theorem dX12_readAgain_106 : decode cX12_readAgain 106 = .ok (.getfield 257, 3) := by decide +kernel
theorem dX12_readAgain_109 : decode cX12_readAgain 109 = .ok (.iload 4, 2) := by decide +kernel
theorem dX12_readAgain_111 : decode cX12_readAgain 111 = .ok (.isub, 1) := by decide +kernel
theorem dX12_readAgain_112 : decode cX12_readAgain 112 = .ok (.istore 5, 2) := by decide +kernel
theorem dX12_readAgain_114 : decode cX12_readAgain 114 = .ok (.iconst 0, 1) := by decide +kernel
theorem dX12_readAgain_115 : decode cX12_readAgain 115 = .ok (.istore 6, 2) := by decide +kernel
theorem dX12_readAgain_117 : decode cX12_readAgain 117 = .ok (.iload 6, 2) := by decide +kernel
theorem dX12_readAgain_119 : decode cX12_readAgain 119 = .ok (.iload_n 3, 1) := by decide +kernel
theorem dX12_readAgain_120 : decode cX12_readAgain 120 = .ok (.iconst 1, 1) := by decide +kernel
theorem dX12_readAgain_121 : decode cX12_readAgain 121 = .ok (.isub, 1) := by decide +kernel
theorem dX12_readAgain_122 : decode cX12_readAgain 122 = .ok (.iload 5, 2) := by decide +kernel
theorem dX12_readAgain_124 : decode cX12_readAgain 124 = .ok (.imul, 1) := by decide +kernel
theorem dX12_readAgain_125 : decode cX12_readAgain 125 = .ok (.if_icmp .ge 53, 3) := by decide +kernel
theorem dX12_readAgain_128 : decode cX12_readAgain 128 = .ok (.aload_n 0, 1) := by decide +kernel
theorem dX12_readAgain_129 : decode cX12_readAgain 129 = .ok (.getfield 131, 3) := by decide +kernel
theorem dX12_readAgain_132 : decode cX12_readAgain 132 = .ok (.iconst (-1), 1) := by decide +kernel
theorem dX12_readAgain_133 : decode cX12_readAgain 133 = .ok (.if_icmp .ne 45, 3) := by decide +kernel
theorem dX12_readAgain_136 : decode cX12_readAgain 136 = .ok (.aload_n 0, 1) := by decide +kernel
theorem dX12_readAgain_137 : decode cX12_readAgain 137 = .ok (.iload_n 1, 1) := by decide +kernel
theorem dX12_readAgain_138 : decode cX12_readAgain 138 = .ok (.aload_n 0, 1) := by decide +kernel
theorem dX12_readAgain_139 : decode cX12_readAgain 139 = .ok (.getfield 257, 3) := by decide +kernel
theorem dX12_readAgain_142 : decode cX12_readAgain 142 = .ok (.bipush 48, 2) := by decide +kernel
theorem dX12_readAgain_144 : decode cX12_readAgain 144 = .ok (.if_icmp .ge 23, 3) := by decide +kernel
theorem dX12_readAgain_147 : decode cX12_readAgain 147 = .ok (.aload_n 0, 1) := by decide +kernel
theorem dX12_readAgain_148 : decode cX12_readAgain 148 = .ok (.getfield 52, 3) := by decide +kernel
theorem dX12_readAgain_151 : decode cX12_readAgain 151 = .ok (.bipush 48, 2) := by decide +kernel
theorem dX12_readAgain_153 : decode cX12_readAgain 153 = .ok (.iload_n 1, 1) := by decide +kernel
theorem dX12_readAgain_154 : decode cX12_readAgain 154 = .ok (.imul, 1) := by decide +kernel
theorem dX12_readAgain_155 : decode cX12_readAgain 155 = .ok (.aload_n 0, 1) := by decide +kernel
theorem dX12_readAgain_156 : decode cX12_readAgain 156 = .ok (.getfield 257, 3) := by decide +kernel
theorem dX12_readAgain_159 : decode cX12_readAgain 159 = .ok (.iadd, 1) := by decide +kernel
theorem dX12_readAgain_160 : decode cX12_readAgain 160 = .ok (.iload 5, 2) := by decide +kernel
theorem dX12_readAgain_162 : decode cX12_readAgain 162 = .ok (.isub, 1) := by decide +kernel
theorem dX12_readAgain_163 : decode cX12_readAgain 163 = .ok (.iaload, 1) := by decide +kernel
theorem dX12_readAgain_164 : decode cX12_readAgain 164 = .ok (.goto 5, 3) := by decide +kernel
theorem dX12_readAgain_167 : decode cX12_readAgain 167 = .ok (.bipush 20, 2) := by decide +kernel
theorem dX12_readAgain_169 : decode cX12_readAgain 169 = .ok (.invokevirtual 262, 3) := by decide +kernel
theorem dX12_readAgain_172 : decode cX12_readAgain 172 = .ok (.iinc 6 1, 3) := by decide +kernel
theorem dX12_readAgain_175 : decode cX12_readAgain 175 = .ok (.goto (-58), 3) := by decide +kernel
theorem dX12_readAgain_178 : decode cX12_readAgain 178 = .ok (.return_, 1) := by decide +kernel
theorem dX12_readRow_0 : decode cX12_readRow 0 = .ok (.iconst 1, 1) := by decide +kernel
theorem dX12_readRow_1 : decode cX12_readRow 1 = .ok (.istore_n 3, 1) := by decide +kernel
theorem dX12_readRow_2 : decode cX12_readRow 2 = .ok (.iload_n 3, 1) := by decide +kernel
theorem dX12_readRow_3 : decode cX12_readRow 3 = .ok (.ifCond .eq 131, 3) := by decide +kernel
theorem dX12_readRow_6 : decode cX12_readRow 6 = .ok (.aload_n 0, 1) := by decide +kernel
theorem dX12_readRow_7 : decode cX12_readRow 7 = .ok (.getfield 131, 3) := by decide +kernel
theorem dX12_readRow_10 : decode cX12_readRow 10 = .ok (.iconst (-1), 1) := by decide +kernel
theorem dX12_readRow_11 : decode cX12_readRow 11 = .ok (.if_icmp .ne 123, 3) := by decide +kernel
theorem dX12_readRow_14 : decode cX12_readRow 14 = .ok (.aload_n 0, 1) := by decide +kernel
theorem dX12_readRow_15 : decode cX12_readRow 15 = .ok (.invokevirtual 143, 3) := by decide +kernel
theorem dX12_readRow_18 : decode cX12_readRow 18 = .ok (.istore 4, 2) := by decide +kernel
theorem dX12_readRow_20 : decode cX12_readRow 20 = .ok (.iload 4, 2) := by decide +kernel
theorem dX12_readRow_22 : decode cX12_readRow 22 = .ok (.bipush 111, 2) := by decide +kernel
theorem dX12_readRow_24 : decode cX12_readRow 24 = .ok (.if_icmp .eq 10, 3) := by decide +kernel
theorem dX12_readRow_27 : decode cX12_readRow 27 = .ok (.iload 4, 2) := by decide +kernel
theorem dX12_readRow_29 : decode cX12_readRow 29 = .ok (.bipush 117, 2) := by decide +kernel
theorem dX12_readRow_31 : decode cX12_readRow 31 = .ok (.if_icmp .ne 11, 3) := by decide +kernel
theorem dX12_readRow_34 : decode cX12_readRow 34 = .ok (.aload_n 0, 1) := by decide +kernel
theorem dX12_readRow_35 : decode cX12_readRow 35 = .ok (.iload_n 1, 1) := by decide +kernel
theorem dX12_readRow_36 : decode cX12_readRow 36 = .ok (.invokevirtual 268, 3) := by decide +kernel
theorem dX12_readRow_39 : decode cX12_readRow 39 = .ok (.goto 51, 3) := by decide +kernel
theorem dX12_readRow_42 : decode cX12_readRow 42 = .ok (.iload 4, 2) := by decide +kernel
theorem dX12_readRow_44 : decode cX12_readRow 44 = .ok (.bipush 119, 2) := by decide +kernel
theorem dX12_readRow_46 : decode cX12_readRow 46 = .ok (.if_icmp .ne 23, 3) := by decide +kernel
theorem dX12_readRow_49 : decode cX12_readRow 49 = .ok (.aload_n 0, 1) := by decide +kernel
theorem dX12_readRow_50 : decode cX12_readRow 50 = .ok (.dup, 1) := by decide +kernel
theorem dX12_readRow_51 : decode cX12_readRow 51 = .ok (.getfield 124, 3) := by decide +kernel
theorem dX12_readRow_54 : decode cX12_readRow 54 = .ok (.iconst 1, 1) := by decide +kernel
theorem dX12_readRow_55 : decode cX12_readRow 55 = .ok (.iadd, 1) := by decide +kernel
theorem dX12_readRow_56 : decode cX12_readRow 56 = .ok (.putfield 124, 3) := by decide +kernel
theorem dX12_readRow_59 : decode cX12_readRow 59 = .ok (.aload_n 0, 1) := by decide +kernel
theorem dX12_readRow_60 : decode cX12_readRow 60 = .ok (.iload_n 1, 1) := by decide +kernel
theorem dX12_readRow_61 : decode cX12_readRow 61 = .ok (.bipush 20, 2) := by decide +kernel
theorem dX12_readRow_63 : decode cX12_readRow 63 = .ok (.invokevirtual 262, 3) := by decide +kernel
theorem dX12_readRow_66 : decode cX12_readRow 66 = .ok (.goto 24, 3) := by decide +kernel
theorem dX12_readRow_69 : decode cX12_readRow 69 = .ok (.iload 4, 2) := by decide +kernel
theorem dX12_readRow_71 : decode cX12_readRow 71 = .ok (.invokestatic 146, 3) := by decide +kernel
theorem dX12_readRow_74 : decode cX12_readRow 74 = .ok (.ifCond .eq 12, 3) := by decide +kernel
theorem dX12_readRow_77 : decode cX12_readRow 77 = .ok (.aload_n 0, 1) := by decide +kernel
theorem dX12_readRow_78 : decode cX12_readRow 78 = .ok (.iload_n 1, 1) := by decide +kernel
theorem dX12_readRow_79 : decode cX12_readRow 79 = .ok (.iload_n 2, 1) := by decide +kernel
theorem dX12_readRow_80 : decode cX12_readRow 80 = .ok (.invokevirtual 271, 3) := by decide +kernel
theorem dX12_readRow_83 : decode cX12_readRow 83 = .ok (.goto 7, 3) := by decide +kernel
theorem dX12_readRow_86 : decode cX12_readRow 86 = .ok (.aload_n 0, 1) := by decide +kernel
theorem dX12_readRow_87 : decode cX12_readRow 87 = .ok (.invokevirtual 140, 3) := by decide +kernel
theorem dX12_readRow_90 : decode cX12_readRow 90 = .ok (.aload_n 0, 1) := by decide +kernel
theorem dX12_readRow_91 : decode cX12_readRow 91 = .ok (.getfield 131, 3) := by decide +kernel
theorem dX12_readRow_94 : decode cX12_readRow 94 = .ok (.iconst (-1), 1) := by decide +kernel
theorem dX12_readRow_95 : decode cX12_readRow 95 = .ok (.if_icmp .ne 16, 3) := by decide +kernel
theorem dX12_readRow_98 : decode cX12_readRow 98 = .ok (.aload_n 0, 1) := by decide +kernel
theorem dX12_readRow_99 : decode cX12_readRow 99 = .ok (.invokevirtual 143, 3) := by decide +kernel
theorem dX12_readRow_102 : decode cX12_readRow 102 = .ok (.bipush 59, 2) := by decide +kernel
theorem dX12_readRow_104 : decode cX12_readRow 104 = .ok (.if_icmp .ne 7, 3) := by decide +kernel
theorem dX12_readRow_107 : decode cX12_readRow 107 = .ok (.iconst 1, 1) := by decide +kernel
theorem dX12_readRow_108 : decode cX12_readRow 108 = .ok (.goto 4, 3) := by decide +kernel
theorem dX12_readRow_111 : decode cX12_readRow 111 = .ok (.iconst 0, 1) := by decide +kernel
theorem dX12_readRow_112 : decode cX12_readRow 112 = .ok (.istore_n 3, 1) := by decide +kernel
theorem dX12_readRow_113 : decode cX12_readRow 113 = .ok (.aload_n 0, 1) := by decide +kernel
theorem dX12_readRow_114 : decode cX12_readRow 114 = .ok (.dup, 1) := by decide +kernel
theorem dX12_readRow_115 : decode cX12_readRow 115 = .ok (.getfield 124, 3) := by decide +kernel
theorem dX12_readRow_118 : decode cX12_readRow 118 = .ok (.iload_n 3, 1) := by decide +kernel
theorem dX12_readRow_119 : decode cX12_readRow 119 = .ok (.ifCond .eq 7, 3) := by decide +kernel
theorem dX12_readRow_122 : decode cX12_readRow 122 = .ok (.iconst 1, 1) := by decide +kernel
theorem dX12_readRow_123 : decode cX12_readRow 123 = .ok (.goto 4, 3) := by decide +kernel
theorem dX12_readRow_126 : decode cX12_readRow 126 = .ok (.iconst 0, 1) := by decide +kernel
theorem dX12_readRow_127 : decode cX12_readRow 127 = .ok (.iadd, 1) := by decide +kernel
theorem dX12_readRow_128 : decode cX12_readRow 128 = .ok (.putfield 124, 3) := by decide +kernel
theorem dX12_readRow_131 : decode cX12_readRow 131 = .ok (.goto (-129), 3) := by decide +kernel
theorem dX12_readRow_134 : decode cX12_readRow 134 = .ok (.return_, 1) := by decide +kernel
theorem dX12_readFigure_0 : decode cX12_readFigure 0 = .ok (.aload_n 0, 1) := by decide +kernel
theorem dX12_readFigure_1 : decode cX12_readFigure 1 = .ok (.iconst 0, 1) := by decide +kernel
theorem dX12_readFigure_2 : decode cX12_readFigure 2 = .ok (.putfield 124, 3) := by decide +kernel
theorem dX12_readFigure_5 : decode cX12_readFigure 5 = .ok (.aload_n 0, 1) := by decide +kernel
theorem dX12_readFigure_6 : decode cX12_readFigure 6 = .ok (.iconst (-1), 1) := by decide +kernel
theorem dX12_readFigure_7 : decode cX12_readFigure 7 = .ok (.putfield 131, 3) := by decide +kernel
theorem dX12_readFigure_10 : decode cX12_readFigure 10 = .ok (.aload_n 0, 1) := by decide +kernel
theorem dX12_readFigure_11 : decode cX12_readFigure 11 = .ok (.iconst 0, 1) := by decide +kernel
theorem dX12_readFigure_12 : decode cX12_readFigure 12 = .ok (.putfield 257, 3) := by decide +kernel
theorem dX12_readFigure_15 : decode cX12_readFigure 15 = .ok (.aload_n 0, 1) := by decide +kernel
theorem dX12_readFigure_16 : decode cX12_readFigure 16 = .ok (.iload_n 1, 1) := by decide +kernel
theorem dX12_readFigure_17 : decode cX12_readFigure 17 = .ok (.iconst 0, 1) := by decide +kernel
theorem dX12_readFigure_18 : decode cX12_readFigure 18 = .ok (.invokevirtual 265, 3) := by decide +kernel
theorem dX12_readFigure_21 : decode cX12_readFigure 21 = .ok (.aload_n 0, 1) := by decide +kernel
theorem dX12_readFigure_22 : decode cX12_readFigure 22 = .ok (.getfield 131, 3) := by decide +kernel
theorem dX12_readFigure_25 : decode cX12_readFigure 25 = .ok (.iconst (-1), 1) := by decide +kernel
theorem dX12_readFigure_26 : decode cX12_readFigure 26 = .ok (.if_icmp .ne 24, 3) := by decide +kernel
theorem dX12_readFigure_29 : decode cX12_readFigure 29 = .ok (.aload_n 0, 1) := by decide +kernel
theorem dX12_readFigure_30 : decode cX12_readFigure 30 = .ok (.invokevirtual 143, 3) := by decide +kernel
theorem dX12_readFigure_33 : decode cX12_readFigure 33 = .ok (.iconst (-1), 1) := by decide +kernel
theorem dX12_readFigure_34 : decode cX12_readFigure 34 = .ok (.if_icmp .ne 12, 3) := by decide +kernel
theorem dX12_readFigure_37 : decode cX12_readFigure 37 = .ok (.aload_n 0, 1) := by decide +kernel
theorem dX12_readFigure_38 : decode cX12_readFigure 38 = .ok (.getfield 257, 3) := by decide +kernel
theorem dX12_readFigure_41 : decode cX12_readFigure 41 = .ok (.bipush 48, 2) := by decide +kernel
theorem dX12_readFigure_43 : decode cX12_readFigure 43 = .ok (.if_icmp .le 7, 3) := by decide +kernel
theorem dX12_readFigure_46 : decode cX12_readFigure 46 = .ok (.aload_n 0, 1) := by decide +kernel
theorem dX12_readFigure_47 : decode cX12_readFigure 47 = .ok (.invokevirtual 140, 3) := by decide +kernel
theorem dX12_readFigure_50 : decode cX12_readFigure 50 = .ok (.aload_n 0, 1) := by decide +kernel
theorem dX12_readFigure_51 : decode cX12_readFigure 51 = .ok (.getfield 55, 3) := by decide +kernel
theorem dX12_readFigure_54 : decode cX12_readFigure 54 = .ok (.iload_n 1, 1) := by decide +kernel
theorem dX12_readFigure_55 : decode cX12_readFigure 55 = .ok (.aload_n 0, 1) := by decide +kernel
theorem dX12_readFigure_56 : decode cX12_readFigure 56 = .ok (.getfield 257, 3) := by decide +kernel
theorem dX12_readFigure_59 : decode cX12_readFigure 59 = .ok (.iastore, 1) := by decide +kernel
theorem dX12_readFigure_60 : decode cX12_readFigure 60 = .ok (.aload_n 0, 1) := by decide +kernel
theorem dX12_readFigure_61 : decode cX12_readFigure 61 = .ok (.getfield 131, 3) := by decide +kernel
theorem dX12_readFigure_64 : decode cX12_readFigure 64 = .ok (.ireturn, 1) := by decide +kernel
theorem dX12_fault_0 : decode cX12_fault 0 = .ok (.iload_n 1, 1) := by decide +kernel
theorem dX12_fault_1 : decode cX12_fault 1 = .ok (.ifCond .ne 10, 3) := by decide +kernel
theorem dX12_fault_4 : decode cX12_fault 4 = .ok (.aload_n 0, 1) := by decide +kernel
theorem dX12_fault_5 : decode cX12_fault 5 = .ok (.invokevirtual 274, 3) := by decide +kernel
theorem dX12_fault_8 : decode cX12_fault 8 = .ok (.goto 32, 3) := by decide +kernel
theorem dX12_fault_11 : decode cX12_fault 11 = .ok (.iload_n 1, 1) := by decide +kernel
theorem dX12_fault_12 : decode cX12_fault 12 = .ok (.iconst 1, 1) := by decide +kernel
theorem dX12_fault_13 : decode cX12_fault 13 = .ok (.if_icmp .ne 11, 3) := by decide +kernel
theorem dX12_fault_16 : decode cX12_fault 16 = .ok (.aload_n 0, 1) := by decide +kernel
theorem dX12_fault_17 : decode cX12_fault 17 = .ok (.iconst 4, 1) := by decide +kernel
theorem dX12_fault_18 : decode cX12_fault 18 = .ok (.invokevirtual 277, 3) := by decide +kernel
theorem dX12_fault_21 : decode cX12_fault 21 = .ok (.goto 19, 3) := by decide +kernel
theorem dX12_fault_24 : decode cX12_fault 24 = .ok (.iload_n 1, 1) := by decide +kernel
theorem dX12_fault_25 : decode cX12_fault 25 = .ok (.iconst 2, 1) := by decide +kernel
theorem dX12_fault_26 : decode cX12_fault 26 = .ok (.if_icmp .ne 12, 3) := by decide +kernel
theorem dX12_fault_29 : decode cX12_fault 29 = .ok (.aload_n 0, 1) := by decide +kernel
theorem dX12_fault_30 : decode cX12_fault 30 = .ok (.bipush 6, 2) := by decide +kernel
theorem dX12_fault_32 : decode cX12_fault 32 = .ok (.invokevirtual 280, 3) := by decide +kernel
theorem dX12_fault_35 : decode cX12_fault 35 = .ok (.goto 5, 3) := by decide +kernel
theorem dX12_fault_38 : decode cX12_fault 38 = .ok (.bipush (-2), 2) := by decide +kernel
theorem dX12_fault_40 : decode cX12_fault 40 = .ok (.ireturn, 1) := by decide +kernel
theorem dX12_takeGreen_0 : decode cX12_takeGreen 0 = .ok (.aload_n 0, 1) := by decide +kernel
theorem dX12_takeGreen_1 : decode cX12_takeGreen 1 = .ok (.aload_n 0, 1) := by decide +kernel
theorem dX12_takeGreen_2 : decode cX12_takeGreen 2 = .ok (.getfield 250, 3) := by decide +kernel
theorem dX12_takeGreen_5 : decode cX12_takeGreen 5 = .ok (.putfield 283, 3) := by decide +kernel
theorem dX12_takeGreen_8 : decode cX12_takeGreen 8 = .ok (.iconst 0, 1) := by decide +kernel
theorem dX12_takeGreen_9 : decode cX12_takeGreen 9 = .ok (.istore_n 1, 1) := by decide +kernel
theorem dX12_takeGreen_10 : decode cX12_takeGreen 10 = .ok (.iload_n 1, 1) := by decide +kernel
theorem dX12_takeGreen_11 : decode cX12_takeGreen 11 = .ok (.iconst 3, 1) := by decide +kernel
theorem dX12_takeGreen_12 : decode cX12_takeGreen 12 = .ok (.if_icmp .ge 21, 3) := by decide +kernel
theorem dX12_takeGreen_15 : decode cX12_takeGreen 15 = .ok (.aload_n 0, 1) := by decide +kernel
theorem dX12_takeGreen_16 : decode cX12_takeGreen 16 = .ok (.getfield 46, 3) := by decide +kernel
theorem dX12_takeGreen_19 : decode cX12_takeGreen 19 = .ok (.iload_n 1, 1) := by decide +kernel
theorem dX12_takeGreen_20 : decode cX12_takeGreen 20 = .ok (.aload_n 0, 1) := by decide +kernel
theorem dX12_takeGreen_21 : decode cX12_takeGreen 21 = .ok (.getfield 40, 3) := by decide +kernel
theorem dX12_takeGreen_24 : decode cX12_takeGreen 24 = .ok (.iload_n 1, 1) := by decide +kernel
theorem dX12_takeGreen_25 : decode cX12_takeGreen 25 = .ok (.iaload, 1) := by decide +kernel
theorem dX12_takeGreen_26 : decode cX12_takeGreen 26 = .ok (.iastore, 1) := by decide +kernel
theorem dX12_takeGreen_27 : decode cX12_takeGreen 27 = .ok (.iinc 1 1, 3) := by decide +kernel
theorem dX12_takeGreen_30 : decode cX12_takeGreen 30 = .ok (.goto (-20), 3) := by decide +kernel
theorem dX12_takeGreen_33 : decode cX12_takeGreen 33 = .ok (.iconst 0, 1) := by decide +kernel
theorem dX12_takeGreen_34 : decode cX12_takeGreen 34 = .ok (.istore_n 1, 1) := by decide +kernel
theorem dX12_takeGreen_35 : decode cX12_takeGreen 35 = .ok (.iload_n 1, 1) := by decide +kernel
theorem dX12_takeGreen_36 : decode cX12_takeGreen 36 = .ok (.bipush 21, 2) := by decide +kernel
theorem dX12_takeGreen_38 : decode cX12_takeGreen 38 = .ok (.if_icmp .ge 21, 3) := by decide +kernel
theorem dX12_takeGreen_41 : decode cX12_takeGreen 41 = .ok (.aload_n 0, 1) := by decide +kernel
theorem dX12_takeGreen_42 : decode cX12_takeGreen 42 = .ok (.getfield 49, 3) := by decide +kernel
theorem dX12_takeGreen_45 : decode cX12_takeGreen 45 = .ok (.iload_n 1, 1) := by decide +kernel
theorem dX12_takeGreen_46 : decode cX12_takeGreen 46 = .ok (.aload_n 0, 1) := by decide +kernel
theorem dX12_takeGreen_47 : decode cX12_takeGreen 47 = .ok (.getfield 43, 3) := by decide +kernel
theorem dX12_takeGreen_50 : decode cX12_takeGreen 50 = .ok (.iload_n 1, 1) := by decide +kernel
theorem dX12_takeGreen_51 : decode cX12_takeGreen 51 = .ok (.iaload, 1) := by decide +kernel
theorem dX12_takeGreen_52 : decode cX12_takeGreen 52 = .ok (.iastore, 1) := by decide +kernel
theorem dX12_takeGreen_53 : decode cX12_takeGreen 53 = .ok (.iinc 1 1, 3) := by decide +kernel
theorem dX12_takeGreen_56 : decode cX12_takeGreen 56 = .ok (.goto (-21), 3) := by decide +kernel
theorem dX12_takeGreen_59 : decode cX12_takeGreen 59 = .ok (.iconst 0, 1) := by decide +kernel
theorem dX12_takeGreen_60 : decode cX12_takeGreen 60 = .ok (.istore_n 1, 1) := by decide +kernel
theorem dX12_takeGreen_61 : decode cX12_takeGreen 61 = .ok (.iload_n 1, 1) := by decide +kernel
theorem dX12_takeGreen_62 : decode cX12_takeGreen 62 = .ok (.sipush 398, 3) := by decide +kernel
theorem dX12_takeGreen_65 : decode cX12_takeGreen 65 = .ok (.if_icmp .ge 16, 3) := by decide +kernel
theorem dX12_takeGreen_68 : decode cX12_takeGreen 68 = .ok (.aload_n 0, 1) := by decide +kernel
theorem dX12_takeGreen_69 : decode cX12_takeGreen 69 = .ok (.getfield 58, 3) := by decide +kernel
theorem dX12_takeGreen_72 : decode cX12_takeGreen 72 = .ok (.iload_n 1, 1) := by decide +kernel
theorem dX12_takeGreen_73 : decode cX12_takeGreen 73 = .ok (.iconst 0, 1) := by decide +kernel
theorem dX12_takeGreen_74 : decode cX12_takeGreen 74 = .ok (.iastore, 1) := by decide +kernel
theorem dX12_takeGreen_75 : decode cX12_takeGreen 75 = .ok (.iinc 1 1, 3) := by decide +kernel
theorem dX12_takeGreen_78 : decode cX12_takeGreen 78 = .ok (.goto (-17), 3) := by decide +kernel
theorem dX12_takeGreen_81 : decode cX12_takeGreen 81 = .ok (.iconst 0, 1) := by decide +kernel
theorem dX12_takeGreen_82 : decode cX12_takeGreen 82 = .ok (.istore_n 1, 1) := by decide +kernel
theorem dX12_takeGreen_83 : decode cX12_takeGreen 83 = .ok (.iload_n 1, 1) := by decide +kernel
theorem dX12_takeGreen_84 : decode cX12_takeGreen 84 = .ok (.aload_n 0, 1) := by decide +kernel
theorem dX12_takeGreen_85 : decode cX12_takeGreen 85 = .ok (.getfield 283, 3) := by decide +kernel
theorem dX12_takeGreen_88 : decode cX12_takeGreen 88 = .ok (.if_icmp .ge 33, 3) := by decide +kernel
theorem dX12_takeGreen_91 : decode cX12_takeGreen 91 = .ok (.aload_n 0, 1) := by decide +kernel
theorem dX12_takeGreen_92 : decode cX12_takeGreen 92 = .ok (.getfield 58, 3) := by decide +kernel
theorem dX12_takeGreen_95 : decode cX12_takeGreen 95 = .ok (.iconst 0, 1) := by decide +kernel
theorem dX12_takeGreen_96 : decode cX12_takeGreen 96 = .ok (.iload_n 1, 1) := by decide +kernel
theorem dX12_takeGreen_97 : decode cX12_takeGreen 97 = .ok (.iadd, 1) := by decide +kernel
theorem dX12_takeGreen_98 : decode cX12_takeGreen 98 = .ok (.iload_n 1, 1) := by decide +kernel
theorem dX12_takeGreen_99 : decode cX12_takeGreen 99 = .ok (.iastore, 1) := by decide +kernel
theorem dX12_takeGreen_100 : decode cX12_takeGreen 100 = .ok (.aload_n 0, 1) := by decide +kernel
theorem dX12_takeGreen_101 : decode cX12_takeGreen 101 = .ok (.getfield 58, 3) := by decide +kernel
theorem dX12_takeGreen_104 : decode cX12_takeGreen 104 = .ok (.bipush 7, 2) := by decide +kernel
theorem dX12_takeGreen_106 : decode cX12_takeGreen 106 = .ok (.iload_n 1, 1) := by decide +kernel
theorem dX12_takeGreen_107 : decode cX12_takeGreen 107 = .ok (.iadd, 1) := by decide +kernel
theorem dX12_takeGreen_108 : decode cX12_takeGreen 108 = .ok (.aload_n 0, 1) := by decide +kernel
theorem dX12_takeGreen_109 : decode cX12_takeGreen 109 = .ok (.iload_n 1, 1) := by decide +kernel
theorem dX12_takeGreen_110 : decode cX12_takeGreen 110 = .ok (.iconst 1, 1) := by decide +kernel
theorem dX12_takeGreen_111 : decode cX12_takeGreen 111 = .ok (.invokevirtual 286, 3) := by decide +kernel
theorem dX12_takeGreen_114 : decode cX12_takeGreen 114 = .ok (.iastore, 1) := by decide +kernel
theorem dX12_takeGreen_115 : decode cX12_takeGreen 115 = .ok (.iinc 1 1, 3) := by decide +kernel
theorem dX12_takeGreen_118 : decode cX12_takeGreen 118 = .ok (.goto (-35), 3) := by decide +kernel
theorem dX12_takeGreen_121 : decode cX12_takeGreen 121 = .ok (.aload_n 0, 1) := by decide +kernel
theorem dX12_takeGreen_122 : decode cX12_takeGreen 122 = .ok (.getfield 58, 3) := by decide +kernel
theorem dX12_takeGreen_125 : decode cX12_takeGreen 125 = .ok (.sipush 215, 3) := by decide +kernel
theorem dX12_takeGreen_128 : decode cX12_takeGreen 128 = .ok (.aload_n 0, 1) := by decide +kernel
theorem dX12_takeGreen_129 : decode cX12_takeGreen 129 = .ok (.getfield 46, 3) := by decide +kernel
theorem dX12_takeGreen_132 : decode cX12_takeGreen 132 = .ok (.iconst 1, 1) := by decide +kernel
theorem dX12_takeGreen_133 : decode cX12_takeGreen 133 = .ok (.iaload, 1) := by decide +kernel
theorem dX12_takeGreen_134 : decode cX12_takeGreen 134 = .ok (.iastore, 1) := by decide +kernel
theorem dX12_takeGreen_135 : decode cX12_takeGreen 135 = .ok (.aload_n 0, 1) := by decide +kernel
theorem dX12_takeGreen_136 : decode cX12_takeGreen 136 = .ok (.iconst 0, 1) := by decide +kernel
theorem dX12_takeGreen_137 : decode cX12_takeGreen 137 = .ok (.putfield 289, 3) := by decide +kernel
theorem dX12_takeGreen_140 : decode cX12_takeGreen 140 = .ok (.aload_n 0, 1) := by decide +kernel
theorem dX12_takeGreen_141 : decode cX12_takeGreen 141 = .ok (.iconst 0, 1) := by decide +kernel
theorem dX12_takeGreen_142 : decode cX12_takeGreen 142 = .ok (.putfield 292, 3) := by decide +kernel
theorem dX12_takeGreen_145 : decode cX12_takeGreen 145 = .ok (.aload_n 0, 1) := by decide +kernel
theorem dX12_takeGreen_146 : decode cX12_takeGreen 146 = .ok (.iconst 0, 1) := by decide +kernel
theorem dX12_takeGreen_147 : decode cX12_takeGreen 147 = .ok (.putfield 295, 3) := by decide +kernel
theorem dX12_takeGreen_150 : decode cX12_takeGreen 150 = .ok (.aload_n 0, 1) := by decide +kernel
theorem dX12_takeGreen_151 : decode cX12_takeGreen 151 = .ok (.getfield 283, 3) := by decide +kernel
theorem dX12_takeGreen_154 : decode cX12_takeGreen 154 = .ok (.ireturn, 1) := by decide +kernel
theorem dX12_text_0 : decode cX12_text 0 = .ok (.iload_n 1, 1) := by decide +kernel
theorem dX12_text_1 : decode cX12_text 1 = .ok (.ifCond .ne 21, 3) := by decide +kernel
theorem dX12_text_4 : decode cX12_text 4 = .ok (.aload_n 0, 1) := by decide +kernel
theorem dX12_text_5 : decode cX12_text 5 = .ok (.invokevirtual 274, 3) := by decide +kernel
theorem dX12_text_8 : decode cX12_text 8 = .ok (.iconst (-1), 1) := by decide +kernel
theorem dX12_text_9 : decode cX12_text 9 = .ok (.if_icmp .ne 13, 3) := by decide +kernel
theorem dX12_text_12 : decode cX12_text 12 = .ok (.aload_n 0, 1) := by decide +kernel
theorem dX12_text_13 : decode cX12_text 13 = .ok (.iconst 0, 1) := by decide +kernel
theorem dX12_text_14 : decode cX12_text 14 = .ok (.putfield 121, 3) := by decide +kernel
theorem dX12_text_17 : decode cX12_text 17 = .ok (.aload_n 0, 1) := by decide +kernel
theorem dX12_text_18 : decode cX12_text 18 = .ok (.invokevirtual 299, 3) := by decide +kernel
theorem dX12_text_21 : decode cX12_text 21 = .ok (.ireturn, 1) := by decide +kernel
theorem dX12_text_22 : decode cX12_text 22 = .ok (.iload_n 1, 1) := by decide +kernel
theorem dX12_text_23 : decode cX12_text 23 = .ok (.iconst 1, 1) := by decide +kernel
theorem dX12_text_24 : decode cX12_text 24 = .ok (.if_icmp .ne 45, 3) := by decide +kernel
theorem dX12_text_27 : decode cX12_text 27 = .ok (.aload_n 0, 1) := by decide +kernel
theorem dX12_text_28 : decode cX12_text 28 = .ok (.getfield 302, 3) := by decide +kernel
theorem dX12_text_31 : decode cX12_text 31 = .ok (.iconst 4, 1) := by decide +kernel
theorem dX12_text_32 : decode cX12_text 32 = .ok (.if_icmp .ge 37, 3) := by decide +kernel
theorem dX12_text_35 : decode cX12_text 35 = .ok (.aload_n 0, 1) := by decide +kernel
theorem dX12_text_36 : decode cX12_text 36 = .ok (.aload_n 0, 1) := by decide +kernel
theorem dX12_text_37 : decode cX12_text 37 = .ok (.getfield 302, 3) := by decide +kernel
theorem dX12_text_40 : decode cX12_text 40 = .ok (.invokevirtual 277, 3) := by decide +kernel
theorem dX12_text_43 : decode cX12_text 43 = .ok (.iconst (-1), 1) := by decide +kernel
theorem dX12_text_44 : decode cX12_text 44 = .ok (.if_icmp .ne 25, 3) := by decide +kernel
theorem dX12_text_47 : decode cX12_text 47 = .ok (.aload_n 0, 1) := by decide +kernel
theorem dX12_text_48 : decode cX12_text 48 = .ok (.iconst 0, 1) := by decide +kernel
theorem dX12_text_49 : decode cX12_text 49 = .ok (.putfield 121, 3) := by decide +kernel
theorem dX12_text_52 : decode cX12_text 52 = .ok (.aload_n 0, 1) := by decide +kernel
theorem dX12_text_53 : decode cX12_text 53 = .ok (.dup, 1) := by decide +kernel
theorem dX12_text_54 : decode cX12_text 54 = .ok (.getfield 302, 3) := by decide +kernel
theorem dX12_text_57 : decode cX12_text 57 = .ok (.iconst 1, 1) := by decide +kernel
theorem dX12_text_58 : decode cX12_text 58 = .ok (.iadd, 1) := by decide +kernel
theorem dX12_text_59 : decode cX12_text 59 = .ok (.putfield 302, 3) := by decide +kernel
theorem dX12_text_62 : decode cX12_text 62 = .ok (.aload_n 0, 1) := by decide +kernel
theorem dX12_text_63 : decode cX12_text 63 = .ok (.getfield 302, 3) := by decide +kernel
theorem dX12_text_66 : decode cX12_text 66 = .ok (.iconst 1, 1) := by decide +kernel
theorem dX12_text_67 : decode cX12_text 67 = .ok (.isub, 1) := by decide +kernel
theorem dX12_text_68 : decode cX12_text 68 = .ok (.ireturn, 1) := by decide +kernel
theorem dX12_text_69 : decode cX12_text 69 = .ok (.iload_n 1, 1) := by decide +kernel
theorem dX12_text_70 : decode cX12_text 70 = .ok (.iconst 2, 1) := by decide +kernel
theorem dX12_text_71 : decode cX12_text 71 = .ok (.if_icmp .ne 46, 3) := by decide +kernel
theorem dX12_text_74 : decode cX12_text 74 = .ok (.aload_n 0, 1) := by decide +kernel
theorem dX12_text_75 : decode cX12_text 75 = .ok (.getfield 305, 3) := by decide +kernel
theorem dX12_text_78 : decode cX12_text 78 = .ok (.bipush 6, 2) := by decide +kernel
theorem dX12_text_80 : decode cX12_text 80 = .ok (.if_icmp .ge 37, 3) := by decide +kernel
theorem dX12_text_83 : decode cX12_text 83 = .ok (.aload_n 0, 1) := by decide +kernel
theorem dX12_text_84 : decode cX12_text 84 = .ok (.aload_n 0, 1) := by decide +kernel
theorem dX12_text_85 : decode cX12_text 85 = .ok (.getfield 305, 3) := by decide +kernel
theorem dX12_text_88 : decode cX12_text 88 = .ok (.invokevirtual 280, 3) := by decide +kernel
theorem dX12_text_91 : decode cX12_text 91 = .ok (.iconst (-1), 1) := by decide +kernel
theorem dX12_text_92 : decode cX12_text 92 = .ok (.if_icmp .ne 25, 3) := by decide +kernel
theorem dX12_text_95 : decode cX12_text 95 = .ok (.aload_n 0, 1) := by decide +kernel
theorem dX12_text_96 : decode cX12_text 96 = .ok (.iconst 0, 1) := by decide +kernel
theorem dX12_text_97 : decode cX12_text 97 = .ok (.putfield 121, 3) := by decide +kernel
theorem dX12_text_100 : decode cX12_text 100 = .ok (.aload_n 0, 1) := by decide +kernel
theorem dX12_text_101 : decode cX12_text 101 = .ok (.dup, 1) := by decide +kernel
theorem dX12_text_102 : decode cX12_text 102 = .ok (.getfield 305, 3) := by decide +kernel
theorem dX12_text_105 : decode cX12_text 105 = .ok (.iconst 1, 1) := by decide +kernel
theorem dX12_text_106 : decode cX12_text 106 = .ok (.iadd, 1) := by decide +kernel
theorem dX12_text_107 : decode cX12_text 107 = .ok (.putfield 305, 3) := by decide +kernel
theorem dX12_text_110 : decode cX12_text 110 = .ok (.aload_n 0, 1) := by decide +kernel
theorem dX12_text_111 : decode cX12_text 111 = .ok (.getfield 305, 3) := by decide +kernel
theorem dX12_text_114 : decode cX12_text 114 = .ok (.iconst 1, 1) := by decide +kernel
theorem dX12_text_115 : decode cX12_text 115 = .ok (.isub, 1) := by decide +kernel
theorem dX12_text_116 : decode cX12_text 116 = .ok (.ireturn, 1) := by decide +kernel
theorem dX12_text_117 : decode cX12_text 117 = .ok (.iconst (-1), 1) := by decide +kernel
theorem dX12_text_118 : decode cX12_text 118 = .ok (.ireturn, 1) := by decide +kernel
theorem dX12_told_0 : decode cX12_told 0 = .ok (.aload_n 0, 1) := by decide +kernel
theorem dX12_told_1 : decode cX12_told 1 = .ok (.getfield 49, 3) := by decide +kernel
theorem dX12_told_4 : decode cX12_told 4 = .ok (.iconst 3, 1) := by decide +kernel
theorem dX12_told_5 : decode cX12_told 5 = .ok (.iload_n 1, 1) := by decide +kernel
theorem dX12_told_6 : decode cX12_told 6 = .ok (.imul, 1) := by decide +kernel
theorem dX12_told_7 : decode cX12_told 7 = .ok (.iload_n 2, 1) := by decide +kernel
theorem dX12_told_8 : decode cX12_told 8 = .ok (.iadd, 1) := by decide +kernel
theorem dX12_told_9 : decode cX12_told 9 = .ok (.iaload, 1) := by decide +kernel
theorem dX12_told_10 : decode cX12_told 10 = .ok (.ireturn, 1) := by decide +kernel
theorem dX12_isDancer_0 : decode cX12_isDancer 0 = .ok (.iload_n 1, 1) := by decide +kernel
theorem dX12_isDancer_1 : decode cX12_isDancer 1 = .ok (.iconst 0, 1) := by decide +kernel
theorem dX12_isDancer_2 : decode cX12_isDancer 2 = .ok (.aload_n 0, 1) := by decide +kernel
theorem dX12_isDancer_3 : decode cX12_isDancer 3 = .ok (.getfield 283, 3) := by decide +kernel
theorem dX12_isDancer_6 : decode cX12_isDancer 6 = .ok (.iconst 1, 1) := by decide +kernel
theorem dX12_isDancer_7 : decode cX12_isDancer 7 = .ok (.isub, 1) := by decide +kernel
theorem dX12_isDancer_8 : decode cX12_isDancer 8 = .ok (.invokestatic 229, 3) := by decide +kernel
theorem dX12_isDancer_11 : decode cX12_isDancer 11 = .ok (.ireturn, 1) := by decide +kernel
theorem dX12_isFigure_0 : decode cX12_isFigure 0 = .ok (.aload_n 0, 1) := by decide +kernel
theorem dX12_isFigure_1 : decode cX12_isFigure 1 = .ok (.getfield 283, 3) := by decide +kernel
theorem dX12_isFigure_4 : decode cX12_isFigure 4 = .ok (.ifCond .le 21, 3) := by decide +kernel
theorem dX12_isFigure_7 : decode cX12_isFigure 7 = .ok (.iload_n 1, 1) := by decide +kernel
theorem dX12_isFigure_8 : decode cX12_isFigure 8 = .ok (.iconst 0, 1) := by decide +kernel
theorem dX12_isFigure_9 : decode cX12_isFigure 9 = .ok (.aload_n 0, 1) := by decide +kernel
theorem dX12_isFigure_10 : decode cX12_isFigure 10 = .ok (.getfield 305, 3) := by decide +kernel
theorem dX12_isFigure_13 : decode cX12_isFigure 13 = .ok (.iconst 1, 1) := by decide +kernel
theorem dX12_isFigure_14 : decode cX12_isFigure 14 = .ok (.isub, 1) := by decide +kernel
theorem dX12_isFigure_15 : decode cX12_isFigure 15 = .ok (.invokestatic 229, 3) := by decide +kernel
theorem dX12_isFigure_18 : decode cX12_isFigure 18 = .ok (.ifCond .eq 7, 3) := by decide +kernel
theorem dX12_isFigure_21 : decode cX12_isFigure 21 = .ok (.iconst 1, 1) := by decide +kernel
theorem dX12_isFigure_22 : decode cX12_isFigure 22 = .ok (.goto 4, 3) := by decide +kernel
theorem dX12_isFigure_25 : decode cX12_isFigure 25 = .ok (.iconst 0, 1) := by decide +kernel
theorem dX12_isFigure_26 : decode cX12_isFigure 26 = .ok (.ireturn, 1) := by decide +kernel
theorem dX12_of_0 : decode cX12_of 0 = .ok (.aload_n 0, 1) := by decide +kernel
theorem dX12_of_1 : decode cX12_of 1 = .ok (.getfield 58, 3) := by decide +kernel
theorem dX12_of_4 : decode cX12_of 4 = .ok (.bipush 15, 2) := by decide +kernel
theorem dX12_of_6 : decode cX12_of 6 = .ok (.iconst 5, 1) := by decide +kernel
theorem dX12_of_7 : decode cX12_of 7 = .ok (.iload_n 1, 1) := by decide +kernel
theorem dX12_of_8 : decode cX12_of 8 = .ok (.imul, 1) := by decide +kernel
theorem dX12_of_9 : decode cX12_of 9 = .ok (.iadd, 1) := by decide +kernel
theorem dX12_of_10 : decode cX12_of 10 = .ok (.iload_n 2, 1) := by decide +kernel
theorem dX12_of_11 : decode cX12_of 11 = .ok (.iadd, 1) := by decide +kernel
theorem dX12_of_12 : decode cX12_of 12 = .ok (.iaload, 1) := by decide +kernel
theorem dX12_of_13 : decode cX12_of 13 = .ok (.ireturn, 1) := by decide +kernel
theorem dX12_nextPlace_0 : decode cX12_nextPlace 0 = .ok (.iload_n 1, 1) := by decide +kernel
theorem dX12_nextPlace_1 : decode cX12_nextPlace 1 = .ok (.iconst 1, 1) := by decide +kernel
theorem dX12_nextPlace_2 : decode cX12_nextPlace 2 = .ok (.iadd, 1) := by decide +kernel
theorem dX12_nextPlace_3 : decode cX12_nextPlace 3 = .ok (.aload_n 0, 1) := by decide +kernel
theorem dX12_nextPlace_4 : decode cX12_nextPlace 4 = .ok (.getfield 283, 3) := by decide +kernel
theorem dX12_nextPlace_7 : decode cX12_nextPlace 7 = .ok (.irem, 1) := by decide +kernel
theorem dX12_nextPlace_8 : decode cX12_nextPlace 8 = .ok (.ireturn, 1) := by decide +kernel
theorem dX12_touch_0 : decode cX12_touch 0 = .ok (.iload_n 1, 1) := by decide +kernel
theorem dX12_touch_1 : decode cX12_touch 1 = .ok (.iload_n 2, 1) := by decide +kernel
theorem dX12_touch_2 : decode cX12_touch 2 = .ok (.if_icmp .eq 21, 3) := by decide +kernel
theorem dX12_touch_5 : decode cX12_touch 5 = .ok (.aload_n 0, 1) := by decide +kernel
theorem dX12_touch_6 : decode cX12_touch 6 = .ok (.iload_n 1, 1) := by decide +kernel
theorem dX12_touch_7 : decode cX12_touch 7 = .ok (.invokevirtual 308, 3) := by decide +kernel
theorem dX12_touch_10 : decode cX12_touch 10 = .ok (.iload_n 2, 1) := by decide +kernel
theorem dX12_touch_11 : decode cX12_touch 11 = .ok (.if_icmp .eq 12, 3) := by decide +kernel
theorem dX12_touch_14 : decode cX12_touch 14 = .ok (.aload_n 0, 1) := by decide +kernel
theorem dX12_touch_15 : decode cX12_touch 15 = .ok (.iload_n 2, 1) := by decide +kernel
theorem dX12_touch_16 : decode cX12_touch 16 = .ok (.invokevirtual 308, 3) := by decide +kernel
theorem dX12_touch_19 : decode cX12_touch 19 = .ok (.iload_n 1, 1) := by decide +kernel
theorem dX12_touch_20 : decode cX12_touch 20 = .ok (.if_icmp .ne 7, 3) := by decide +kernel
theorem dX12_touch_23 : decode cX12_touch 23 = .ok (.iconst 1, 1) := by decide +kernel
theorem dX12_touch_24 : decode cX12_touch 24 = .ok (.goto 4, 3) := by decide +kernel
theorem dX12_touch_27 : decode cX12_touch 27 = .ok (.iconst 0, 1) := by decide +kernel
theorem dX12_touch_28 : decode cX12_touch 28 = .ok (.ireturn, 1) := by decide +kernel
theorem dX12_lastAt_0 : decode cX12_lastAt 0 = .ok (.aload_n 0, 1) := by decide +kernel
theorem dX12_lastAt_1 : decode cX12_lastAt 1 = .ok (.getfield 58, 3) := by decide +kernel
theorem dX12_lastAt_4 : decode cX12_lastAt 4 = .ok (.bipush 14, 2) := by decide +kernel
theorem dX12_lastAt_6 : decode cX12_lastAt 6 = .ok (.iaload, 1) := by decide +kernel
theorem dX12_lastAt_7 : decode cX12_lastAt 7 = .ok (.iconst 1, 1) := by decide +kernel
theorem dX12_lastAt_8 : decode cX12_lastAt 8 = .ok (.isub, 1) := by decide +kernel
theorem dX12_lastAt_9 : decode cX12_lastAt 9 = .ok (.istore_n 2, 1) := by decide +kernel
theorem dX12_lastAt_10 : decode cX12_lastAt 10 = .ok (.iload_n 2, 1) := by decide +kernel
theorem dX12_lastAt_11 : decode cX12_lastAt 11 = .ok (.ifCond .lt 27, 3) := by decide +kernel
theorem dX12_lastAt_14 : decode cX12_lastAt 14 = .ok (.aload_n 0, 1) := by decide +kernel
theorem dX12_lastAt_15 : decode cX12_lastAt 15 = .ok (.aload_n 0, 1) := by decide +kernel
theorem dX12_lastAt_16 : decode cX12_lastAt 16 = .ok (.iload_n 2, 1) := by decide +kernel
theorem dX12_lastAt_17 : decode cX12_lastAt 17 = .ok (.iconst 0, 1) := by decide +kernel
theorem dX12_lastAt_18 : decode cX12_lastAt 18 = .ok (.invokevirtual 311, 3) := by decide +kernel
theorem dX12_lastAt_21 : decode cX12_lastAt 21 = .ok (.iconst 2, 1) := by decide +kernel
theorem dX12_lastAt_22 : decode cX12_lastAt 22 = .ok (.idiv, 1) := by decide +kernel
theorem dX12_lastAt_23 : decode cX12_lastAt 23 = .ok (.iload_n 1, 1) := by decide +kernel
theorem dX12_lastAt_24 : decode cX12_lastAt 24 = .ok (.invokevirtual 314, 3) := by decide +kernel
theorem dX12_lastAt_27 : decode cX12_lastAt 27 = .ok (.ifCond .eq 5, 3) := by decide +kernel
theorem dX12_lastAt_30 : decode cX12_lastAt 30 = .ok (.iload_n 2, 1) := by decide +kernel
theorem dX12_lastAt_31 : decode cX12_lastAt 31 = .ok (.ireturn, 1) := by decide +kernel
theorem dX12_lastAt_32 : decode cX12_lastAt 32 = .ok (.iinc 2 (-1), 3) := by decide +kernel
theorem dX12_lastAt_35 : decode cX12_lastAt 35 = .ok (.goto (-25), 3) := by decide +kernel
theorem dX12_lastAt_38 : decode cX12_lastAt 38 = .ok (.iconst (-1), 1) := by decide +kernel
theorem dX12_lastAt_39 : decode cX12_lastAt 39 = .ok (.ireturn, 1) := by decide +kernel
theorem dX12_undoes_0 : decode cX12_undoes 0 = .ok (.aload_n 0, 1) := by decide +kernel
theorem dX12_undoes_1 : decode cX12_undoes 1 = .ok (.iload_n 1, 1) := by decide +kernel
theorem dX12_undoes_2 : decode cX12_undoes 2 = .ok (.iconst 2, 1) := by decide +kernel
theorem dX12_undoes_3 : decode cX12_undoes 3 = .ok (.idiv, 1) := by decide +kernel
theorem dX12_undoes_4 : decode cX12_undoes 4 = .ok (.invokevirtual 317, 3) := by decide +kernel
theorem dX12_undoes_7 : decode cX12_undoes 7 = .ok (.istore_n 2, 1) := by decide +kernel
theorem dX12_undoes_8 : decode cX12_undoes 8 = .ok (.iload_n 2, 1) := by decide +kernel
theorem dX12_undoes_9 : decode cX12_undoes 9 = .ok (.iconst (-1), 1) := by decide +kernel
theorem dX12_undoes_10 : decode cX12_undoes 10 = .ok (.if_icmp .eq 19, 3) := by decide +kernel
theorem dX12_undoes_13 : decode cX12_undoes 13 = .ok (.aload_n 0, 1) := by decide +kernel
theorem dX12_undoes_14 : decode cX12_undoes 14 = .ok (.iload_n 2, 1) := by decide +kernel
theorem dX12_undoes_15 : decode cX12_undoes 15 = .ok (.iconst 0, 1) := by decide +kernel
theorem dX12_undoes_16 : decode cX12_undoes 16 = .ok (.invokevirtual 311, 3) := by decide +kernel
theorem dX12_undoes_19 : decode cX12_undoes 19 = .ok (.iload_n 1, 1) := by decide +kernel
theorem dX12_undoes_20 : decode cX12_undoes 20 = .ok (.iconst 1, 1) := by decide +kernel
theorem dX12_undoes_21 : decode cX12_undoes 21 = .ok (.ixor, 1) := by decide +kernel
theorem dX12_undoes_22 : decode cX12_undoes 22 = .ok (.if_icmp .ne 7, 3) := by decide +kernel
theorem dX12_undoes_25 : decode cX12_undoes 25 = .ok (.iload_n 2, 1) := by decide +kernel
theorem dX12_undoes_26 : decode cX12_undoes 26 = .ok (.goto 4, 3) := by decide +kernel
theorem dX12_undoes_29 : decode cX12_undoes 29 = .ok (.iconst (-1), 1) := by decide +kernel
theorem dX12_undoes_30 : decode cX12_undoes 30 = .ok (.ireturn, 1) := by decide +kernel
theorem dX12_layerAt_0 : decode cX12_layerAt 0 = .ok (.iconst 0, 1) := by decide +kernel
theorem dX12_layerAt_1 : decode cX12_layerAt 1 = .ok (.istore_n 2, 1) := by decide +kernel
theorem dX12_layerAt_2 : decode cX12_layerAt 2 = .ok (.iconst 0, 1) := by decide +kernel
theorem dX12_layerAt_3 : decode cX12_layerAt 3 = .ok (.istore_n 3, 1) := by decide +kernel
theorem dX12_layerAt_4 : decode cX12_layerAt 4 = .ok (.iload_n 3, 1) := by decide +kernel
theorem dX12_layerAt_5 : decode cX12_layerAt 5 = .ok (.aload_n 0, 1) := by decide +kernel
theorem dX12_layerAt_6 : decode cX12_layerAt 6 = .ok (.getfield 58, 3) := by decide +kernel
theorem dX12_layerAt_9 : decode cX12_layerAt 9 = .ok (.bipush 14, 2) := by decide +kernel
theorem dX12_layerAt_11 : decode cX12_layerAt 11 = .ok (.iaload, 1) := by decide +kernel
theorem dX12_layerAt_12 : decode cX12_layerAt 12 = .ok (.if_icmp .ge 40, 3) := by decide +kernel
theorem dX12_layerAt_15 : decode cX12_layerAt 15 = .ok (.aload_n 0, 1) := by decide +kernel
theorem dX12_layerAt_16 : decode cX12_layerAt 16 = .ok (.aload_n 0, 1) := by decide +kernel
theorem dX12_layerAt_17 : decode cX12_layerAt 17 = .ok (.iload_n 3, 1) := by decide +kernel
theorem dX12_layerAt_18 : decode cX12_layerAt 18 = .ok (.iconst 0, 1) := by decide +kernel
theorem dX12_layerAt_19 : decode cX12_layerAt 19 = .ok (.invokevirtual 311, 3) := by decide +kernel
theorem dX12_layerAt_22 : decode cX12_layerAt 22 = .ok (.iconst 2, 1) := by decide +kernel
theorem dX12_layerAt_23 : decode cX12_layerAt 23 = .ok (.idiv, 1) := by decide +kernel
theorem dX12_layerAt_24 : decode cX12_layerAt 24 = .ok (.iload_n 1, 1) := by decide +kernel
theorem dX12_layerAt_25 : decode cX12_layerAt 25 = .ok (.invokevirtual 314, 3) := by decide +kernel
theorem dX12_layerAt_28 : decode cX12_layerAt 28 = .ok (.ifCond .eq 16, 3) := by decide +kernel
theorem dX12_layerAt_31 : decode cX12_layerAt 31 = .ok (.iload_n 2, 1) := by decide +kernel
theorem dX12_layerAt_32 : decode cX12_layerAt 32 = .ok (.aload_n 0, 1) := by decide +kernel
theorem dX12_layerAt_33 : decode cX12_layerAt 33 = .ok (.iload_n 3, 1) := by decide +kernel
theorem dX12_layerAt_34 : decode cX12_layerAt 34 = .ok (.iconst 4, 1) := by decide +kernel
theorem dX12_layerAt_35 : decode cX12_layerAt 35 = .ok (.invokevirtual 311, 3) := by decide +kernel
theorem dX12_layerAt_38 : decode cX12_layerAt 38 = .ok (.invokestatic 320, 3) := by decide +kernel
theorem dX12_layerAt_41 : decode cX12_layerAt 41 = .ok (.goto 4, 3) := by decide +kernel
theorem dX12_layerAt_44 : decode cX12_layerAt 44 = .ok (.iload_n 2, 1) := by decide +kernel
theorem dX12_layerAt_45 : decode cX12_layerAt 45 = .ok (.istore_n 2, 1) := by decide +kernel
theorem dX12_layerAt_46 : decode cX12_layerAt 46 = .ok (.iinc 3 1, 3) := by decide +kernel
theorem dX12_layerAt_49 : decode cX12_layerAt 49 = .ok (.goto (-45), 3) := by decide +kernel
theorem dX12_layerAt_52 : decode cX12_layerAt 52 = .ok (.iload_n 2, 1) := by decide +kernel
theorem dX12_layerAt_53 : decode cX12_layerAt 53 = .ok (.iconst 1, 1) := by decide +kernel
theorem dX12_layerAt_54 : decode cX12_layerAt 54 = .ok (.iadd, 1) := by decide +kernel
theorem dX12_layerAt_55 : decode cX12_layerAt 55 = .ok (.ireturn, 1) := by decide +kernel
theorem dX12_overBy_0 : decode cX12_overBy 0 = .ok (.aload_n 0, 1) := by decide +kernel
theorem dX12_overBy_1 : decode cX12_overBy 1 = .ok (.getfield 58, 3) := by decide +kernel
theorem dX12_overBy_4 : decode cX12_overBy 4 = .ok (.iconst 0, 1) := by decide +kernel
theorem dX12_overBy_5 : decode cX12_overBy 5 = .ok (.iload_n 1, 1) := by decide +kernel
theorem dX12_overBy_6 : decode cX12_overBy 6 = .ok (.iconst 2, 1) := by decide +kernel
theorem dX12_overBy_7 : decode cX12_overBy 7 = .ok (.irem, 1) := by decide +kernel
theorem dX12_overBy_8 : decode cX12_overBy 8 = .ok (.ifCond .ne 9, 3) := by decide +kernel
theorem dX12_overBy_11 : decode cX12_overBy 11 = .ok (.iload_n 1, 1) := by decide +kernel
theorem dX12_overBy_12 : decode cX12_overBy 12 = .ok (.iconst 2, 1) := by decide +kernel
theorem dX12_overBy_13 : decode cX12_overBy 13 = .ok (.idiv, 1) := by decide +kernel
theorem dX12_overBy_14 : decode cX12_overBy 14 = .ok (.goto 10, 3) := by decide +kernel
theorem dX12_overBy_17 : decode cX12_overBy 17 = .ok (.aload_n 0, 1) := by decide +kernel
theorem dX12_overBy_18 : decode cX12_overBy 18 = .ok (.iload_n 1, 1) := by decide +kernel
theorem dX12_overBy_19 : decode cX12_overBy 19 = .ok (.iconst 2, 1) := by decide +kernel
theorem dX12_overBy_20 : decode cX12_overBy 20 = .ok (.idiv, 1) := by decide +kernel
theorem dX12_overBy_21 : decode cX12_overBy 21 = .ok (.invokevirtual 308, 3) := by decide +kernel
theorem dX12_overBy_24 : decode cX12_overBy 24 = .ok (.iadd, 1) := by decide +kernel
theorem dX12_overBy_25 : decode cX12_overBy 25 = .ok (.iaload, 1) := by decide +kernel
theorem dX12_overBy_26 : decode cX12_overBy 26 = .ok (.ireturn, 1) := by decide +kernel
theorem dX12_underBy_0 : decode cX12_underBy 0 = .ok (.aload_n 0, 1) := by decide +kernel
theorem dX12_underBy_1 : decode cX12_underBy 1 = .ok (.iload_n 1, 1) := by decide +kernel
theorem dX12_underBy_2 : decode cX12_underBy 2 = .ok (.iconst 1, 1) := by decide +kernel
theorem dX12_underBy_3 : decode cX12_underBy 3 = .ok (.ixor, 1) := by decide +kernel
theorem dX12_underBy_4 : decode cX12_underBy 4 = .ok (.invokevirtual 322, 3) := by decide +kernel
theorem dX12_underBy_7 : decode cX12_underBy 7 = .ok (.ireturn, 1) := by decide +kernel
theorem dX12_takesBy_0 : decode cX12_takesBy 0 = .ok (.aload_n 0, 1) := by decide +kernel
theorem dX12_takesBy_1 : decode cX12_takesBy 1 = .ok (.getfield 46, 3) := by decide +kernel
theorem dX12_takesBy_4 : decode cX12_takesBy 4 = .ok (.iconst 0, 1) := by decide +kernel
theorem dX12_takesBy_5 : decode cX12_takesBy 5 = .ok (.iaload, 1) := by decide +kernel
theorem dX12_takesBy_6 : decode cX12_takesBy 6 = .ok (.istore_n 2, 1) := by decide +kernel
theorem dX12_takesBy_7 : decode cX12_takesBy 7 = .ok (.aload_n 0, 1) := by decide +kernel
theorem dX12_takesBy_8 : decode cX12_takesBy 8 = .ok (.getfield 64, 3) := by decide +kernel
theorem dX12_takesBy_11 : decode cX12_takesBy 11 = .ok (.iconst (-1), 1) := by decide +kernel
theorem dX12_takesBy_12 : decode cX12_takesBy 12 = .ok (.if_icmp .eq 99, 3) := by decide +kernel
theorem dX12_takesBy_15 : decode cX12_takesBy 15 = .ok (.aload_n 0, 1) := by decide +kernel
theorem dX12_takesBy_16 : decode cX12_takesBy 16 = .ok (.getfield 34, 3) := by decide +kernel
theorem dX12_takesBy_19 : decode cX12_takesBy 19 = .ok (.iconst 0, 1) := by decide +kernel
theorem dX12_takesBy_20 : decode cX12_takesBy 20 = .ok (.aload_n 0, 1) := by decide +kernel
theorem dX12_takesBy_21 : decode cX12_takesBy 21 = .ok (.getfield 46, 3) := by decide +kernel
theorem dX12_takesBy_24 : decode cX12_takesBy 24 = .ok (.iconst 0, 1) := by decide +kernel
theorem dX12_takesBy_25 : decode cX12_takesBy 25 = .ok (.iaload, 1) := by decide +kernel
theorem dX12_takesBy_26 : decode cX12_takesBy 26 = .ok (.iastore, 1) := by decide +kernel
theorem dX12_takesBy_27 : decode cX12_takesBy 27 = .ok (.aload_n 0, 1) := by decide +kernel
theorem dX12_takesBy_28 : decode cX12_takesBy 28 = .ok (.getfield 34, 3) := by decide +kernel
theorem dX12_takesBy_31 : decode cX12_takesBy 31 = .ok (.iconst 1, 1) := by decide +kernel
theorem dX12_takesBy_32 : decode cX12_takesBy 32 = .ok (.aload_n 0, 1) := by decide +kernel
theorem dX12_takesBy_33 : decode cX12_takesBy 33 = .ok (.aload_n 0, 1) := by decide +kernel
theorem dX12_takesBy_34 : decode cX12_takesBy 34 = .ok (.iload_n 1, 1) := by decide +kernel
theorem dX12_takesBy_35 : decode cX12_takesBy 35 = .ok (.invokevirtual 322, 3) := by decide +kernel
theorem dX12_takesBy_38 : decode cX12_takesBy 38 = .ok (.iconst 2, 1) := by decide +kernel
theorem dX12_takesBy_39 : decode cX12_takesBy 39 = .ok (.invokevirtual 286, 3) := by decide +kernel
theorem dX12_takesBy_42 : decode cX12_takesBy 42 = .ok (.iastore, 1) := by decide +kernel
theorem dX12_takesBy_43 : decode cX12_takesBy 43 = .ok (.aload_n 0, 1) := by decide +kernel
theorem dX12_takesBy_44 : decode cX12_takesBy 44 = .ok (.getfield 34, 3) := by decide +kernel
theorem dX12_takesBy_47 : decode cX12_takesBy 47 = .ok (.iconst 2, 1) := by decide +kernel
theorem dX12_takesBy_48 : decode cX12_takesBy 48 = .ok (.aload_n 0, 1) := by decide +kernel
theorem dX12_takesBy_49 : decode cX12_takesBy 49 = .ok (.aload_n 0, 1) := by decide +kernel
theorem dX12_takesBy_50 : decode cX12_takesBy 50 = .ok (.iload_n 1, 1) := by decide +kernel
theorem dX12_takesBy_51 : decode cX12_takesBy 51 = .ok (.invokevirtual 325, 3) := by decide +kernel
theorem dX12_takesBy_54 : decode cX12_takesBy 54 = .ok (.iconst 2, 1) := by decide +kernel
theorem dX12_takesBy_55 : decode cX12_takesBy 55 = .ok (.invokevirtual 286, 3) := by decide +kernel
theorem dX12_takesBy_58 : decode cX12_takesBy 58 = .ok (.iastore, 1) := by decide +kernel
theorem dX12_takesBy_59 : decode cX12_takesBy 59 = .ok (.aload_n 0, 1) := by decide +kernel
theorem dX12_takesBy_60 : decode cX12_takesBy 60 = .ok (.getfield 34, 3) := by decide +kernel
theorem dX12_takesBy_63 : decode cX12_takesBy 63 = .ok (.iconst 3, 1) := by decide +kernel
theorem dX12_takesBy_64 : decode cX12_takesBy 64 = .ok (.aload_n 0, 1) := by decide +kernel
theorem dX12_takesBy_65 : decode cX12_takesBy 65 = .ok (.getfield 58, 3) := by decide +kernel
theorem dX12_takesBy_68 : decode cX12_takesBy 68 = .ok (.bipush 14, 2) := by decide +kernel
theorem dX12_takesBy_70 : decode cX12_takesBy 70 = .ok (.iaload, 1) := by decide +kernel
theorem dX12_takesBy_71 : decode cX12_takesBy 71 = .ok (.iastore, 1) := by decide +kernel
theorem dX12_takesBy_72 : decode cX12_takesBy 72 = .ok (.aload_n 0, 1) := by decide +kernel
theorem dX12_takesBy_73 : decode cX12_takesBy 73 = .ok (.getfield 34, 3) := by decide +kernel
theorem dX12_takesBy_76 : decode cX12_takesBy 76 = .ok (.iconst 4, 1) := by decide +kernel
theorem dX12_takesBy_77 : decode cX12_takesBy 77 = .ok (.aload_n 0, 1) := by decide +kernel
theorem dX12_takesBy_78 : decode cX12_takesBy 78 = .ok (.iload_n 1, 1) := by decide +kernel
theorem dX12_takesBy_79 : decode cX12_takesBy 79 = .ok (.iconst 2, 1) := by decide +kernel
theorem dX12_takesBy_80 : decode cX12_takesBy 80 = .ok (.idiv, 1) := by decide +kernel
theorem dX12_takesBy_81 : decode cX12_takesBy 81 = .ok (.invokevirtual 328, 3) := by decide +kernel
theorem dX12_takesBy_84 : decode cX12_takesBy 84 = .ok (.iastore, 1) := by decide +kernel
theorem dX12_takesBy_85 : decode cX12_takesBy 85 = .ok (.aload_n 0, 1) := by decide +kernel
theorem dX12_takesBy_86 : decode cX12_takesBy 86 = .ok (.getfield 34, 3) := by decide +kernel
theorem dX12_takesBy_89 : decode cX12_takesBy 89 = .ok (.iconst 5, 1) := by decide +kernel
theorem dX12_takesBy_90 : decode cX12_takesBy 90 = .ok (.aload_n 0, 1) := by decide +kernel
theorem dX12_takesBy_91 : decode cX12_takesBy 91 = .ok (.getfield 58, 3) := by decide +kernel
theorem dX12_takesBy_94 : decode cX12_takesBy 94 = .ok (.sipush 216, 3) := by decide +kernel
theorem dX12_takesBy_97 : decode cX12_takesBy 97 = .ok (.iaload, 1) := by decide +kernel
theorem dX12_takesBy_98 : decode cX12_takesBy 98 = .ok (.bipush 100, 2) := by decide +kernel
theorem dX12_takesBy_100 : decode cX12_takesBy 100 = .ok (.irem, 1) := by decide +kernel
theorem dX12_takesBy_101 : decode cX12_takesBy 101 = .ok (.iastore, 1) := by decide +kernel
theorem dX12_takesBy_102 : decode cX12_takesBy 102 = .ok (.aload_n 0, 1) := by decide +kernel
theorem dX12_takesBy_103 : decode cX12_takesBy 103 = .ok (.aload_n 0, 1) := by decide +kernel
theorem dX12_takesBy_104 : decode cX12_takesBy 104 = .ok (.getfield 64, 3) := by decide +kernel
theorem dX12_takesBy_107 : decode cX12_takesBy 107 = .ok (.invokevirtual 331, 3) := by decide +kernel
theorem dX12_takesBy_110 : decode cX12_takesBy 110 = .ok (.istore_n 2, 1) := by decide +kernel
theorem dX12_takesBy_111 : decode cX12_takesBy 111 = .ok (.iconst 1, 1) := by decide +kernel
theorem dX12_takesBy_112 : decode cX12_takesBy 112 = .ok (.bipush 9, 2) := by decide +kernel
theorem dX12_takesBy_114 : decode cX12_takesBy 114 = .ok (.iload_n 2, 1) := by decide +kernel
theorem dX12_takesBy_115 : decode cX12_takesBy 115 = .ok (.invokestatic 260, 3) := by decide +kernel
theorem dX12_takesBy_118 : decode cX12_takesBy 118 = .ok (.invokestatic 320, 3) := by decide +kernel
theorem dX12_takesBy_121 : decode cX12_takesBy 121 = .ok (.ireturn, 1) := by decide +kernel
theorem dX12_takenOf_0 : decode cX12_takenOf 0 = .ok (.iconst 0, 1) := by decide +kernel
theorem dX12_takenOf_1 : decode cX12_takenOf 1 = .ok (.istore_n 2, 1) := by decide +kernel
theorem dX12_takenOf_2 : decode cX12_takenOf 2 = .ok (.iconst 0, 1) := by decide +kernel
theorem dX12_takenOf_3 : decode cX12_takenOf 3 = .ok (.istore_n 3, 1) := by decide +kernel
theorem dX12_takenOf_4 : decode cX12_takenOf 4 = .ok (.iload_n 3, 1) := by decide +kernel
theorem dX12_takenOf_5 : decode cX12_takenOf 5 = .ok (.aload_n 0, 1) := by decide +kernel
theorem dX12_takenOf_6 : decode cX12_takenOf 6 = .ok (.getfield 58, 3) := by decide +kernel
theorem dX12_takenOf_9 : decode cX12_takenOf 9 = .ok (.bipush 14, 2) := by decide +kernel
theorem dX12_takenOf_11 : decode cX12_takenOf 11 = .ok (.iaload, 1) := by decide +kernel
theorem dX12_takenOf_12 : decode cX12_takenOf 12 = .ok (.if_icmp .ge 42, 3) := by decide +kernel
theorem dX12_takenOf_15 : decode cX12_takenOf 15 = .ok (.iload_n 2, 1) := by decide +kernel
theorem dX12_takenOf_16 : decode cX12_takenOf 16 = .ok (.aload_n 0, 1) := by decide +kernel
theorem dX12_takenOf_17 : decode cX12_takenOf 17 = .ok (.iload_n 3, 1) := by decide +kernel
theorem dX12_takenOf_18 : decode cX12_takenOf 18 = .ok (.iconst 1, 1) := by decide +kernel
theorem dX12_takenOf_19 : decode cX12_takenOf 19 = .ok (.invokevirtual 311, 3) := by decide +kernel
theorem dX12_takenOf_22 : decode cX12_takenOf 22 = .ok (.iload_n 1, 1) := by decide +kernel
theorem dX12_takenOf_23 : decode cX12_takenOf 23 = .ok (.if_icmp .eq 13, 3) := by decide +kernel
theorem dX12_takenOf_26 : decode cX12_takenOf 26 = .ok (.aload_n 0, 1) := by decide +kernel
theorem dX12_takenOf_27 : decode cX12_takenOf 27 = .ok (.iload_n 3, 1) := by decide +kernel
theorem dX12_takenOf_28 : decode cX12_takenOf 28 = .ok (.iconst 2, 1) := by decide +kernel
theorem dX12_takenOf_29 : decode cX12_takenOf 29 = .ok (.invokevirtual 311, 3) := by decide +kernel
theorem dX12_takenOf_32 : decode cX12_takenOf 32 = .ok (.iload_n 1, 1) := by decide +kernel
theorem dX12_takenOf_33 : decode cX12_takenOf 33 = .ok (.if_icmp .ne 12, 3) := by decide +kernel
theorem dX12_takenOf_36 : decode cX12_takenOf 36 = .ok (.aload_n 0, 1) := by decide +kernel
theorem dX12_takenOf_37 : decode cX12_takenOf 37 = .ok (.iload_n 3, 1) := by decide +kernel
theorem dX12_takenOf_38 : decode cX12_takenOf 38 = .ok (.iconst 3, 1) := by decide +kernel
theorem dX12_takenOf_39 : decode cX12_takenOf 39 = .ok (.invokevirtual 311, 3) := by decide +kernel
theorem dX12_takenOf_42 : decode cX12_takenOf 42 = .ok (.goto 4, 3) := by decide +kernel
theorem dX12_takenOf_45 : decode cX12_takenOf 45 = .ok (.iconst 0, 1) := by decide +kernel
theorem dX12_takenOf_46 : decode cX12_takenOf 46 = .ok (.iadd, 1) := by decide +kernel
theorem dX12_takenOf_47 : decode cX12_takenOf 47 = .ok (.istore_n 2, 1) := by decide +kernel
theorem dX12_takenOf_48 : decode cX12_takenOf 48 = .ok (.iinc 3 1, 3) := by decide +kernel
theorem dX12_takenOf_51 : decode cX12_takenOf 51 = .ok (.goto (-47), 3) := by decide +kernel
theorem dX12_takenOf_54 : decode cX12_takenOf 54 = .ok (.iload_n 2, 1) := by decide +kernel
theorem dX12_takenOf_55 : decode cX12_takenOf 55 = .ok (.ireturn, 1) := by decide +kernel
theorem dX12_leftOf_0 : decode cX12_leftOf 0 = .ok (.aload_n 0, 1) := by decide +kernel
theorem dX12_leftOf_1 : decode cX12_leftOf 1 = .ok (.getfield 58, 3) := by decide +kernel
theorem dX12_leftOf_4 : decode cX12_leftOf 4 = .ok (.bipush 7, 2) := by decide +kernel
theorem dX12_leftOf_6 : decode cX12_leftOf 6 = .ok (.iload_n 1, 1) := by decide +kernel
theorem dX12_leftOf_7 : decode cX12_leftOf 7 = .ok (.iadd, 1) := by decide +kernel
theorem dX12_leftOf_8 : decode cX12_leftOf 8 = .ok (.iaload, 1) := by decide +kernel
theorem dX12_leftOf_9 : decode cX12_leftOf 9 = .ok (.aload_n 0, 1) := by decide +kernel
theorem dX12_leftOf_10 : decode cX12_leftOf 10 = .ok (.iload_n 1, 1) := by decide +kernel
theorem dX12_leftOf_11 : decode cX12_leftOf 11 = .ok (.invokevirtual 334, 3) := by decide +kernel
theorem dX12_leftOf_14 : decode cX12_leftOf 14 = .ok (.isub, 1) := by decide +kernel
theorem dX12_leftOf_15 : decode cX12_leftOf 15 = .ok (.ireturn, 1) := by decide +kernel
theorem dX12_crossingsOf_0 : decode cX12_crossingsOf 0 = .ok (.iconst 0, 1) := by decide +kernel
theorem dX12_crossingsOf_1 : decode cX12_crossingsOf 1 = .ok (.istore_n 2, 1) := by decide +kernel
theorem dX12_crossingsOf_2 : decode cX12_crossingsOf 2 = .ok (.iconst 0, 1) := by decide +kernel
theorem dX12_crossingsOf_3 : decode cX12_crossingsOf 3 = .ok (.istore_n 3, 1) := by decide +kernel
theorem dX12_crossingsOf_4 : decode cX12_crossingsOf 4 = .ok (.iload_n 3, 1) := by decide +kernel
theorem dX12_crossingsOf_5 : decode cX12_crossingsOf 5 = .ok (.aload_n 0, 1) := by decide +kernel
theorem dX12_crossingsOf_6 : decode cX12_crossingsOf 6 = .ok (.getfield 58, 3) := by decide +kernel
theorem dX12_crossingsOf_9 : decode cX12_crossingsOf 9 = .ok (.bipush 14, 2) := by decide +kernel
theorem dX12_crossingsOf_11 : decode cX12_crossingsOf 11 = .ok (.iaload, 1) := by decide +kernel
theorem dX12_crossingsOf_12 : decode cX12_crossingsOf 12 = .ok (.if_icmp .ge 37, 3) := by decide +kernel
theorem dX12_crossingsOf_15 : decode cX12_crossingsOf 15 = .ok (.iload_n 2, 1) := by decide +kernel
theorem dX12_crossingsOf_16 : decode cX12_crossingsOf 16 = .ok (.aload_n 0, 1) := by decide +kernel
theorem dX12_crossingsOf_17 : decode cX12_crossingsOf 17 = .ok (.iload_n 3, 1) := by decide +kernel
theorem dX12_crossingsOf_18 : decode cX12_crossingsOf 18 = .ok (.iconst 1, 1) := by decide +kernel
theorem dX12_crossingsOf_19 : decode cX12_crossingsOf 19 = .ok (.invokevirtual 311, 3) := by decide +kernel
theorem dX12_crossingsOf_22 : decode cX12_crossingsOf 22 = .ok (.iload_n 1, 1) := by decide +kernel
theorem dX12_crossingsOf_23 : decode cX12_crossingsOf 23 = .ok (.if_icmp .eq 13, 3) := by decide +kernel
theorem dX12_crossingsOf_26 : decode cX12_crossingsOf 26 = .ok (.aload_n 0, 1) := by decide +kernel
theorem dX12_crossingsOf_27 : decode cX12_crossingsOf 27 = .ok (.iload_n 3, 1) := by decide +kernel
theorem dX12_crossingsOf_28 : decode cX12_crossingsOf 28 = .ok (.iconst 2, 1) := by decide +kernel
theorem dX12_crossingsOf_29 : decode cX12_crossingsOf 29 = .ok (.invokevirtual 311, 3) := by decide +kernel
theorem dX12_crossingsOf_32 : decode cX12_crossingsOf 32 = .ok (.iload_n 1, 1) := by decide +kernel
theorem dX12_crossingsOf_33 : decode cX12_crossingsOf 33 = .ok (.if_icmp .ne 7, 3) := by decide +kernel
theorem dX12_crossingsOf_36 : decode cX12_crossingsOf 36 = .ok (.iconst 1, 1) := by decide +kernel
theorem dX12_crossingsOf_37 : decode cX12_crossingsOf 37 = .ok (.goto 4, 3) := by decide +kernel
theorem dX12_crossingsOf_40 : decode cX12_crossingsOf 40 = .ok (.iconst 0, 1) := by decide +kernel
theorem dX12_crossingsOf_41 : decode cX12_crossingsOf 41 = .ok (.iadd, 1) := by decide +kernel
theorem dX12_crossingsOf_42 : decode cX12_crossingsOf 42 = .ok (.istore_n 2, 1) := by decide +kernel
theorem dX12_crossingsOf_43 : decode cX12_crossingsOf 43 = .ok (.iinc 3 1, 3) := by decide +kernel
theorem dX12_crossingsOf_46 : decode cX12_crossingsOf 46 = .ok (.goto (-42), 3) := by decide +kernel
theorem dX12_crossingsOf_49 : decode cX12_crossingsOf 49 = .ok (.iload_n 2, 1) := by decide +kernel
theorem dX12_crossingsOf_50 : decode cX12_crossingsOf 50 = .ok (.ireturn, 1) := by decide +kernel
theorem dX12_isShort_0 : decode cX12_isShort 0 = .ok (.aload_n 0, 1) := by decide +kernel
theorem dX12_isShort_1 : decode cX12_isShort 1 = .ok (.iload_n 1, 1) := by decide +kernel
theorem dX12_isShort_2 : decode cX12_isShort 2 = .ok (.invokevirtual 337, 3) := by decide +kernel
theorem dX12_isShort_5 : decode cX12_isShort 5 = .ok (.istore_n 2, 1) := by decide +kernel
theorem dX12_isShort_6 : decode cX12_isShort 6 = .ok (.aload_n 0, 1) := by decide +kernel
theorem dX12_isShort_7 : decode cX12_isShort 7 = .ok (.iload_n 1, 1) := by decide +kernel
theorem dX12_isShort_8 : decode cX12_isShort 8 = .ok (.invokevirtual 340, 3) := by decide +kernel
theorem dX12_isShort_11 : decode cX12_isShort 11 = .ok (.iconst (-1), 1) := by decide +kernel
theorem dX12_isShort_12 : decode cX12_isShort 12 = .ok (.if_icmp .ne 33, 3) := by decide +kernel
theorem dX12_isShort_15 : decode cX12_isShort 15 = .ok (.aload_n 0, 1) := by decide +kernel
theorem dX12_isShort_16 : decode cX12_isShort 16 = .ok (.aload_n 0, 1) := by decide +kernel
theorem dX12_isShort_17 : decode cX12_isShort 17 = .ok (.iload_n 1, 1) := by decide +kernel
theorem dX12_isShort_18 : decode cX12_isShort 18 = .ok (.invokevirtual 322, 3) := by decide +kernel
theorem dX12_isShort_21 : decode cX12_isShort 21 = .ok (.invokevirtual 343, 3) := by decide +kernel
theorem dX12_isShort_24 : decode cX12_isShort 24 = .ok (.iload_n 2, 1) := by decide +kernel
theorem dX12_isShort_25 : decode cX12_isShort 25 = .ok (.if_icmp .lt 16, 3) := by decide +kernel
theorem dX12_isShort_28 : decode cX12_isShort 28 = .ok (.aload_n 0, 1) := by decide +kernel
theorem dX12_isShort_29 : decode cX12_isShort 29 = .ok (.aload_n 0, 1) := by decide +kernel
theorem dX12_isShort_30 : decode cX12_isShort 30 = .ok (.iload_n 1, 1) := by decide +kernel
theorem dX12_isShort_31 : decode cX12_isShort 31 = .ok (.invokevirtual 325, 3) := by decide +kernel
theorem dX12_isShort_34 : decode cX12_isShort 34 = .ok (.invokevirtual 343, 3) := by decide +kernel
theorem dX12_isShort_37 : decode cX12_isShort 37 = .ok (.iload_n 2, 1) := by decide +kernel
theorem dX12_isShort_38 : decode cX12_isShort 38 = .ok (.if_icmp .ge 7, 3) := by decide +kernel
theorem dX12_isShort_41 : decode cX12_isShort 41 = .ok (.iconst 1, 1) := by decide +kernel
theorem dX12_isShort_42 : decode cX12_isShort 42 = .ok (.goto 4, 3) := by decide +kernel
theorem dX12_isShort_45 : decode cX12_isShort 45 = .ok (.iconst 0, 1) := by decide +kernel
theorem dX12_isShort_46 : decode cX12_isShort 46 = .ok (.ireturn, 1) := by decide +kernel
theorem dX12_isFull_0 : decode cX12_isFull 0 = .ok (.aload_n 0, 1) := by decide +kernel
theorem dX12_isFull_1 : decode cX12_isFull 1 = .ok (.iload_n 1, 1) := by decide +kernel
theorem dX12_isFull_2 : decode cX12_isFull 2 = .ok (.invokevirtual 340, 3) := by decide +kernel
theorem dX12_isFull_5 : decode cX12_isFull 5 = .ok (.iconst (-1), 1) := by decide +kernel
theorem dX12_isFull_6 : decode cX12_isFull 6 = .ok (.if_icmp .ne 19, 3) := by decide +kernel
theorem dX12_isFull_9 : decode cX12_isFull 9 = .ok (.aload_n 0, 1) := by decide +kernel
theorem dX12_isFull_10 : decode cX12_isFull 10 = .ok (.getfield 58, 3) := by decide +kernel
theorem dX12_isFull_13 : decode cX12_isFull 13 = .ok (.bipush 14, 2) := by decide +kernel
theorem dX12_isFull_15 : decode cX12_isFull 15 = .ok (.iaload, 1) := by decide +kernel
theorem dX12_isFull_16 : decode cX12_isFull 16 = .ok (.bipush 40, 2) := by decide +kernel
theorem dX12_isFull_18 : decode cX12_isFull 18 = .ok (.if_icmp .ne 7, 3) := by decide +kernel
theorem dX12_isFull_21 : decode cX12_isFull 21 = .ok (.iconst 1, 1) := by decide +kernel
theorem dX12_isFull_22 : decode cX12_isFull 22 = .ok (.goto 4, 3) := by decide +kernel
theorem dX12_isFull_25 : decode cX12_isFull 25 = .ok (.iconst 0, 1) := by decide +kernel
theorem dX12_isFull_26 : decode cX12_isFull 26 = .ok (.ireturn, 1) := by decide +kernel
theorem dX12_canCross_0 : decode cX12_canCross 0 = .ok (.aload_n 0, 1) := by decide +kernel
theorem dX12_canCross_1 : decode cX12_canCross 1 = .ok (.iload_n 1, 1) := by decide +kernel
theorem dX12_canCross_2 : decode cX12_canCross 2 = .ok (.invokevirtual 346, 3) := by decide +kernel
theorem dX12_canCross_5 : decode cX12_canCross 5 = .ok (.ifCond .ne 15, 3) := by decide +kernel
theorem dX12_canCross_8 : decode cX12_canCross 8 = .ok (.aload_n 0, 1) := by decide +kernel
theorem dX12_canCross_9 : decode cX12_canCross 9 = .ok (.iload_n 1, 1) := by decide +kernel
theorem dX12_canCross_10 : decode cX12_canCross 10 = .ok (.invokevirtual 349, 3) := by decide +kernel
theorem dX12_canCross_13 : decode cX12_canCross 13 = .ok (.ifCond .ne 7, 3) := by decide +kernel
theorem dX12_canCross_16 : decode cX12_canCross 16 = .ok (.iconst 1, 1) := by decide +kernel
theorem dX12_canCross_17 : decode cX12_canCross 17 = .ok (.goto 4, 3) := by decide +kernel
theorem dX12_canCross_20 : decode cX12_canCross 20 = .ok (.iconst 0, 1) := by decide +kernel
theorem dX12_canCross_21 : decode cX12_canCross 21 = .ok (.ireturn, 1) := by decide +kernel
theorem dX12_swapAt_0 : decode cX12_swapAt 0 = .ok (.aload_n 0, 1) := by decide +kernel
theorem dX12_swapAt_1 : decode cX12_swapAt 1 = .ok (.getfield 58, 3) := by decide +kernel
theorem dX12_swapAt_4 : decode cX12_swapAt 4 = .ok (.iconst 0, 1) := by decide +kernel
theorem dX12_swapAt_5 : decode cX12_swapAt 5 = .ok (.iload_n 1, 1) := by decide +kernel
theorem dX12_swapAt_6 : decode cX12_swapAt 6 = .ok (.iadd, 1) := by decide +kernel
theorem dX12_swapAt_7 : decode cX12_swapAt 7 = .ok (.iaload, 1) := by decide +kernel
theorem dX12_swapAt_8 : decode cX12_swapAt 8 = .ok (.istore_n 2, 1) := by decide +kernel
theorem dX12_swapAt_9 : decode cX12_swapAt 9 = .ok (.aload_n 0, 1) := by decide +kernel
theorem dX12_swapAt_10 : decode cX12_swapAt 10 = .ok (.getfield 58, 3) := by decide +kernel
theorem dX12_swapAt_13 : decode cX12_swapAt 13 = .ok (.iconst 0, 1) := by decide +kernel
theorem dX12_swapAt_14 : decode cX12_swapAt 14 = .ok (.iload_n 1, 1) := by decide +kernel
theorem dX12_swapAt_15 : decode cX12_swapAt 15 = .ok (.iadd, 1) := by decide +kernel
theorem dX12_swapAt_16 : decode cX12_swapAt 16 = .ok (.aload_n 0, 1) := by decide +kernel
theorem dX12_swapAt_17 : decode cX12_swapAt 17 = .ok (.getfield 58, 3) := by decide +kernel
theorem dX12_swapAt_20 : decode cX12_swapAt 20 = .ok (.iconst 0, 1) := by decide +kernel
theorem dX12_swapAt_21 : decode cX12_swapAt 21 = .ok (.aload_n 0, 1) := by decide +kernel
theorem dX12_swapAt_22 : decode cX12_swapAt 22 = .ok (.iload_n 1, 1) := by decide +kernel
theorem dX12_swapAt_23 : decode cX12_swapAt 23 = .ok (.invokevirtual 308, 3) := by decide +kernel
theorem dX12_swapAt_26 : decode cX12_swapAt 26 = .ok (.iadd, 1) := by decide +kernel
theorem dX12_swapAt_27 : decode cX12_swapAt 27 = .ok (.iaload, 1) := by decide +kernel
theorem dX12_swapAt_28 : decode cX12_swapAt 28 = .ok (.iastore, 1) := by decide +kernel
theorem dX12_swapAt_29 : decode cX12_swapAt 29 = .ok (.aload_n 0, 1) := by decide +kernel
theorem dX12_swapAt_30 : decode cX12_swapAt 30 = .ok (.getfield 58, 3) := by decide +kernel
theorem dX12_swapAt_33 : decode cX12_swapAt 33 = .ok (.iconst 0, 1) := by decide +kernel
theorem dX12_swapAt_34 : decode cX12_swapAt 34 = .ok (.aload_n 0, 1) := by decide +kernel
theorem dX12_swapAt_35 : decode cX12_swapAt 35 = .ok (.iload_n 1, 1) := by decide +kernel
theorem dX12_swapAt_36 : decode cX12_swapAt 36 = .ok (.invokevirtual 308, 3) := by decide +kernel
theorem dX12_swapAt_39 : decode cX12_swapAt 39 = .ok (.iadd, 1) := by decide +kernel
theorem dX12_swapAt_40 : decode cX12_swapAt 40 = .ok (.iload_n 2, 1) := by decide +kernel
theorem dX12_swapAt_41 : decode cX12_swapAt 41 = .ok (.iastore, 1) := by decide +kernel
theorem dX12_swapAt_42 : decode cX12_swapAt 42 = .ok (.return_, 1) := by decide +kernel
theorem dX12_crossNow_0 : decode cX12_crossNow 0 = .ok (.aload_n 0, 1) := by decide +kernel
theorem dX12_crossNow_1 : decode cX12_crossNow 1 = .ok (.iload_n 1, 1) := by decide +kernel
theorem dX12_crossNow_2 : decode cX12_crossNow 2 = .ok (.invokevirtual 340, 3) := by decide +kernel
theorem dX12_crossNow_5 : decode cX12_crossNow 5 = .ok (.istore_n 2, 1) := by decide +kernel
theorem dX12_crossNow_6 : decode cX12_crossNow 6 = .ok (.iload_n 2, 1) := by decide +kernel
theorem dX12_crossNow_7 : decode cX12_crossNow 7 = .ok (.iconst (-1), 1) := by decide +kernel
theorem dX12_crossNow_8 : decode cX12_crossNow 8 = .ok (.if_icmp .ne 93, 3) := by decide +kernel
theorem dX12_crossNow_11 : decode cX12_crossNow 11 = .ok (.bipush 15, 2) := by decide +kernel
theorem dX12_crossNow_13 : decode cX12_crossNow 13 = .ok (.iconst 5, 1) := by decide +kernel
theorem dX12_crossNow_14 : decode cX12_crossNow 14 = .ok (.aload_n 0, 1) := by decide +kernel
theorem dX12_crossNow_15 : decode cX12_crossNow 15 = .ok (.getfield 58, 3) := by decide +kernel
theorem dX12_crossNow_18 : decode cX12_crossNow 18 = .ok (.bipush 14, 2) := by decide +kernel
theorem dX12_crossNow_20 : decode cX12_crossNow 20 = .ok (.iaload, 1) := by decide +kernel
theorem dX12_crossNow_21 : decode cX12_crossNow 21 = .ok (.imul, 1) := by decide +kernel
theorem dX12_crossNow_22 : decode cX12_crossNow 22 = .ok (.iadd, 1) := by decide +kernel
theorem dX12_crossNow_23 : decode cX12_crossNow 23 = .ok (.istore_n 3, 1) := by decide +kernel
theorem dX12_crossNow_24 : decode cX12_crossNow 24 = .ok (.aload_n 0, 1) := by decide +kernel
theorem dX12_crossNow_25 : decode cX12_crossNow 25 = .ok (.getfield 58, 3) := by decide +kernel
theorem dX12_crossNow_28 : decode cX12_crossNow 28 = .ok (.iload_n 3, 1) := by decide +kernel
theorem dX12_crossNow_29 : decode cX12_crossNow 29 = .ok (.iconst 0, 1) := by decide +kernel
theorem dX12_crossNow_30 : decode cX12_crossNow 30 = .ok (.iadd, 1) := by decide +kernel
theorem dX12_crossNow_31 : decode cX12_crossNow 31 = .ok (.iload_n 1, 1) := by decide +kernel
theorem dX12_crossNow_32 : decode cX12_crossNow 32 = .ok (.iastore, 1) := by decide +kernel
theorem dX12_crossNow_33 : decode cX12_crossNow 33 = .ok (.aload_n 0, 1) := by decide +kernel
theorem dX12_crossNow_34 : decode cX12_crossNow 34 = .ok (.getfield 58, 3) := by decide +kernel
theorem dX12_crossNow_37 : decode cX12_crossNow 37 = .ok (.iload_n 3, 1) := by decide +kernel
theorem dX12_crossNow_38 : decode cX12_crossNow 38 = .ok (.iconst 1, 1) := by decide +kernel
theorem dX12_crossNow_39 : decode cX12_crossNow 39 = .ok (.iadd, 1) := by decide +kernel
theorem dX12_crossNow_40 : decode cX12_crossNow 40 = .ok (.aload_n 0, 1) := by decide +kernel
theorem dX12_crossNow_41 : decode cX12_crossNow 41 = .ok (.iload_n 1, 1) := by decide +kernel
theorem dX12_crossNow_42 : decode cX12_crossNow 42 = .ok (.invokevirtual 322, 3) := by decide +kernel
theorem dX12_crossNow_45 : decode cX12_crossNow 45 = .ok (.iastore, 1) := by decide +kernel
theorem dX12_crossNow_46 : decode cX12_crossNow 46 = .ok (.aload_n 0, 1) := by decide +kernel
theorem dX12_crossNow_47 : decode cX12_crossNow 47 = .ok (.getfield 58, 3) := by decide +kernel
theorem dX12_crossNow_50 : decode cX12_crossNow 50 = .ok (.iload_n 3, 1) := by decide +kernel
theorem dX12_crossNow_51 : decode cX12_crossNow 51 = .ok (.iconst 2, 1) := by decide +kernel
theorem dX12_crossNow_52 : decode cX12_crossNow 52 = .ok (.iadd, 1) := by decide +kernel
theorem dX12_crossNow_53 : decode cX12_crossNow 53 = .ok (.aload_n 0, 1) := by decide +kernel
theorem dX12_crossNow_54 : decode cX12_crossNow 54 = .ok (.iload_n 1, 1) := by decide +kernel
theorem dX12_crossNow_55 : decode cX12_crossNow 55 = .ok (.invokevirtual 325, 3) := by decide +kernel
theorem dX12_crossNow_58 : decode cX12_crossNow 58 = .ok (.iastore, 1) := by decide +kernel
theorem dX12_crossNow_59 : decode cX12_crossNow 59 = .ok (.aload_n 0, 1) := by decide +kernel
theorem dX12_crossNow_60 : decode cX12_crossNow 60 = .ok (.getfield 58, 3) := by decide +kernel
theorem dX12_crossNow_63 : decode cX12_crossNow 63 = .ok (.iload_n 3, 1) := by decide +kernel
theorem dX12_crossNow_64 : decode cX12_crossNow 64 = .ok (.iconst 3, 1) := by decide +kernel
theorem dX12_crossNow_65 : decode cX12_crossNow 65 = .ok (.iadd, 1) := by decide +kernel
theorem dX12_crossNow_66 : decode cX12_crossNow 66 = .ok (.aload_n 0, 1) := by decide +kernel
theorem dX12_crossNow_67 : decode cX12_crossNow 67 = .ok (.iload_n 1, 1) := by decide +kernel
theorem dX12_crossNow_68 : decode cX12_crossNow 68 = .ok (.invokevirtual 337, 3) := by decide +kernel
theorem dX12_crossNow_71 : decode cX12_crossNow 71 = .ok (.iastore, 1) := by decide +kernel
theorem dX12_crossNow_72 : decode cX12_crossNow 72 = .ok (.aload_n 0, 1) := by decide +kernel
theorem dX12_crossNow_73 : decode cX12_crossNow 73 = .ok (.getfield 58, 3) := by decide +kernel
theorem dX12_crossNow_76 : decode cX12_crossNow 76 = .ok (.iload_n 3, 1) := by decide +kernel
theorem dX12_crossNow_77 : decode cX12_crossNow 77 = .ok (.iconst 4, 1) := by decide +kernel
theorem dX12_crossNow_78 : decode cX12_crossNow 78 = .ok (.iadd, 1) := by decide +kernel
theorem dX12_crossNow_79 : decode cX12_crossNow 79 = .ok (.aload_n 0, 1) := by decide +kernel
theorem dX12_crossNow_80 : decode cX12_crossNow 80 = .ok (.iload_n 1, 1) := by decide +kernel
theorem dX12_crossNow_81 : decode cX12_crossNow 81 = .ok (.iconst 2, 1) := by decide +kernel
theorem dX12_crossNow_82 : decode cX12_crossNow 82 = .ok (.idiv, 1) := by decide +kernel
theorem dX12_crossNow_83 : decode cX12_crossNow 83 = .ok (.invokevirtual 328, 3) := by decide +kernel
theorem dX12_crossNow_86 : decode cX12_crossNow 86 = .ok (.iastore, 1) := by decide +kernel
theorem dX12_crossNow_87 : decode cX12_crossNow 87 = .ok (.aload_n 0, 1) := by decide +kernel
theorem dX12_crossNow_88 : decode cX12_crossNow 88 = .ok (.getfield 58, 3) := by decide +kernel
theorem dX12_crossNow_91 : decode cX12_crossNow 91 = .ok (.bipush 14, 2) := by decide +kernel
theorem dX12_crossNow_93 : decode cX12_crossNow 93 = .ok (.dup2, 1) := by decide +kernel
theorem dX12_crossNow_94 : decode cX12_crossNow 94 = .ok (.iaload, 1) := by decide +kernel
theorem dX12_crossNow_95 : decode cX12_crossNow 95 = .ok (.iconst 1, 1) := by decide +kernel
theorem dX12_crossNow_96 : decode cX12_crossNow 96 = .ok (.iadd, 1) := by decide +kernel
theorem dX12_crossNow_97 : decode cX12_crossNow 97 = .ok (.iastore, 1) := by decide +kernel
theorem dX12_crossNow_98 : decode cX12_crossNow 98 = .ok (.goto 59, 3) := by decide +kernel
theorem dX12_crossNow_101 : decode cX12_crossNow 101 = .ok (.bipush 15, 2) := by decide +kernel
theorem dX12_crossNow_103 : decode cX12_crossNow 103 = .ok (.iconst 5, 1) := by decide +kernel
theorem dX12_crossNow_104 : decode cX12_crossNow 104 = .ok (.iload_n 2, 1) := by decide +kernel
theorem dX12_crossNow_105 : decode cX12_crossNow 105 = .ok (.imul, 1) := by decide +kernel
theorem dX12_crossNow_106 : decode cX12_crossNow 106 = .ok (.iadd, 1) := by decide +kernel
theorem dX12_crossNow_107 : decode cX12_crossNow 107 = .ok (.istore_n 3, 1) := by decide +kernel
theorem dX12_crossNow_108 : decode cX12_crossNow 108 = .ok (.iload_n 3, 1) := by decide +kernel
theorem dX12_crossNow_109 : decode cX12_crossNow 109 = .ok (.bipush 15, 2) := by decide +kernel
theorem dX12_crossNow_111 : decode cX12_crossNow 111 = .ok (.iconst 5, 1) := by decide +kernel
theorem dX12_crossNow_112 : decode cX12_crossNow 112 = .ok (.aload_n 0, 1) := by decide +kernel
theorem dX12_crossNow_113 : decode cX12_crossNow 113 = .ok (.getfield 58, 3) := by decide +kernel
theorem dX12_crossNow_116 : decode cX12_crossNow 116 = .ok (.bipush 14, 2) := by decide +kernel
theorem dX12_crossNow_118 : decode cX12_crossNow 118 = .ok (.iaload, 1) := by decide +kernel
theorem dX12_crossNow_119 : decode cX12_crossNow 119 = .ok (.iconst 1, 1) := by decide +kernel
theorem dX12_crossNow_120 : decode cX12_crossNow 120 = .ok (.isub, 1) := by decide +kernel
theorem dX12_crossNow_121 : decode cX12_crossNow 121 = .ok (.imul, 1) := by decide +kernel
theorem dX12_crossNow_122 : decode cX12_crossNow 122 = .ok (.iadd, 1) := by decide +kernel
theorem dX12_crossNow_123 : decode cX12_crossNow 123 = .ok (.if_icmp .ge 23, 3) := by decide +kernel
theorem dX12_crossNow_126 : decode cX12_crossNow 126 = .ok (.aload_n 0, 1) := by decide +kernel
theorem dX12_crossNow_127 : decode cX12_crossNow 127 = .ok (.getfield 58, 3) := by decide +kernel
theorem dX12_crossNow_130 : decode cX12_crossNow 130 = .ok (.iload_n 3, 1) := by decide +kernel
theorem dX12_crossNow_131 : decode cX12_crossNow 131 = .ok (.aload_n 0, 1) := by decide +kernel
theorem dX12_crossNow_132 : decode cX12_crossNow 132 = .ok (.getfield 58, 3) := by decide +kernel
theorem dX12_crossNow_135 : decode cX12_crossNow 135 = .ok (.iload_n 3, 1) := by decide +kernel
theorem dX12_crossNow_136 : decode cX12_crossNow 136 = .ok (.iconst 5, 1) := by decide +kernel
theorem dX12_crossNow_137 : decode cX12_crossNow 137 = .ok (.iadd, 1) := by decide +kernel
theorem dX12_crossNow_138 : decode cX12_crossNow 138 = .ok (.iaload, 1) := by decide +kernel
theorem dX12_crossNow_139 : decode cX12_crossNow 139 = .ok (.iastore, 1) := by decide +kernel
theorem dX12_crossNow_140 : decode cX12_crossNow 140 = .ok (.iinc 3 1, 3) := by decide +kernel
theorem dX12_crossNow_143 : decode cX12_crossNow 143 = .ok (.goto (-35), 3) := by decide +kernel
theorem dX12_crossNow_146 : decode cX12_crossNow 146 = .ok (.aload_n 0, 1) := by decide +kernel
theorem dX12_crossNow_147 : decode cX12_crossNow 147 = .ok (.getfield 58, 3) := by decide +kernel
theorem dX12_crossNow_150 : decode cX12_crossNow 150 = .ok (.bipush 14, 2) := by decide +kernel
theorem dX12_crossNow_152 : decode cX12_crossNow 152 = .ok (.dup2, 1) := by decide +kernel
theorem dX12_crossNow_153 : decode cX12_crossNow 153 = .ok (.iaload, 1) := by decide +kernel
theorem dX12_crossNow_154 : decode cX12_crossNow 154 = .ok (.iconst 1, 1) := by decide +kernel
theorem dX12_crossNow_155 : decode cX12_crossNow 155 = .ok (.isub, 1) := by decide +kernel
theorem dX12_crossNow_156 : decode cX12_crossNow 156 = .ok (.iastore, 1) := by decide +kernel
theorem dX12_crossNow_157 : decode cX12_crossNow 157 = .ok (.aload_n 0, 1) := by decide +kernel
theorem dX12_crossNow_158 : decode cX12_crossNow 158 = .ok (.iload_n 1, 1) := by decide +kernel
theorem dX12_crossNow_159 : decode cX12_crossNow 159 = .ok (.iconst 2, 1) := by decide +kernel
theorem dX12_crossNow_160 : decode cX12_crossNow 160 = .ok (.idiv, 1) := by decide +kernel
theorem dX12_crossNow_161 : decode cX12_crossNow 161 = .ok (.invokevirtual 352, 3) := by decide +kernel
theorem dX12_crossNow_164 : decode cX12_crossNow 164 = .ok (.iload_n 2, 1) := by decide +kernel
theorem dX12_crossNow_165 : decode cX12_crossNow 165 = .ok (.iconst (-1), 1) := by decide +kernel
theorem dX12_crossNow_166 : decode cX12_crossNow 166 = .ok (.if_icmp .eq 7, 3) := by decide +kernel
theorem dX12_crossNow_169 : decode cX12_crossNow 169 = .ok (.iconst 1, 1) := by decide +kernel
theorem dX12_crossNow_170 : decode cX12_crossNow 170 = .ok (.goto 4, 3) := by decide +kernel
theorem dX12_crossNow_173 : decode cX12_crossNow 173 = .ok (.iconst 0, 1) := by decide +kernel
theorem dX12_crossNow_174 : decode cX12_crossNow 174 = .ok (.ireturn, 1) := by decide +kernel
theorem dX12_edges_0 : decode cX12_edges 0 = .ok (.iconst 0, 1) := by decide +kernel
theorem dX12_edges_1 : decode cX12_edges 1 = .ok (.istore_n 2, 1) := by decide +kernel
theorem dX12_edges_2 : decode cX12_edges 2 = .ok (.iconst 0, 1) := by decide +kernel
theorem dX12_edges_3 : decode cX12_edges 3 = .ok (.istore_n 3, 1) := by decide +kernel
theorem dX12_edges_4 : decode cX12_edges 4 = .ok (.iload_n 3, 1) := by decide +kernel
theorem dX12_edges_5 : decode cX12_edges 5 = .ok (.aload_n 0, 1) := by decide +kernel
theorem dX12_edges_6 : decode cX12_edges 6 = .ok (.getfield 58, 3) := by decide +kernel
theorem dX12_edges_9 : decode cX12_edges 9 = .ok (.bipush 14, 2) := by decide +kernel
theorem dX12_edges_11 : decode cX12_edges 11 = .ok (.iaload, 1) := by decide +kernel
theorem dX12_edges_12 : decode cX12_edges 12 = .ok (.if_icmp .ge 108, 3) := by decide +kernel
theorem dX12_edges_15 : decode cX12_edges 15 = .ok (.iconst 1, 1) := by decide +kernel
theorem dX12_edges_16 : decode cX12_edges 16 = .ok (.istore 4, 2) := by decide +kernel
theorem dX12_edges_18 : decode cX12_edges 18 = .ok (.iconst 0, 1) := by decide +kernel
theorem dX12_edges_19 : decode cX12_edges 19 = .ok (.istore 5, 2) := by decide +kernel
theorem dX12_edges_21 : decode cX12_edges 21 = .ok (.iload 5, 2) := by decide +kernel
theorem dX12_edges_23 : decode cX12_edges 23 = .ok (.aload_n 0, 1) := by decide +kernel
theorem dX12_edges_24 : decode cX12_edges 24 = .ok (.getfield 58, 3) := by decide +kernel
theorem dX12_edges_27 : decode cX12_edges 27 = .ok (.bipush 14, 2) := by decide +kernel
theorem dX12_edges_29 : decode cX12_edges 29 = .ok (.iaload, 1) := by decide +kernel
theorem dX12_edges_30 : decode cX12_edges 30 = .ok (.if_icmp .ge 64, 3) := by decide +kernel
theorem dX12_edges_33 : decode cX12_edges 33 = .ok (.iload 4, 2) := by decide +kernel
theorem dX12_edges_35 : decode cX12_edges 35 = .ok (.ifCond .eq 50, 3) := by decide +kernel
theorem dX12_edges_38 : decode cX12_edges 38 = .ok (.iload_n 1, 1) := by decide +kernel
theorem dX12_edges_39 : decode cX12_edges 39 = .ok (.ifCond .eq 12, 3) := by decide +kernel
theorem dX12_edges_42 : decode cX12_edges 42 = .ok (.iload 5, 2) := by decide +kernel
theorem dX12_edges_44 : decode cX12_edges 44 = .ok (.iload_n 3, 1) := by decide +kernel
theorem dX12_edges_45 : decode cX12_edges 45 = .ok (.if_icmp .gt 12, 3) := by decide +kernel
theorem dX12_edges_48 : decode cX12_edges 48 = .ok (.goto 33, 3) := by decide +kernel
theorem dX12_edges_51 : decode cX12_edges 51 = .ok (.iload 5, 2) := by decide +kernel
theorem dX12_edges_53 : decode cX12_edges 53 = .ok (.iload_n 3, 1) := by decide +kernel
theorem dX12_edges_54 : decode cX12_edges 54 = .ok (.if_icmp .ge 27, 3) := by decide +kernel
theorem dX12_edges_57 : decode cX12_edges 57 = .ok (.aload_n 0, 1) := by decide +kernel
theorem dX12_edges_58 : decode cX12_edges 58 = .ok (.aload_n 0, 1) := by decide +kernel
theorem dX12_edges_59 : decode cX12_edges 59 = .ok (.iload_n 3, 1) := by decide +kernel
theorem dX12_edges_60 : decode cX12_edges 60 = .ok (.iconst 0, 1) := by decide +kernel
theorem dX12_edges_61 : decode cX12_edges 61 = .ok (.invokevirtual 311, 3) := by decide +kernel
theorem dX12_edges_64 : decode cX12_edges 64 = .ok (.iconst 2, 1) := by decide +kernel
theorem dX12_edges_65 : decode cX12_edges 65 = .ok (.idiv, 1) := by decide +kernel
theorem dX12_edges_66 : decode cX12_edges 66 = .ok (.aload_n 0, 1) := by decide +kernel
theorem dX12_edges_67 : decode cX12_edges 67 = .ok (.iload 5, 2) := by decide +kernel
theorem dX12_edges_69 : decode cX12_edges 69 = .ok (.iconst 0, 1) := by decide +kernel
theorem dX12_edges_70 : decode cX12_edges 70 = .ok (.invokevirtual 311, 3) := by decide +kernel
theorem dX12_edges_73 : decode cX12_edges 73 = .ok (.iconst 2, 1) := by decide +kernel
theorem dX12_edges_74 : decode cX12_edges 74 = .ok (.idiv, 1) := by decide +kernel
theorem dX12_edges_75 : decode cX12_edges 75 = .ok (.invokevirtual 314, 3) := by decide +kernel
theorem dX12_edges_78 : decode cX12_edges 78 = .ok (.ifCond .ne 7, 3) := by decide +kernel
theorem dX12_edges_81 : decode cX12_edges 81 = .ok (.iconst 1, 1) := by decide +kernel
theorem dX12_edges_82 : decode cX12_edges 82 = .ok (.goto 4, 3) := by decide +kernel
theorem dX12_edges_85 : decode cX12_edges 85 = .ok (.iconst 0, 1) := by decide +kernel
theorem dX12_edges_86 : decode cX12_edges 86 = .ok (.istore 4, 2) := by decide +kernel
theorem dX12_edges_88 : decode cX12_edges 88 = .ok (.iinc 5 1, 3) := by decide +kernel
theorem dX12_edges_91 : decode cX12_edges 91 = .ok (.goto (-70), 3) := by decide +kernel
theorem dX12_edges_94 : decode cX12_edges 94 = .ok (.iload_n 2, 1) := by decide +kernel
theorem dX12_edges_95 : decode cX12_edges 95 = .ok (.iload 4, 2) := by decide +kernel
theorem dX12_edges_97 : decode cX12_edges 97 = .ok (.ifCond .eq 14, 3) := by decide +kernel
theorem dX12_edges_100 : decode cX12_edges 100 = .ok (.iconst 1, 1) := by decide +kernel
theorem dX12_edges_101 : decode cX12_edges 101 = .ok (.aload_n 0, 1) := by decide +kernel
theorem dX12_edges_102 : decode cX12_edges 102 = .ok (.iload_n 3, 1) := by decide +kernel
theorem dX12_edges_103 : decode cX12_edges 103 = .ok (.iconst 0, 1) := by decide +kernel
theorem dX12_edges_104 : decode cX12_edges 104 = .ok (.invokevirtual 311, 3) := by decide +kernel
theorem dX12_edges_107 : decode cX12_edges 107 = .ok (.ishl, 1) := by decide +kernel
theorem dX12_edges_108 : decode cX12_edges 108 = .ok (.goto 4, 3) := by decide +kernel
theorem dX12_edges_111 : decode cX12_edges 111 = .ok (.iconst 0, 1) := by decide +kernel
theorem dX12_edges_112 : decode cX12_edges 112 = .ok (.ior, 1) := by decide +kernel
theorem dX12_edges_113 : decode cX12_edges 113 = .ok (.istore_n 2, 1) := by decide +kernel
theorem dX12_edges_114 : decode cX12_edges 114 = .ok (.iinc 3 1, 3) := by decide +kernel
theorem dX12_edges_117 : decode cX12_edges 117 = .ok (.goto (-113), 3) := by decide +kernel
theorem dX12_edges_120 : decode cX12_edges 120 = .ok (.iload_n 2, 1) := by decide +kernel
theorem dX12_edges_121 : decode cX12_edges 121 = .ok (.ireturn, 1) := by decide +kernel
theorem dX12_letterDown_0 : decode cX12_letterDown 0 = .ok (.aload_n 0, 1) := by decide +kernel
theorem dX12_letterDown_1 : decode cX12_letterDown 1 = .ok (.iconst 1, 1) := by decide +kernel
theorem dX12_letterDown_2 : decode cX12_letterDown 2 = .ok (.invokevirtual 355, 3) := by decide +kernel
theorem dX12_letterDown_5 : decode cX12_letterDown 5 = .ok (.istore_n 1, 1) := by decide +kernel
theorem dX12_letterDown_6 : decode cX12_letterDown 6 = .ok (.iload_n 1, 1) := by decide +kernel
theorem dX12_letterDown_7 : decode cX12_letterDown 7 = .ok (.ifCond .ne 7, 3) := by decide +kernel
theorem dX12_letterDown_10 : decode cX12_letterDown 10 = .ok (.iconst (-1), 1) := by decide +kernel
theorem dX12_letterDown_11 : decode cX12_letterDown 11 = .ok (.goto 12, 3) := by decide +kernel
theorem dX12_letterDown_14 : decode cX12_letterDown 14 = .ok (.bipush 31, 2) := by decide +kernel
theorem dX12_letterDown_16 : decode cX12_letterDown 16 = .ok (.iload_n 1, 1) := by decide +kernel
theorem dX12_letterDown_17 : decode cX12_letterDown 17 = .ok (.invokestatic 359, 3) := by decide +kernel
theorem dX12_letterDown_20 : decode cX12_letterDown 20 = .ok (.isub, 1) := by decide +kernel
theorem dX12_letterDown_21 : decode cX12_letterDown 21 = .ok (.iconst 1, 1) := by decide +kernel
theorem dX12_letterDown_22 : decode cX12_letterDown 22 = .ok (.ixor, 1) := by decide +kernel
theorem dX12_letterDown_23 : decode cX12_letterDown 23 = .ok (.ireturn, 1) := by decide +kernel
theorem dX12_isOver_0 : decode cX12_isOver 0 = .ok (.aload_n 0, 1) := by decide +kernel
theorem dX12_isOver_1 : decode cX12_isOver 1 = .ok (.getfield 58, 3) := by decide +kernel
theorem dX12_isOver_4 : decode cX12_isOver 4 = .ok (.sipush 216, 3) := by decide +kernel
theorem dX12_isOver_7 : decode cX12_isOver 7 = .ok (.iaload, 1) := by decide +kernel
theorem dX12_isOver_8 : decode cX12_isOver 8 = .ok (.sipush 999, 3) := by decide +kernel
theorem dX12_isOver_11 : decode cX12_isOver 11 = .ok (.if_icmp .lt 7, 3) := by decide +kernel
theorem dX12_isOver_14 : decode cX12_isOver 14 = .ok (.iconst 1, 1) := by decide +kernel
theorem dX12_isOver_15 : decode cX12_isOver 15 = .ok (.goto 4, 3) := by decide +kernel
theorem dX12_isOver_18 : decode cX12_isOver 18 = .ok (.iconst 0, 1) := by decide +kernel
theorem dX12_isOver_19 : decode cX12_isOver 19 = .ok (.ireturn, 1) := by decide +kernel
theorem dX12_live_0 : decode cX12_live 0 = .ok (.iload_n 1, 1) := by decide +kernel
theorem dX12_live_1 : decode cX12_live 1 = .ok (.bipush 20, 2) := by decide +kernel
theorem dX12_live_3 : decode cX12_live 3 = .ok (.if_icmp .eq 15, 3) := by decide +kernel
theorem dX12_live_6 : decode cX12_live 6 = .ok (.aload_n 0, 1) := by decide +kernel
theorem dX12_live_7 : decode cX12_live 7 = .ok (.iload_n 1, 1) := by decide +kernel
theorem dX12_live_8 : decode cX12_live 8 = .ok (.invokevirtual 364, 3) := by decide +kernel
theorem dX12_live_11 : decode cX12_live 11 = .ok (.ifCond .eq 7, 3) := by decide +kernel
theorem dX12_live_14 : decode cX12_live 14 = .ok (.iconst 1, 1) := by decide +kernel
theorem dX12_live_15 : decode cX12_live 15 = .ok (.goto 4, 3) := by decide +kernel
theorem dX12_live_18 : decode cX12_live 18 = .ok (.iconst 0, 1) := by decide +kernel
theorem dX12_live_19 : decode cX12_live 19 = .ok (.istore_n 2, 1) := by decide +kernel
theorem dX12_live_20 : decode cX12_live 20 = .ok (.aload_n 0, 1) := by decide +kernel
theorem dX12_live_21 : decode cX12_live 21 = .ok (.getfield 58, 3) := by decide +kernel
theorem dX12_live_24 : decode cX12_live 24 = .ok (.sipush 215, 3) := by decide +kernel
theorem dX12_live_27 : decode cX12_live 27 = .ok (.sipush 999, 3) := by decide +kernel
theorem dX12_live_30 : decode cX12_live 30 = .ok (.aload_n 0, 1) := by decide +kernel
theorem dX12_live_31 : decode cX12_live 31 = .ok (.getfield 58, 3) := by decide +kernel
theorem dX12_live_34 : decode cX12_live 34 = .ok (.sipush 215, 3) := by decide +kernel
theorem dX12_live_37 : decode cX12_live 37 = .ok (.iaload, 1) := by decide +kernel
theorem dX12_live_38 : decode cX12_live 38 = .ok (.iload_n 2, 1) := by decide +kernel
theorem dX12_live_39 : decode cX12_live 39 = .ok (.ifCond .eq 7, 3) := by decide +kernel
theorem dX12_live_42 : decode cX12_live 42 = .ok (.iconst 1, 1) := by decide +kernel
theorem dX12_live_43 : decode cX12_live 43 = .ok (.goto 4, 3) := by decide +kernel
theorem dX12_live_46 : decode cX12_live 46 = .ok (.iconst 0, 1) := by decide +kernel
theorem dX12_live_47 : decode cX12_live 47 = .ok (.iadd, 1) := by decide +kernel
theorem dX12_live_48 : decode cX12_live 48 = .ok (.invokestatic 260, 3) := by decide +kernel
theorem dX12_live_51 : decode cX12_live 51 = .ok (.iastore, 1) := by decide +kernel
theorem dX12_live_52 : decode cX12_live 52 = .ok (.aload_n 0, 1) := by decide +kernel
theorem dX12_live_53 : decode cX12_live 53 = .ok (.getfield 58, 3) := by decide +kernel
theorem dX12_live_56 : decode cX12_live 56 = .ok (.sipush 216, 3) := by decide +kernel
theorem dX12_live_59 : decode cX12_live 59 = .ok (.dup2, 1) := by decide +kernel
theorem dX12_live_60 : decode cX12_live 60 = .ok (.iaload, 1) := by decide +kernel
theorem dX12_live_61 : decode cX12_live 61 = .ok (.iconst 1, 1) := by decide +kernel
theorem dX12_live_62 : decode cX12_live 62 = .ok (.iadd, 1) := by decide +kernel
theorem dX12_live_63 : decode cX12_live 63 = .ok (.iastore, 1) := by decide +kernel
theorem dX12_live_64 : decode cX12_live 64 = .ok (.iload_n 2, 1) := by decide +kernel
theorem dX12_live_65 : decode cX12_live 65 = .ok (.ifCond .eq 7, 3) := by decide +kernel
theorem dX12_live_68 : decode cX12_live 68 = .ok (.iconst 1, 1) := by decide +kernel
theorem dX12_live_69 : decode cX12_live 69 = .ok (.goto 4, 3) := by decide +kernel
theorem dX12_live_72 : decode cX12_live 72 = .ok (.iconst 0, 1) := by decide +kernel
theorem dX12_live_73 : decode cX12_live 73 = .ok (.ireturn, 1) := by decide +kernel
theorem dX12_passBeat_0 : decode cX12_passBeat 0 = .ok (.aload_n 0, 1) := by decide +kernel
theorem dX12_passBeat_1 : decode cX12_passBeat 1 = .ok (.iload_n 1, 1) := by decide +kernel
theorem dX12_passBeat_2 : decode cX12_passBeat 2 = .ok (.invokevirtual 367, 3) := by decide +kernel
theorem dX12_passBeat_5 : decode cX12_passBeat 5 = .ok (.istore_n 2, 1) := by decide +kernel
theorem dX12_passBeat_6 : decode cX12_passBeat 6 = .ok (.aload_n 0, 1) := by decide +kernel
theorem dX12_passBeat_7 : decode cX12_passBeat 7 = .ok (.getfield 58, 3) := by decide +kernel
theorem dX12_passBeat_10 : decode cX12_passBeat 10 = .ok (.sipush 217, 3) := by decide +kernel
theorem dX12_passBeat_13 : decode cX12_passBeat 13 = .ok (.iaload, 1) := by decide +kernel
theorem dX12_passBeat_14 : decode cX12_passBeat 14 = .ok (.bipush 60, 2) := by decide +kernel
theorem dX12_passBeat_16 : decode cX12_passBeat 16 = .ok (.if_icmp .ne 52, 3) := by decide +kernel
theorem dX12_passBeat_19 : decode cX12_passBeat 19 = .ok (.iconst 3, 1) := by decide +kernel
theorem dX12_passBeat_20 : decode cX12_passBeat 20 = .ok (.istore_n 3, 1) := by decide +kernel
theorem dX12_passBeat_21 : decode cX12_passBeat 21 = .ok (.iload_n 3, 1) := by decide +kernel
theorem dX12_passBeat_22 : decode cX12_passBeat 22 = .ok (.sipush 180, 3) := by decide +kernel
theorem dX12_passBeat_25 : decode cX12_passBeat 25 = .ok (.if_icmp .ge 31, 3) := by decide +kernel
theorem dX12_passBeat_28 : decode cX12_passBeat 28 = .ok (.aload_n 0, 1) := by decide +kernel
theorem dX12_passBeat_29 : decode cX12_passBeat 29 = .ok (.getfield 58, 3) := by decide +kernel
theorem dX12_passBeat_32 : decode cX12_passBeat 32 = .ok (.sipush 218, 3) := by decide +kernel
theorem dX12_passBeat_35 : decode cX12_passBeat 35 = .ok (.iload_n 3, 1) := by decide +kernel
theorem dX12_passBeat_36 : decode cX12_passBeat 36 = .ok (.iadd, 1) := by decide +kernel
theorem dX12_passBeat_37 : decode cX12_passBeat 37 = .ok (.iconst 3, 1) := by decide +kernel
theorem dX12_passBeat_38 : decode cX12_passBeat 38 = .ok (.isub, 1) := by decide +kernel
theorem dX12_passBeat_39 : decode cX12_passBeat 39 = .ok (.aload_n 0, 1) := by decide +kernel
theorem dX12_passBeat_40 : decode cX12_passBeat 40 = .ok (.getfield 58, 3) := by decide +kernel
theorem dX12_passBeat_43 : decode cX12_passBeat 43 = .ok (.sipush 218, 3) := by decide +kernel
theorem dX12_passBeat_46 : decode cX12_passBeat 46 = .ok (.iload_n 3, 1) := by decide +kernel
theorem dX12_passBeat_47 : decode cX12_passBeat 47 = .ok (.iadd, 1) := by decide +kernel
theorem dX12_passBeat_48 : decode cX12_passBeat 48 = .ok (.iaload, 1) := by decide +kernel
theorem dX12_passBeat_49 : decode cX12_passBeat 49 = .ok (.iastore, 1) := by decide +kernel
theorem dX12_passBeat_50 : decode cX12_passBeat 50 = .ok (.iinc 3 1, 3) := by decide +kernel
theorem dX12_passBeat_53 : decode cX12_passBeat 53 = .ok (.goto (-32), 3) := by decide +kernel
theorem dX12_passBeat_56 : decode cX12_passBeat 56 = .ok (.aload_n 0, 1) := by decide +kernel
theorem dX12_passBeat_57 : decode cX12_passBeat 57 = .ok (.getfield 58, 3) := by decide +kernel
theorem dX12_passBeat_60 : decode cX12_passBeat 60 = .ok (.sipush 217, 3) := by decide +kernel
theorem dX12_passBeat_63 : decode cX12_passBeat 63 = .ok (.dup2, 1) := by decide +kernel
theorem dX12_passBeat_64 : decode cX12_passBeat 64 = .ok (.iaload, 1) := by decide +kernel
theorem dX12_passBeat_65 : decode cX12_passBeat 65 = .ok (.iconst 1, 1) := by decide +kernel
theorem dX12_passBeat_66 : decode cX12_passBeat 66 = .ok (.isub, 1) := by decide +kernel
theorem dX12_passBeat_67 : decode cX12_passBeat 67 = .ok (.iastore, 1) := by decide +kernel
theorem dX12_passBeat_68 : decode cX12_passBeat 68 = .ok (.sipush 218, 3) := by decide +kernel
theorem dX12_passBeat_71 : decode cX12_passBeat 71 = .ok (.iconst 3, 1) := by decide +kernel
theorem dX12_passBeat_72 : decode cX12_passBeat 72 = .ok (.aload_n 0, 1) := by decide +kernel
theorem dX12_passBeat_73 : decode cX12_passBeat 73 = .ok (.getfield 58, 3) := by decide +kernel
theorem dX12_passBeat_76 : decode cX12_passBeat 76 = .ok (.sipush 217, 3) := by decide +kernel
theorem dX12_passBeat_79 : decode cX12_passBeat 79 = .ok (.iaload, 1) := by decide +kernel
theorem dX12_passBeat_80 : decode cX12_passBeat 80 = .ok (.imul, 1) := by decide +kernel
theorem dX12_passBeat_81 : decode cX12_passBeat 81 = .ok (.iadd, 1) := by decide +kernel
theorem dX12_passBeat_82 : decode cX12_passBeat 82 = .ok (.istore_n 3, 1) := by decide +kernel
theorem dX12_passBeat_83 : decode cX12_passBeat 83 = .ok (.aload_n 0, 1) := by decide +kernel
theorem dX12_passBeat_84 : decode cX12_passBeat 84 = .ok (.getfield 58, 3) := by decide +kernel
theorem dX12_passBeat_87 : decode cX12_passBeat 87 = .ok (.iload_n 3, 1) := by decide +kernel
theorem dX12_passBeat_88 : decode cX12_passBeat 88 = .ok (.iload_n 1, 1) := by decide +kernel
theorem dX12_passBeat_89 : decode cX12_passBeat 89 = .ok (.iastore, 1) := by decide +kernel
theorem dX12_passBeat_90 : decode cX12_passBeat 90 = .ok (.aload_n 0, 1) := by decide +kernel
theorem dX12_passBeat_91 : decode cX12_passBeat 91 = .ok (.getfield 58, 3) := by decide +kernel
theorem dX12_passBeat_94 : decode cX12_passBeat 94 = .ok (.iload_n 3, 1) := by decide +kernel
theorem dX12_passBeat_95 : decode cX12_passBeat 95 = .ok (.iconst 1, 1) := by decide +kernel
theorem dX12_passBeat_96 : decode cX12_passBeat 96 = .ok (.iadd, 1) := by decide +kernel
theorem dX12_passBeat_97 : decode cX12_passBeat 97 = .ok (.iload_n 2, 1) := by decide +kernel
theorem dX12_passBeat_98 : decode cX12_passBeat 98 = .ok (.iastore, 1) := by decide +kernel
theorem dX12_passBeat_99 : decode cX12_passBeat 99 = .ok (.aload_n 0, 1) := by decide +kernel
theorem dX12_passBeat_100 : decode cX12_passBeat 100 = .ok (.getfield 58, 3) := by decide +kernel
theorem dX12_passBeat_103 : decode cX12_passBeat 103 = .ok (.iload_n 3, 1) := by decide +kernel
theorem dX12_passBeat_104 : decode cX12_passBeat 104 = .ok (.iconst 2, 1) := by decide +kernel
theorem dX12_passBeat_105 : decode cX12_passBeat 105 = .ok (.iadd, 1) := by decide +kernel
theorem dX12_passBeat_106 : decode cX12_passBeat 106 = .ok (.aload_n 0, 1) := by decide +kernel
theorem dX12_passBeat_107 : decode cX12_passBeat 107 = .ok (.getfield 58, 3) := by decide +kernel
theorem dX12_passBeat_110 : decode cX12_passBeat 110 = .ok (.bipush 14, 2) := by decide +kernel
theorem dX12_passBeat_112 : decode cX12_passBeat 112 = .ok (.iaload, 1) := by decide +kernel
theorem dX12_passBeat_113 : decode cX12_passBeat 113 = .ok (.iastore, 1) := by decide +kernel
theorem dX12_passBeat_114 : decode cX12_passBeat 114 = .ok (.aload_n 0, 1) := by decide +kernel
theorem dX12_passBeat_115 : decode cX12_passBeat 115 = .ok (.getfield 58, 3) := by decide +kernel
theorem dX12_passBeat_118 : decode cX12_passBeat 118 = .ok (.sipush 217, 3) := by decide +kernel
theorem dX12_passBeat_121 : decode cX12_passBeat 121 = .ok (.dup2, 1) := by decide +kernel
theorem dX12_passBeat_122 : decode cX12_passBeat 122 = .ok (.iaload, 1) := by decide +kernel
theorem dX12_passBeat_123 : decode cX12_passBeat 123 = .ok (.iconst 1, 1) := by decide +kernel
theorem dX12_passBeat_124 : decode cX12_passBeat 124 = .ok (.iadd, 1) := by decide +kernel
theorem dX12_passBeat_125 : decode cX12_passBeat 125 = .ok (.iastore, 1) := by decide +kernel
theorem dX12_passBeat_126 : decode cX12_passBeat 126 = .ok (.iload_n 2, 1) := by decide +kernel
theorem dX12_passBeat_127 : decode cX12_passBeat 127 = .ok (.ireturn, 1) := by decide +kernel
theorem dX12_stepOf_0 : decode cX12_stepOf 0 = .ok (.aload_n 0, 1) := by decide +kernel
theorem dX12_stepOf_1 : decode cX12_stepOf 1 = .ok (.getfield 52, 3) := by decide +kernel
theorem dX12_stepOf_4 : decode cX12_stepOf 4 = .ok (.bipush 48, 2) := by decide +kernel
theorem dX12_stepOf_6 : decode cX12_stepOf 6 = .ok (.iload_n 1, 1) := by decide +kernel
theorem dX12_stepOf_7 : decode cX12_stepOf 7 = .ok (.imul, 1) := by decide +kernel
theorem dX12_stepOf_8 : decode cX12_stepOf 8 = .ok (.iload_n 2, 1) := by decide +kernel
theorem dX12_stepOf_9 : decode cX12_stepOf 9 = .ok (.iadd, 1) := by decide +kernel
theorem dX12_stepOf_10 : decode cX12_stepOf 10 = .ok (.iaload, 1) := by decide +kernel
theorem dX12_stepOf_11 : decode cX12_stepOf 11 = .ok (.istore_n 3, 1) := by decide +kernel
theorem dX12_stepOf_12 : decode cX12_stepOf 12 = .ok (.iload_n 3, 1) := by decide +kernel
theorem dX12_stepOf_13 : decode cX12_stepOf 13 = .ok (.iconst 2, 1) := by decide +kernel
theorem dX12_stepOf_14 : decode cX12_stepOf 14 = .ok (.idiv, 1) := by decide +kernel
theorem dX12_stepOf_15 : decode cX12_stepOf 15 = .ok (.aload_n 0, 1) := by decide +kernel
theorem dX12_stepOf_16 : decode cX12_stepOf 16 = .ok (.getfield 283, 3) := by decide +kernel
theorem dX12_stepOf_19 : decode cX12_stepOf 19 = .ok (.if_icmp .ge 7, 3) := by decide +kernel
theorem dX12_stepOf_22 : decode cX12_stepOf 22 = .ok (.iload_n 3, 1) := by decide +kernel
theorem dX12_stepOf_23 : decode cX12_stepOf 23 = .ok (.goto 5, 3) := by decide +kernel
theorem dX12_stepOf_26 : decode cX12_stepOf 26 = .ok (.bipush 20, 2) := by decide +kernel
theorem dX12_stepOf_28 : decode cX12_stepOf 28 = .ok (.ireturn, 1) := by decide +kernel
theorem dX12_canStep_0 : decode cX12_canStep 0 = .ok (.iload_n 1, 1) := by decide +kernel
theorem dX12_canStep_1 : decode cX12_canStep 1 = .ok (.bipush 20, 2) := by decide +kernel
theorem dX12_canStep_3 : decode cX12_canStep 3 = .ok (.if_icmp .eq 11, 3) := by decide +kernel
theorem dX12_canStep_6 : decode cX12_canStep 6 = .ok (.aload_n 0, 1) := by decide +kernel
theorem dX12_canStep_7 : decode cX12_canStep 7 = .ok (.iload_n 1, 1) := by decide +kernel
theorem dX12_canStep_8 : decode cX12_canStep 8 = .ok (.invokevirtual 370, 3) := by decide +kernel
theorem dX12_canStep_11 : decode cX12_canStep 11 = .ok (.ifCond .eq 7, 3) := by decide +kernel
theorem dX12_canStep_14 : decode cX12_canStep 14 = .ok (.iconst 1, 1) := by decide +kernel
theorem dX12_canStep_15 : decode cX12_canStep 15 = .ok (.goto 4, 3) := by decide +kernel
theorem dX12_canStep_18 : decode cX12_canStep 18 = .ok (.iconst 0, 1) := by decide +kernel
theorem dX12_canStep_19 : decode cX12_canStep 19 = .ok (.ireturn, 1) := by decide +kernel
theorem dX12_rule_0 : decode cX12_rule 0 = .ok (.aload_n 0, 1) := by decide +kernel
theorem dX12_rule_1 : decode cX12_rule 1 = .ok (.getfield 283, 3) := by decide +kernel
theorem dX12_rule_4 : decode cX12_rule 4 = .ok (.ifCond .eq 12, 3) := by decide +kernel
theorem dX12_rule_7 : decode cX12_rule 7 = .ok (.iload_n 1, 1) := by decide +kernel
theorem dX12_rule_8 : decode cX12_rule 8 = .ok (.iconst 0, 1) := by decide +kernel
theorem dX12_rule_9 : decode cX12_rule 9 = .ok (.iconst 2, 1) := by decide +kernel
theorem dX12_rule_10 : decode cX12_rule 10 = .ok (.invokestatic 229, 3) := by decide +kernel
theorem dX12_rule_13 : decode cX12_rule 13 = .ok (.ifCond .ne 7, 3) := by decide +kernel
theorem dX12_rule_16 : decode cX12_rule 16 = .ok (.iconst (-1), 1) := by decide +kernel
theorem dX12_rule_17 : decode cX12_rule 17 = .ok (.goto 25, 3) := by decide +kernel
theorem dX12_rule_20 : decode cX12_rule 20 = .ok (.iload_n 1, 1) := by decide +kernel
theorem dX12_rule_21 : decode cX12_rule 21 = .ok (.iconst 1, 1) := by decide +kernel
theorem dX12_rule_22 : decode cX12_rule 22 = .ok (.if_icmp .ne 14, 3) := by decide +kernel
theorem dX12_rule_25 : decode cX12_rule 25 = .ok (.aload_n 0, 1) := by decide +kernel
theorem dX12_rule_26 : decode cX12_rule 26 = .ok (.getfield 58, 3) := by decide +kernel
theorem dX12_rule_29 : decode cX12_rule 29 = .ok (.sipush 215, 3) := by decide +kernel
theorem dX12_rule_32 : decode cX12_rule 32 = .ok (.iaload, 1) := by decide +kernel
theorem dX12_rule_33 : decode cX12_rule 33 = .ok (.goto 9, 3) := by decide +kernel
theorem dX12_rule_36 : decode cX12_rule 36 = .ok (.aload_n 0, 1) := by decide +kernel
theorem dX12_rule_37 : decode cX12_rule 37 = .ok (.getfield 46, 3) := by decide +kernel
theorem dX12_rule_40 : decode cX12_rule 40 = .ok (.iload_n 1, 1) := by decide +kernel
theorem dX12_rule_41 : decode cX12_rule 41 = .ok (.iaload, 1) := by decide +kernel
theorem dX12_rule_42 : decode cX12_rule 42 = .ok (.ireturn, 1) := by decide +kernel
theorem dX12_placeOf_0 : decode cX12_placeOf 0 = .ok (.iconst 0, 1) := by decide +kernel
theorem dX12_placeOf_1 : decode cX12_placeOf 1 = .ok (.istore_n 2, 1) := by decide +kernel
theorem dX12_placeOf_2 : decode cX12_placeOf 2 = .ok (.iload_n 2, 1) := by decide +kernel
theorem dX12_placeOf_3 : decode cX12_placeOf 3 = .ok (.aload_n 0, 1) := by decide +kernel
theorem dX12_placeOf_4 : decode cX12_placeOf 4 = .ok (.getfield 283, 3) := by decide +kernel
theorem dX12_placeOf_7 : decode cX12_placeOf 7 = .ok (.if_icmp .ge 23, 3) := by decide +kernel
theorem dX12_placeOf_10 : decode cX12_placeOf 10 = .ok (.aload_n 0, 1) := by decide +kernel
theorem dX12_placeOf_11 : decode cX12_placeOf 11 = .ok (.getfield 58, 3) := by decide +kernel
theorem dX12_placeOf_14 : decode cX12_placeOf 14 = .ok (.iconst 0, 1) := by decide +kernel
theorem dX12_placeOf_15 : decode cX12_placeOf 15 = .ok (.iload_n 2, 1) := by decide +kernel
theorem dX12_placeOf_16 : decode cX12_placeOf 16 = .ok (.iadd, 1) := by decide +kernel
theorem dX12_placeOf_17 : decode cX12_placeOf 17 = .ok (.iaload, 1) := by decide +kernel
theorem dX12_placeOf_18 : decode cX12_placeOf 18 = .ok (.iload_n 1, 1) := by decide +kernel
theorem dX12_placeOf_19 : decode cX12_placeOf 19 = .ok (.if_icmp .ne 5, 3) := by decide +kernel
theorem dX12_placeOf_22 : decode cX12_placeOf 22 = .ok (.iload_n 2, 1) := by decide +kernel
theorem dX12_placeOf_23 : decode cX12_placeOf 23 = .ok (.ireturn, 1) := by decide +kernel
theorem dX12_placeOf_24 : decode cX12_placeOf 24 = .ok (.iinc 2 1, 3) := by decide +kernel
theorem dX12_placeOf_27 : decode cX12_placeOf 27 = .ok (.goto (-25), 3) := by decide +kernel
theorem dX12_placeOf_30 : decode cX12_placeOf 30 = .ok (.iconst (-1), 1) := by decide +kernel
theorem dX12_placeOf_31 : decode cX12_placeOf 31 = .ok (.ireturn, 1) := by decide +kernel
theorem dX12_dancer_0 : decode cX12_dancer 0 = .ok (.aload_n 0, 1) := by decide +kernel
theorem dX12_dancer_1 : decode cX12_dancer 1 = .ok (.aload_n 0, 1) := by decide +kernel
theorem dX12_dancer_2 : decode cX12_dancer 2 = .ok (.iload_n 1, 1) := by decide +kernel
theorem dX12_dancer_3 : decode cX12_dancer 3 = .ok (.invokevirtual 373, 3) := by decide +kernel
theorem dX12_dancer_6 : decode cX12_dancer 6 = .ok (.ifCond .eq 16, 3) := by decide +kernel
theorem dX12_dancer_9 : decode cX12_dancer 9 = .ok (.iload_n 2, 1) := by decide +kernel
theorem dX12_dancer_10 : decode cX12_dancer 10 = .ok (.iconst 0, 1) := by decide +kernel
theorem dX12_dancer_11 : decode cX12_dancer 11 = .ok (.iconst 5, 1) := by decide +kernel
theorem dX12_dancer_12 : decode cX12_dancer 12 = .ok (.invokestatic 229, 3) := by decide +kernel
theorem dX12_dancer_15 : decode cX12_dancer 15 = .ok (.ifCond .eq 7, 3) := by decide +kernel
theorem dX12_dancer_18 : decode cX12_dancer 18 = .ok (.iconst 0, 1) := by decide +kernel
theorem dX12_dancer_19 : decode cX12_dancer 19 = .ok (.goto 4, 3) := by decide +kernel
theorem dX12_dancer_22 : decode cX12_dancer 22 = .ok (.iconst 1, 1) := by decide +kernel
theorem dX12_dancer_23 : decode cX12_dancer 23 = .ok (.putfield 114, 3) := by decide +kernel
theorem dX12_dancer_26 : decode cX12_dancer 26 = .ok (.aload_n 0, 1) := by decide +kernel
theorem dX12_dancer_27 : decode cX12_dancer 27 = .ok (.getfield 114, 3) := by decide +kernel
theorem dX12_dancer_30 : decode cX12_dancer 30 = .ok (.iconst 1, 1) := by decide +kernel
theorem dX12_dancer_31 : decode cX12_dancer 31 = .ok (.if_icmp .ne 5, 3) := by decide +kernel
theorem dX12_dancer_34 : decode cX12_dancer 34 = .ok (.iconst 0, 1) := by decide +kernel
theorem dX12_dancer_35 : decode cX12_dancer 35 = .ok (.ireturn, 1) := by decide +kernel
theorem dX12_dancer_36 : decode cX12_dancer 36 = .ok (.iload_n 2, 1) := by decide +kernel
theorem dX12_dancer_37 : decode cX12_dancer 37 = .ok (.tableswitch 63 1 5 #[35, 63, 45, 51, 57], 35) := by decide +kernel
theorem dX12_dancer_72 : decode cX12_dancer 72 = .ok (.aload_n 0, 1) := by decide +kernel
theorem dX12_dancer_73 : decode cX12_dancer 73 = .ok (.getfield 58, 3) := by decide +kernel
theorem dX12_dancer_76 : decode cX12_dancer 76 = .ok (.bipush 7, 2) := by decide +kernel
theorem dX12_dancer_78 : decode cX12_dancer 78 = .ok (.iload_n 1, 1) := by decide +kernel
theorem dX12_dancer_79 : decode cX12_dancer 79 = .ok (.iadd, 1) := by decide +kernel
theorem dX12_dancer_80 : decode cX12_dancer 80 = .ok (.iaload, 1) := by decide +kernel
theorem dX12_dancer_81 : decode cX12_dancer 81 = .ok (.ireturn, 1) := by decide +kernel
theorem dX12_dancer_82 : decode cX12_dancer 82 = .ok (.aload_n 0, 1) := by decide +kernel
theorem dX12_dancer_83 : decode cX12_dancer 83 = .ok (.iload_n 1, 1) := by decide +kernel
theorem dX12_dancer_84 : decode cX12_dancer 84 = .ok (.invokevirtual 376, 3) := by decide +kernel
theorem dX12_dancer_87 : decode cX12_dancer 87 = .ok (.ireturn, 1) := by decide +kernel
theorem dX12_dancer_88 : decode cX12_dancer 88 = .ok (.aload_n 0, 1) := by decide +kernel
theorem dX12_dancer_89 : decode cX12_dancer 89 = .ok (.iload_n 1, 1) := by decide +kernel
theorem dX12_dancer_90 : decode cX12_dancer 90 = .ok (.invokevirtual 343, 3) := by decide +kernel
theorem dX12_dancer_93 : decode cX12_dancer 93 = .ok (.ireturn, 1) := by decide +kernel
theorem dX12_dancer_94 : decode cX12_dancer 94 = .ok (.aload_n 0, 1) := by decide +kernel
theorem dX12_dancer_95 : decode cX12_dancer 95 = .ok (.iload_n 1, 1) := by decide +kernel
theorem dX12_dancer_96 : decode cX12_dancer 96 = .ok (.invokevirtual 379, 3) := by decide +kernel
theorem dX12_dancer_99 : decode cX12_dancer 99 = .ok (.ireturn, 1) := by decide +kernel
theorem dX12_dancer_100 : decode cX12_dancer 100 = .ok (.aload_n 0, 1) := by decide +kernel
theorem dX12_dancer_101 : decode cX12_dancer 101 = .ok (.iload_n 1, 1) := by decide +kernel
theorem dX12_dancer_102 : decode cX12_dancer 102 = .ok (.iload_n 2, 1) := by decide +kernel
theorem dX12_dancer_103 : decode cX12_dancer 103 = .ok (.invokevirtual 286, 3) := by decide +kernel
theorem dX12_dancer_106 : decode cX12_dancer 106 = .ok (.ireturn, 1) := by decide +kernel
theorem dX12_stands_0 : decode cX12_stands 0 = .ok (.aload_n 0, 1) := by decide +kernel
theorem dX12_stands_1 : decode cX12_stands 1 = .ok (.iload_n 1, 1) := by decide +kernel
theorem dX12_stands_2 : decode cX12_stands 2 = .ok (.invokevirtual 373, 3) := by decide +kernel
theorem dX12_stands_5 : decode cX12_stands 5 = .ok (.ifCond .eq 14, 3) := by decide +kernel
theorem dX12_stands_8 : decode cX12_stands 8 = .ok (.aload_n 0, 1) := by decide +kernel
theorem dX12_stands_9 : decode cX12_stands 9 = .ok (.getfield 58, 3) := by decide +kernel
theorem dX12_stands_12 : decode cX12_stands 12 = .ok (.iconst 0, 1) := by decide +kernel
theorem dX12_stands_13 : decode cX12_stands 13 = .ok (.iload_n 1, 1) := by decide +kernel
theorem dX12_stands_14 : decode cX12_stands 14 = .ok (.iadd, 1) := by decide +kernel
theorem dX12_stands_15 : decode cX12_stands 15 = .ok (.iaload, 1) := by decide +kernel
theorem dX12_stands_16 : decode cX12_stands 16 = .ok (.goto 4, 3) := by decide +kernel
theorem dX12_stands_19 : decode cX12_stands 19 = .ok (.iconst (-1), 1) := by decide +kernel
theorem dX12_stands_20 : decode cX12_stands 20 = .ok (.ireturn, 1) := by decide +kernel
theorem dX12_law_0 : decode cX12_law 0 = .ok (.iload_n 1, 1) := by decide +kernel
theorem dX12_law_1 : decode cX12_law 1 = .ok (.iconst (-1), 1) := by decide +kernel
theorem dX12_law_2 : decode cX12_law 2 = .ok (.aload_n 0, 1) := by decide +kernel
theorem dX12_law_3 : decode cX12_law 3 = .ok (.getfield 302, 3) := by decide +kernel
theorem dX12_law_6 : decode cX12_law 6 = .ok (.iconst 1, 1) := by decide +kernel
theorem dX12_law_7 : decode cX12_law 7 = .ok (.isub, 1) := by decide +kernel
theorem dX12_law_8 : decode cX12_law 8 = .ok (.invokestatic 229, 3) := by decide +kernel
theorem dX12_law_11 : decode cX12_law 11 = .ok (.ifCond .ne 5, 3) := by decide +kernel
theorem dX12_law_14 : decode cX12_law 14 = .ok (.iconst 0, 1) := by decide +kernel
theorem dX12_law_15 : decode cX12_law 15 = .ok (.ireturn, 1) := by decide +kernel
theorem dX12_law_16 : decode cX12_law 16 = .ok (.aload_n 0, 1) := by decide +kernel
theorem dX12_law_17 : decode cX12_law 17 = .ok (.iload_n 1, 1) := by decide +kernel
theorem dX12_law_18 : decode cX12_law 18 = .ok (.putfield 64, 3) := by decide +kernel
theorem dX12_law_21 : decode cX12_law 21 = .ok (.iconst 1, 1) := by decide +kernel
theorem dX12_law_22 : decode cX12_law 22 = .ok (.ireturn, 1) := by decide +kernel
theorem dX12_step_0 : decode cX12_step 0 = .ok (.iload_n 1, 1) := by decide +kernel
theorem dX12_step_1 : decode cX12_step 1 = .ok (.iconst 0, 1) := by decide +kernel
theorem dX12_step_2 : decode cX12_step 2 = .ok (.aload_n 0, 1) := by decide +kernel
theorem dX12_step_3 : decode cX12_step 3 = .ok (.getfield 305, 3) := by decide +kernel
theorem dX12_step_6 : decode cX12_step 6 = .ok (.iconst 1, 1) := by decide +kernel
theorem dX12_step_7 : decode cX12_step 7 = .ok (.isub, 1) := by decide +kernel
theorem dX12_step_8 : decode cX12_step 8 = .ok (.invokestatic 229, 3) := by decide +kernel
theorem dX12_step_11 : decode cX12_step 11 = .ok (.ifCond .eq 19, 3) := by decide +kernel
theorem dX12_step_14 : decode cX12_step 14 = .ok (.iload_n 2, 1) := by decide +kernel
theorem dX12_step_15 : decode cX12_step 15 = .ok (.iconst (-1), 1) := by decide +kernel
theorem dX12_step_16 : decode cX12_step 16 = .ok (.aload_n 0, 1) := by decide +kernel
theorem dX12_step_17 : decode cX12_step 17 = .ok (.getfield 55, 3) := by decide +kernel
theorem dX12_step_20 : decode cX12_step 20 = .ok (.iload_n 1, 1) := by decide +kernel
theorem dX12_step_21 : decode cX12_step 21 = .ok (.iaload, 1) := by decide +kernel
theorem dX12_step_22 : decode cX12_step 22 = .ok (.iconst 1, 1) := by decide +kernel
theorem dX12_step_23 : decode cX12_step 23 = .ok (.isub, 1) := by decide +kernel
theorem dX12_step_24 : decode cX12_step 24 = .ok (.invokestatic 229, 3) := by decide +kernel
theorem dX12_step_27 : decode cX12_step 27 = .ok (.ifCond .ne 5, 3) := by decide +kernel
theorem dX12_step_30 : decode cX12_step 30 = .ok (.iconst (-1), 1) := by decide +kernel
theorem dX12_step_31 : decode cX12_step 31 = .ok (.ireturn, 1) := by decide +kernel
theorem dX12_step_32 : decode cX12_step 32 = .ok (.iload_n 2, 1) := by decide +kernel
theorem dX12_step_33 : decode cX12_step 33 = .ok (.iconst (-1), 1) := by decide +kernel
theorem dX12_step_34 : decode cX12_step 34 = .ok (.if_icmp .ne 12, 3) := by decide +kernel
theorem dX12_step_37 : decode cX12_step 37 = .ok (.aload_n 0, 1) := by decide +kernel
theorem dX12_step_38 : decode cX12_step 38 = .ok (.getfield 55, 3) := by decide +kernel
theorem dX12_step_41 : decode cX12_step 41 = .ok (.iload_n 1, 1) := by decide +kernel
theorem dX12_step_42 : decode cX12_step 42 = .ok (.iaload, 1) := by decide +kernel
theorem dX12_step_43 : decode cX12_step 43 = .ok (.goto 14, 3) := by decide +kernel
theorem dX12_step_46 : decode cX12_step 46 = .ok (.aload_n 0, 1) := by decide +kernel
theorem dX12_step_47 : decode cX12_step 47 = .ok (.getfield 52, 3) := by decide +kernel
theorem dX12_step_50 : decode cX12_step 50 = .ok (.bipush 48, 2) := by decide +kernel
theorem dX12_step_52 : decode cX12_step 52 = .ok (.iload_n 1, 1) := by decide +kernel
theorem dX12_step_53 : decode cX12_step 53 = .ok (.imul, 1) := by decide +kernel
theorem dX12_step_54 : decode cX12_step 54 = .ok (.iload_n 2, 1) := by decide +kernel
theorem dX12_step_55 : decode cX12_step 55 = .ok (.iadd, 1) := by decide +kernel
theorem dX12_step_56 : decode cX12_step 56 = .ok (.iaload, 1) := by decide +kernel
theorem dX12_step_57 : decode cX12_step 57 = .ok (.ireturn, 1) := by decide +kernel
theorem dX12_isFree_0 : decode cX12_isFree 0 = .ok (.aload_n 0, 1) := by decide +kernel
theorem dX12_isFree_1 : decode cX12_isFree 1 = .ok (.getfield 74, 3) := by decide +kernel
theorem dX12_isFree_4 : decode cX12_isFree 4 = .ok (.iload_n 1, 1) := by decide +kernel
theorem dX12_isFree_5 : decode cX12_isFree 5 = .ok (.baload, 1) := by decide +kernel
theorem dX12_isFree_6 : decode cX12_isFree 6 = .ok (.ifCond .eq 5, 3) := by decide +kernel
theorem dX12_isFree_9 : decode cX12_isFree 9 = .ok (.iconst 0, 1) := by decide +kernel
theorem dX12_isFree_10 : decode cX12_isFree 10 = .ok (.ireturn, 1) := by decide +kernel
theorem dX12_isFree_11 : decode cX12_isFree 11 = .ok (.iconst 0, 1) := by decide +kernel
theorem dX12_isFree_12 : decode cX12_isFree 12 = .ok (.istore_n 2, 1) := by decide +kernel
theorem dX12_isFree_13 : decode cX12_isFree 13 = .ok (.iload_n 2, 1) := by decide +kernel
theorem dX12_isFree_14 : decode cX12_isFree 14 = .ok (.iload_n 1, 1) := by decide +kernel
theorem dX12_isFree_15 : decode cX12_isFree 15 = .ok (.if_icmp .ge 43, 3) := by decide +kernel
theorem dX12_isFree_18 : decode cX12_isFree 18 = .ok (.aload_n 0, 1) := by decide +kernel
theorem dX12_isFree_19 : decode cX12_isFree 19 = .ok (.getfield 74, 3) := by decide +kernel
theorem dX12_isFree_22 : decode cX12_isFree 22 = .ok (.iload_n 2, 1) := by decide +kernel
theorem dX12_isFree_23 : decode cX12_isFree 23 = .ok (.baload, 1) := by decide +kernel
theorem dX12_isFree_24 : decode cX12_isFree 24 = .ok (.ifCond .ne 28, 3) := by decide +kernel
theorem dX12_isFree_27 : decode cX12_isFree 27 = .ok (.aload_n 0, 1) := by decide +kernel
theorem dX12_isFree_28 : decode cX12_isFree 28 = .ok (.aload_n 0, 1) := by decide +kernel
theorem dX12_isFree_29 : decode cX12_isFree 29 = .ok (.getfield 68, 3) := by decide +kernel
theorem dX12_isFree_32 : decode cX12_isFree 32 = .ok (.iload_n 2, 1) := by decide +kernel
theorem dX12_isFree_33 : decode cX12_isFree 33 = .ok (.iaload, 1) := by decide +kernel
theorem dX12_isFree_34 : decode cX12_isFree 34 = .ok (.iconst 2, 1) := by decide +kernel
theorem dX12_isFree_35 : decode cX12_isFree 35 = .ok (.idiv, 1) := by decide +kernel
theorem dX12_isFree_36 : decode cX12_isFree 36 = .ok (.aload_n 0, 1) := by decide +kernel
theorem dX12_isFree_37 : decode cX12_isFree 37 = .ok (.getfield 68, 3) := by decide +kernel
theorem dX12_isFree_40 : decode cX12_isFree 40 = .ok (.iload_n 1, 1) := by decide +kernel
theorem dX12_isFree_41 : decode cX12_isFree 41 = .ok (.iaload, 1) := by decide +kernel
theorem dX12_isFree_42 : decode cX12_isFree 42 = .ok (.iconst 2, 1) := by decide +kernel
theorem dX12_isFree_43 : decode cX12_isFree 43 = .ok (.idiv, 1) := by decide +kernel
theorem dX12_isFree_44 : decode cX12_isFree 44 = .ok (.invokevirtual 314, 3) := by decide +kernel
theorem dX12_isFree_47 : decode cX12_isFree 47 = .ok (.ifCond .eq 5, 3) := by decide +kernel
theorem dX12_isFree_50 : decode cX12_isFree 50 = .ok (.iconst 0, 1) := by decide +kernel
theorem dX12_isFree_51 : decode cX12_isFree 51 = .ok (.ireturn, 1) := by decide +kernel
theorem dX12_isFree_52 : decode cX12_isFree 52 = .ok (.iinc 2 1, 3) := by decide +kernel
theorem dX12_isFree_55 : decode cX12_isFree 55 = .ok (.goto (-42), 3) := by decide +kernel
theorem dX12_isFree_58 : decode cX12_isFree 58 = .ok (.iconst 1, 1) := by decide +kernel
theorem dX12_isFree_59 : decode cX12_isFree 59 = .ok (.ireturn, 1) := by decide +kernel
theorem dX12_layOrder_0 : decode cX12_layOrder 0 = .ok (.iconst 0, 1) := by decide +kernel
theorem dX12_layOrder_1 : decode cX12_layOrder 1 = .ok (.istore_n 1, 1) := by decide +kernel
theorem dX12_layOrder_2 : decode cX12_layOrder 2 = .ok (.iload_n 1, 1) := by decide +kernel
theorem dX12_layOrder_3 : decode cX12_layOrder 3 = .ok (.aload_n 0, 1) := by decide +kernel
theorem dX12_layOrder_4 : decode cX12_layOrder 4 = .ok (.getfield 382, 3) := by decide +kernel
theorem dX12_layOrder_7 : decode cX12_layOrder 7 = .ok (.if_icmp .ge 16, 3) := by decide +kernel
theorem dX12_layOrder_10 : decode cX12_layOrder 10 = .ok (.aload_n 0, 1) := by decide +kernel
theorem dX12_layOrder_11 : decode cX12_layOrder 11 = .ok (.getfield 74, 3) := by decide +kernel
theorem dX12_layOrder_14 : decode cX12_layOrder 14 = .ok (.iload_n 1, 1) := by decide +kernel
theorem dX12_layOrder_15 : decode cX12_layOrder 15 = .ok (.iconst 0, 1) := by decide +kernel
theorem dX12_layOrder_16 : decode cX12_layOrder 16 = .ok (.bastore, 1) := by decide +kernel
theorem dX12_layOrder_17 : decode cX12_layOrder 17 = .ok (.iinc 1 1, 3) := by decide +kernel
theorem dX12_layOrder_20 : decode cX12_layOrder 20 = .ok (.goto (-18), 3) := by decide +kernel
theorem dX12_layOrder_23 : decode cX12_layOrder 23 = .ok (.iconst 0, 1) := by decide +kernel
theorem dX12_layOrder_24 : decode cX12_layOrder 24 = .ok (.istore_n 1, 1) := by decide +kernel
theorem dX12_layOrder_25 : decode cX12_layOrder 25 = .ok (.iload_n 1, 1) := by decide +kernel
theorem dX12_layOrder_26 : decode cX12_layOrder 26 = .ok (.aload_n 0, 1) := by decide +kernel
theorem dX12_layOrder_27 : decode cX12_layOrder 27 = .ok (.getfield 382, 3) := by decide +kernel
theorem dX12_layOrder_30 : decode cX12_layOrder 30 = .ok (.if_icmp .ge 75, 3) := by decide +kernel
theorem dX12_layOrder_33 : decode cX12_layOrder 33 = .ok (.iconst (-1), 1) := by decide +kernel
theorem dX12_layOrder_34 : decode cX12_layOrder 34 = .ok (.istore_n 2, 1) := by decide +kernel
theorem dX12_layOrder_35 : decode cX12_layOrder 35 = .ok (.iconst 0, 1) := by decide +kernel
theorem dX12_layOrder_36 : decode cX12_layOrder 36 = .ok (.istore_n 3, 1) := by decide +kernel
theorem dX12_layOrder_37 : decode cX12_layOrder 37 = .ok (.iload_n 3, 1) := by decide +kernel
theorem dX12_layOrder_38 : decode cX12_layOrder 38 = .ok (.aload_n 0, 1) := by decide +kernel
theorem dX12_layOrder_39 : decode cX12_layOrder 39 = .ok (.getfield 382, 3) := by decide +kernel
theorem dX12_layOrder_42 : decode cX12_layOrder 42 = .ok (.if_icmp .ge 43, 3) := by decide +kernel
theorem dX12_layOrder_45 : decode cX12_layOrder 45 = .ok (.aload_n 0, 1) := by decide +kernel
theorem dX12_layOrder_46 : decode cX12_layOrder 46 = .ok (.iload_n 3, 1) := by decide +kernel
theorem dX12_layOrder_47 : decode cX12_layOrder 47 = .ok (.invokevirtual 385, 3) := by decide +kernel
theorem dX12_layOrder_50 : decode cX12_layOrder 50 = .ok (.ifCond .eq 27, 3) := by decide +kernel
theorem dX12_layOrder_53 : decode cX12_layOrder 53 = .ok (.iload_n 2, 1) := by decide +kernel
theorem dX12_layOrder_54 : decode cX12_layOrder 54 = .ok (.iconst (-1), 1) := by decide +kernel
theorem dX12_layOrder_55 : decode cX12_layOrder 55 = .ok (.if_icmp .eq 18, 3) := by decide +kernel
theorem dX12_layOrder_58 : decode cX12_layOrder 58 = .ok (.aload_n 0, 1) := by decide +kernel
theorem dX12_layOrder_59 : decode cX12_layOrder 59 = .ok (.getfield 68, 3) := by decide +kernel
theorem dX12_layOrder_62 : decode cX12_layOrder 62 = .ok (.iload_n 3, 1) := by decide +kernel
theorem dX12_layOrder_63 : decode cX12_layOrder 63 = .ok (.iaload, 1) := by decide +kernel
theorem dX12_layOrder_64 : decode cX12_layOrder 64 = .ok (.aload_n 0, 1) := by decide +kernel
theorem dX12_layOrder_65 : decode cX12_layOrder 65 = .ok (.getfield 68, 3) := by decide +kernel
theorem dX12_layOrder_68 : decode cX12_layOrder 68 = .ok (.iload_n 2, 1) := by decide +kernel
theorem dX12_layOrder_69 : decode cX12_layOrder 69 = .ok (.iaload, 1) := by decide +kernel
theorem dX12_layOrder_70 : decode cX12_layOrder 70 = .ok (.if_icmp .ge 7, 3) := by decide +kernel
theorem dX12_layOrder_73 : decode cX12_layOrder 73 = .ok (.iload_n 3, 1) := by decide +kernel
theorem dX12_layOrder_74 : decode cX12_layOrder 74 = .ok (.goto 4, 3) := by decide +kernel
theorem dX12_layOrder_77 : decode cX12_layOrder 77 = .ok (.iload_n 2, 1) := by decide +kernel
theorem dX12_layOrder_78 : decode cX12_layOrder 78 = .ok (.istore_n 2, 1) := by decide +kernel
theorem dX12_layOrder_79 : decode cX12_layOrder 79 = .ok (.iinc 3 1, 3) := by decide +kernel
theorem dX12_layOrder_82 : decode cX12_layOrder 82 = .ok (.goto (-45), 3) := by decide +kernel
theorem dX12_layOrder_85 : decode cX12_layOrder 85 = .ok (.aload_n 0, 1) := by decide +kernel
theorem dX12_layOrder_86 : decode cX12_layOrder 86 = .ok (.getfield 71, 3) := by decide +kernel
theorem dX12_layOrder_89 : decode cX12_layOrder 89 = .ok (.iload_n 1, 1) := by decide +kernel
theorem dX12_layOrder_90 : decode cX12_layOrder 90 = .ok (.iload_n 2, 1) := by decide +kernel
theorem dX12_layOrder_91 : decode cX12_layOrder 91 = .ok (.iastore, 1) := by decide +kernel
theorem dX12_layOrder_92 : decode cX12_layOrder 92 = .ok (.aload_n 0, 1) := by decide +kernel
theorem dX12_layOrder_93 : decode cX12_layOrder 93 = .ok (.getfield 74, 3) := by decide +kernel
theorem dX12_layOrder_96 : decode cX12_layOrder 96 = .ok (.iload_n 2, 1) := by decide +kernel
theorem dX12_layOrder_97 : decode cX12_layOrder 97 = .ok (.iconst 1, 1) := by decide +kernel
theorem dX12_layOrder_98 : decode cX12_layOrder 98 = .ok (.bastore, 1) := by decide +kernel
theorem dX12_layOrder_99 : decode cX12_layOrder 99 = .ok (.iinc 1 1, 3) := by decide +kernel
theorem dX12_layOrder_102 : decode cX12_layOrder 102 = .ok (.goto (-77), 3) := by decide +kernel
theorem dX12_layOrder_105 : decode cX12_layOrder 105 = .ok (.return_, 1) := by decide +kernel
theorem dX12_rowOfPlait_0 : decode cX12_rowOfPlait 0 = .ok (.aload_n 0, 1) := by decide +kernel
theorem dX12_rowOfPlait_1 : decode cX12_rowOfPlait 1 = .ok (.aload_n 0, 1) := by decide +kernel
theorem dX12_rowOfPlait_2 : decode cX12_rowOfPlait 2 = .ok (.getfield 58, 3) := by decide +kernel
theorem dX12_rowOfPlait_5 : decode cX12_rowOfPlait 5 = .ok (.bipush 14, 2) := by decide +kernel
theorem dX12_rowOfPlait_7 : decode cX12_rowOfPlait 7 = .ok (.iaload, 1) := by decide +kernel
theorem dX12_rowOfPlait_8 : decode cX12_rowOfPlait 8 = .ok (.putfield 382, 3) := by decide +kernel
theorem dX12_rowOfPlait_11 : decode cX12_rowOfPlait 11 = .ok (.iconst 0, 1) := by decide +kernel
theorem dX12_rowOfPlait_12 : decode cX12_rowOfPlait 12 = .ok (.istore_n 1, 1) := by decide +kernel
theorem dX12_rowOfPlait_13 : decode cX12_rowOfPlait 13 = .ok (.iload_n 1, 1) := by decide +kernel
theorem dX12_rowOfPlait_14 : decode cX12_rowOfPlait 14 = .ok (.aload_n 0, 1) := by decide +kernel
theorem dX12_rowOfPlait_15 : decode cX12_rowOfPlait 15 = .ok (.getfield 382, 3) := by decide +kernel
theorem dX12_rowOfPlait_18 : decode cX12_rowOfPlait 18 = .ok (.if_icmp .ge 21, 3) := by decide +kernel
theorem dX12_rowOfPlait_21 : decode cX12_rowOfPlait 21 = .ok (.aload_n 0, 1) := by decide +kernel
theorem dX12_rowOfPlait_22 : decode cX12_rowOfPlait 22 = .ok (.getfield 68, 3) := by decide +kernel
theorem dX12_rowOfPlait_25 : decode cX12_rowOfPlait 25 = .ok (.iload_n 1, 1) := by decide +kernel
theorem dX12_rowOfPlait_26 : decode cX12_rowOfPlait 26 = .ok (.aload_n 0, 1) := by decide +kernel
theorem dX12_rowOfPlait_27 : decode cX12_rowOfPlait 27 = .ok (.iload_n 1, 1) := by decide +kernel
theorem dX12_rowOfPlait_28 : decode cX12_rowOfPlait 28 = .ok (.iconst 0, 1) := by decide +kernel
theorem dX12_rowOfPlait_29 : decode cX12_rowOfPlait 29 = .ok (.invokevirtual 311, 3) := by decide +kernel
theorem dX12_rowOfPlait_32 : decode cX12_rowOfPlait 32 = .ok (.iastore, 1) := by decide +kernel
theorem dX12_rowOfPlait_33 : decode cX12_rowOfPlait 33 = .ok (.iinc 1 1, 3) := by decide +kernel
theorem dX12_rowOfPlait_36 : decode cX12_rowOfPlait 36 = .ok (.goto (-23), 3) := by decide +kernel
theorem dX12_rowOfPlait_39 : decode cX12_rowOfPlait 39 = .ok (.return_, 1) := by decide +kernel
theorem dX12_addLetter_0 : decode cX12_addLetter 0 = .ok (.aload_n 0, 1) := by decide +kernel
theorem dX12_addLetter_1 : decode cX12_addLetter 1 = .ok (.getfield 382, 3) := by decide +kernel
theorem dX12_addLetter_4 : decode cX12_addLetter 4 = .ok (.iconst 1, 1) := by decide +kernel
theorem dX12_addLetter_5 : decode cX12_addLetter 5 = .ok (.isub, 1) := by decide +kernel
theorem dX12_addLetter_6 : decode cX12_addLetter 6 = .ok (.istore_n 2, 1) := by decide +kernel
theorem dX12_addLetter_7 : decode cX12_addLetter 7 = .ok (.iload_n 2, 1) := by decide +kernel
theorem dX12_addLetter_8 : decode cX12_addLetter 8 = .ok (.ifCond .lt 27, 3) := by decide +kernel
theorem dX12_addLetter_11 : decode cX12_addLetter 11 = .ok (.aload_n 0, 1) := by decide +kernel
theorem dX12_addLetter_12 : decode cX12_addLetter 12 = .ok (.aload_n 0, 1) := by decide +kernel
theorem dX12_addLetter_13 : decode cX12_addLetter 13 = .ok (.getfield 68, 3) := by decide +kernel
theorem dX12_addLetter_16 : decode cX12_addLetter 16 = .ok (.iload_n 2, 1) := by decide +kernel
theorem dX12_addLetter_17 : decode cX12_addLetter 17 = .ok (.iaload, 1) := by decide +kernel
theorem dX12_addLetter_18 : decode cX12_addLetter 18 = .ok (.iconst 2, 1) := by decide +kernel
theorem dX12_addLetter_19 : decode cX12_addLetter 19 = .ok (.idiv, 1) := by decide +kernel
theorem dX12_addLetter_20 : decode cX12_addLetter 20 = .ok (.iload_n 1, 1) := by decide +kernel
theorem dX12_addLetter_21 : decode cX12_addLetter 21 = .ok (.iconst 2, 1) := by decide +kernel
theorem dX12_addLetter_22 : decode cX12_addLetter 22 = .ok (.idiv, 1) := by decide +kernel
theorem dX12_addLetter_23 : decode cX12_addLetter 23 = .ok (.invokevirtual 314, 3) := by decide +kernel
theorem dX12_addLetter_26 : decode cX12_addLetter 26 = .ok (.ifCond .ne 9, 3) := by decide +kernel
theorem dX12_addLetter_29 : decode cX12_addLetter 29 = .ok (.iinc 2 (-1), 3) := by decide +kernel
theorem dX12_addLetter_32 : decode cX12_addLetter 32 = .ok (.goto (-25), 3) := by decide +kernel
theorem dX12_addLetter_35 : decode cX12_addLetter 35 = .ok (.iload_n 2, 1) := by decide +kernel
theorem dX12_addLetter_36 : decode cX12_addLetter 36 = .ok (.ifCond .lt 60, 3) := by decide +kernel
theorem dX12_addLetter_39 : decode cX12_addLetter 39 = .ok (.aload_n 0, 1) := by decide +kernel
theorem dX12_addLetter_40 : decode cX12_addLetter 40 = .ok (.getfield 68, 3) := by decide +kernel
theorem dX12_addLetter_43 : decode cX12_addLetter 43 = .ok (.iload_n 2, 1) := by decide +kernel
theorem dX12_addLetter_44 : decode cX12_addLetter 44 = .ok (.iaload, 1) := by decide +kernel
theorem dX12_addLetter_45 : decode cX12_addLetter 45 = .ok (.iload_n 1, 1) := by decide +kernel
theorem dX12_addLetter_46 : decode cX12_addLetter 46 = .ok (.iconst 1, 1) := by decide +kernel
theorem dX12_addLetter_47 : decode cX12_addLetter 47 = .ok (.ixor, 1) := by decide +kernel
theorem dX12_addLetter_48 : decode cX12_addLetter 48 = .ok (.if_icmp .ne 48, 3) := by decide +kernel
theorem dX12_addLetter_51 : decode cX12_addLetter 51 = .ok (.iload_n 2, 1) := by decide +kernel
theorem dX12_addLetter_52 : decode cX12_addLetter 52 = .ok (.istore_n 3, 1) := by decide +kernel
theorem dX12_addLetter_53 : decode cX12_addLetter 53 = .ok (.iload_n 3, 1) := by decide +kernel
theorem dX12_addLetter_54 : decode cX12_addLetter 54 = .ok (.aload_n 0, 1) := by decide +kernel
theorem dX12_addLetter_55 : decode cX12_addLetter 55 = .ok (.getfield 382, 3) := by decide +kernel
theorem dX12_addLetter_58 : decode cX12_addLetter 58 = .ok (.iconst 1, 1) := by decide +kernel
theorem dX12_addLetter_59 : decode cX12_addLetter 59 = .ok (.isub, 1) := by decide +kernel
theorem dX12_addLetter_60 : decode cX12_addLetter 60 = .ok (.if_icmp .ge 23, 3) := by decide +kernel
theorem dX12_addLetter_63 : decode cX12_addLetter 63 = .ok (.aload_n 0, 1) := by decide +kernel
theorem dX12_addLetter_64 : decode cX12_addLetter 64 = .ok (.getfield 68, 3) := by decide +kernel
theorem dX12_addLetter_67 : decode cX12_addLetter 67 = .ok (.iload_n 3, 1) := by decide +kernel
theorem dX12_addLetter_68 : decode cX12_addLetter 68 = .ok (.aload_n 0, 1) := by decide +kernel
theorem dX12_addLetter_69 : decode cX12_addLetter 69 = .ok (.getfield 68, 3) := by decide +kernel
theorem dX12_addLetter_72 : decode cX12_addLetter 72 = .ok (.iload_n 3, 1) := by decide +kernel
theorem dX12_addLetter_73 : decode cX12_addLetter 73 = .ok (.iconst 1, 1) := by decide +kernel
theorem dX12_addLetter_74 : decode cX12_addLetter 74 = .ok (.iadd, 1) := by decide +kernel
theorem dX12_addLetter_75 : decode cX12_addLetter 75 = .ok (.iaload, 1) := by decide +kernel
theorem dX12_addLetter_76 : decode cX12_addLetter 76 = .ok (.iastore, 1) := by decide +kernel
theorem dX12_addLetter_77 : decode cX12_addLetter 77 = .ok (.iinc 3 1, 3) := by decide +kernel
theorem dX12_addLetter_80 : decode cX12_addLetter 80 = .ok (.goto (-27), 3) := by decide +kernel
theorem dX12_addLetter_83 : decode cX12_addLetter 83 = .ok (.aload_n 0, 1) := by decide +kernel
theorem dX12_addLetter_84 : decode cX12_addLetter 84 = .ok (.dup, 1) := by decide +kernel
theorem dX12_addLetter_85 : decode cX12_addLetter 85 = .ok (.getfield 382, 3) := by decide +kernel
theorem dX12_addLetter_88 : decode cX12_addLetter 88 = .ok (.iconst 1, 1) := by decide +kernel
theorem dX12_addLetter_89 : decode cX12_addLetter 89 = .ok (.isub, 1) := by decide +kernel
theorem dX12_addLetter_90 : decode cX12_addLetter 90 = .ok (.putfield 382, 3) := by decide +kernel
theorem dX12_addLetter_93 : decode cX12_addLetter 93 = .ok (.goto 23, 3) := by decide +kernel
theorem dX12_addLetter_96 : decode cX12_addLetter 96 = .ok (.aload_n 0, 1) := by decide +kernel
theorem dX12_addLetter_97 : decode cX12_addLetter 97 = .ok (.getfield 68, 3) := by decide +kernel
theorem dX12_addLetter_100 : decode cX12_addLetter 100 = .ok (.aload_n 0, 1) := by decide +kernel
theorem dX12_addLetter_101 : decode cX12_addLetter 101 = .ok (.getfield 382, 3) := by decide +kernel
theorem dX12_addLetter_104 : decode cX12_addLetter 104 = .ok (.iload_n 1, 1) := by decide +kernel
theorem dX12_addLetter_105 : decode cX12_addLetter 105 = .ok (.iastore, 1) := by decide +kernel
theorem dX12_addLetter_106 : decode cX12_addLetter 106 = .ok (.aload_n 0, 1) := by decide +kernel
theorem dX12_addLetter_107 : decode cX12_addLetter 107 = .ok (.dup, 1) := by decide +kernel
theorem dX12_addLetter_108 : decode cX12_addLetter 108 = .ok (.getfield 382, 3) := by decide +kernel
theorem dX12_addLetter_111 : decode cX12_addLetter 111 = .ok (.iconst 1, 1) := by decide +kernel
theorem dX12_addLetter_112 : decode cX12_addLetter 112 = .ok (.iadd, 1) := by decide +kernel
theorem dX12_addLetter_113 : decode cX12_addLetter 113 = .ok (.putfield 382, 3) := by decide +kernel
theorem dX12_addLetter_116 : decode cX12_addLetter 116 = .ok (.return_, 1) := by decide +kernel
theorem dX12_plait_0 : decode cX12_plait 0 = .ok (.iload_n 1, 1) := by decide +kernel
theorem dX12_plait_1 : decode cX12_plait 1 = .ok (.iconst 0, 1) := by decide +kernel
theorem dX12_plait_2 : decode cX12_plait 2 = .ok (.aload_n 0, 1) := by decide +kernel
theorem dX12_plait_3 : decode cX12_plait 3 = .ok (.getfield 58, 3) := by decide +kernel
theorem dX12_plait_6 : decode cX12_plait 6 = .ok (.bipush 14, 2) := by decide +kernel
theorem dX12_plait_8 : decode cX12_plait 8 = .ok (.iaload, 1) := by decide +kernel
theorem dX12_plait_9 : decode cX12_plait 9 = .ok (.iconst 1, 1) := by decide +kernel
theorem dX12_plait_10 : decode cX12_plait 10 = .ok (.isub, 1) := by decide +kernel
theorem dX12_plait_11 : decode cX12_plait 11 = .ok (.invokestatic 229, 3) := by decide +kernel
theorem dX12_plait_14 : decode cX12_plait 14 = .ok (.ifCond .eq 12, 3) := by decide +kernel
theorem dX12_plait_17 : decode cX12_plait 17 = .ok (.iload_n 2, 1) := by decide +kernel
theorem dX12_plait_18 : decode cX12_plait 18 = .ok (.iconst 0, 1) := by decide +kernel
theorem dX12_plait_19 : decode cX12_plait 19 = .ok (.iconst 4, 1) := by decide +kernel
theorem dX12_plait_20 : decode cX12_plait 20 = .ok (.invokestatic 229, 3) := by decide +kernel
theorem dX12_plait_23 : decode cX12_plait 23 = .ok (.ifCond .ne 5, 3) := by decide +kernel
theorem dX12_plait_26 : decode cX12_plait 26 = .ok (.iconst (-1), 1) := by decide +kernel
theorem dX12_plait_27 : decode cX12_plait 27 = .ok (.ireturn, 1) := by decide +kernel
theorem dX12_plait_28 : decode cX12_plait 28 = .ok (.aload_n 0, 1) := by decide +kernel
theorem dX12_plait_29 : decode cX12_plait 29 = .ok (.invokevirtual 388, 3) := by decide +kernel
theorem dX12_plait_32 : decode cX12_plait 32 = .ok (.aload_n 0, 1) := by decide +kernel
theorem dX12_plait_33 : decode cX12_plait 33 = .ok (.invokevirtual 391, 3) := by decide +kernel
theorem dX12_plait_36 : decode cX12_plait 36 = .ok (.aload_n 0, 1) := by decide +kernel
theorem dX12_plait_37 : decode cX12_plait 37 = .ok (.aload_n 0, 1) := by decide +kernel
theorem dX12_plait_38 : decode cX12_plait 38 = .ok (.getfield 71, 3) := by decide +kernel
theorem dX12_plait_41 : decode cX12_plait 41 = .ok (.iload_n 1, 1) := by decide +kernel
theorem dX12_plait_42 : decode cX12_plait 42 = .ok (.iaload, 1) := by decide +kernel
theorem dX12_plait_43 : decode cX12_plait 43 = .ok (.iload_n 2, 1) := by decide +kernel
theorem dX12_plait_44 : decode cX12_plait 44 = .ok (.invokevirtual 311, 3) := by decide +kernel
theorem dX12_plait_47 : decode cX12_plait 47 = .ok (.ireturn, 1) := by decide +kernel
theorem dX12_keep_0 : decode cX12_keep 0 = .ok (.aload_n 0, 1) := by decide +kernel
theorem dX12_keep_1 : decode cX12_keep 1 = .ok (.getfield 292, 3) := by decide +kernel
theorem dX12_keep_4 : decode cX12_keep 4 = .ok (.bipush 40, 2) := by decide +kernel
theorem dX12_keep_6 : decode cX12_keep 6 = .ok (.if_icmp .ne 46, 3) := by decide +kernel
theorem dX12_keep_9 : decode cX12_keep 9 = .ok (.sipush 398, 3) := by decide +kernel
theorem dX12_keep_12 : decode cX12_keep 12 = .ok (.istore_n 1, 1) := by decide +kernel
theorem dX12_keep_13 : decode cX12_keep 13 = .ok (.iload_n 1, 1) := by decide +kernel
theorem dX12_keep_14 : decode cX12_keep 14 = .ok (.sipush 15920, 3) := by decide +kernel
theorem dX12_keep_17 : decode cX12_keep 17 = .ok (.if_icmp .ge 25, 3) := by decide +kernel
theorem dX12_keep_20 : decode cX12_keep 20 = .ok (.aload_n 0, 1) := by decide +kernel
theorem dX12_keep_21 : decode cX12_keep 21 = .ok (.getfield 78, 3) := by decide +kernel
theorem dX12_keep_24 : decode cX12_keep 24 = .ok (.iload_n 1, 1) := by decide +kernel
theorem dX12_keep_25 : decode cX12_keep 25 = .ok (.sipush 398, 3) := by decide +kernel
theorem dX12_keep_28 : decode cX12_keep 28 = .ok (.isub, 1) := by decide +kernel
theorem dX12_keep_29 : decode cX12_keep 29 = .ok (.aload_n 0, 1) := by decide +kernel
theorem dX12_keep_30 : decode cX12_keep 30 = .ok (.getfield 78, 3) := by decide +kernel
theorem dX12_keep_33 : decode cX12_keep 33 = .ok (.iload_n 1, 1) := by decide +kernel
theorem dX12_keep_34 : decode cX12_keep 34 = .ok (.iaload, 1) := by decide +kernel
theorem dX12_keep_35 : decode cX12_keep 35 = .ok (.iastore, 1) := by decide +kernel
theorem dX12_keep_36 : decode cX12_keep 36 = .ok (.iinc 1 1, 3) := by decide +kernel
theorem dX12_keep_39 : decode cX12_keep 39 = .ok (.goto (-26), 3) := by decide +kernel
theorem dX12_keep_42 : decode cX12_keep 42 = .ok (.aload_n 0, 1) := by decide +kernel
theorem dX12_keep_43 : decode cX12_keep 43 = .ok (.dup, 1) := by decide +kernel
theorem dX12_keep_44 : decode cX12_keep 44 = .ok (.getfield 292, 3) := by decide +kernel
theorem dX12_keep_47 : decode cX12_keep 47 = .ok (.iconst 1, 1) := by decide +kernel
theorem dX12_keep_48 : decode cX12_keep 48 = .ok (.isub, 1) := by decide +kernel
theorem dX12_keep_49 : decode cX12_keep 49 = .ok (.putfield 292, 3) := by decide +kernel
theorem dX12_keep_52 : decode cX12_keep 52 = .ok (.iconst 0, 1) := by decide +kernel
theorem dX12_keep_53 : decode cX12_keep 53 = .ok (.istore_n 1, 1) := by decide +kernel
theorem dX12_keep_54 : decode cX12_keep 54 = .ok (.iload_n 1, 1) := by decide +kernel
theorem dX12_keep_55 : decode cX12_keep 55 = .ok (.sipush 398, 3) := by decide +kernel
theorem dX12_keep_58 : decode cX12_keep 58 = .ok (.if_icmp .ge 30, 3) := by decide +kernel
theorem dX12_keep_61 : decode cX12_keep 61 = .ok (.aload_n 0, 1) := by decide +kernel
theorem dX12_keep_62 : decode cX12_keep 62 = .ok (.getfield 78, 3) := by decide +kernel
theorem dX12_keep_65 : decode cX12_keep 65 = .ok (.sipush 398, 3) := by decide +kernel
theorem dX12_keep_68 : decode cX12_keep 68 = .ok (.aload_n 0, 1) := by decide +kernel
theorem dX12_keep_69 : decode cX12_keep 69 = .ok (.getfield 292, 3) := by decide +kernel
theorem dX12_keep_72 : decode cX12_keep 72 = .ok (.imul, 1) := by decide +kernel
theorem dX12_keep_73 : decode cX12_keep 73 = .ok (.iload_n 1, 1) := by decide +kernel
theorem dX12_keep_74 : decode cX12_keep 74 = .ok (.iadd, 1) := by decide +kernel
theorem dX12_keep_75 : decode cX12_keep 75 = .ok (.aload_n 0, 1) := by decide +kernel
theorem dX12_keep_76 : decode cX12_keep 76 = .ok (.getfield 58, 3) := by decide +kernel
theorem dX12_keep_79 : decode cX12_keep 79 = .ok (.iload_n 1, 1) := by decide +kernel
theorem dX12_keep_80 : decode cX12_keep 80 = .ok (.iaload, 1) := by decide +kernel
theorem dX12_keep_81 : decode cX12_keep 81 = .ok (.iastore, 1) := by decide +kernel
