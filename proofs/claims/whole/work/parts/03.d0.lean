theorem dX11_init_0 : decode cX11_init 0 = .ok (.aload_n 0, 1) := by decide +kernel
theorem dX11_init_1 : decode cX11_init 1 = .ok (.invokespecial 1, 3) := by decide +kernel
theorem dX11_init_4 : decode cX11_init 4 = .ok (.aload_n 0, 1) := by decide +kernel
theorem dX11_init_5 : decode cX11_init 5 = .ok (.new 7, 3) := by decide +kernel
theorem dX11_init_8 : decode cX11_init 8 = .ok (.dup, 1) := by decide +kernel
theorem dX11_init_9 : decode cX11_init 9 = .ok (.invokespecial 9, 3) := by decide +kernel
theorem dX11_init_12 : decode cX11_init 12 = .ok (.putfield 10, 3) := by decide +kernel
theorem dX11_init_15 : decode cX11_init 15 = .ok (.aload_n 0, 1) := by decide +kernel
theorem dX11_init_16 : decode cX11_init 16 = .ok (.new 16, 3) := by decide +kernel
theorem dX11_init_19 : decode cX11_init 19 = .ok (.dup, 1) := by decide +kernel
theorem dX11_init_20 : decode cX11_init 20 = .ok (.aload_n 0, 1) := by decide +kernel
theorem dX11_init_21 : decode cX11_init 21 = .ok (.getfield 10, 3) := by decide +kernel
theorem dX11_init_24 : decode cX11_init 24 = .ok (.invokespecial 18, 3) := by decide +kernel
theorem dX11_init_27 : decode cX11_init 27 = .ok (.putfield 21, 3) := by decide +kernel
theorem dX11_init_30 : decode cX11_init 30 = .ok (.aload_n 0, 1) := by decide +kernel
theorem dX11_init_31 : decode cX11_init 31 = .ok (.new 25, 3) := by decide +kernel
theorem dX11_init_34 : decode cX11_init 34 = .ok (.dup, 1) := by decide +kernel
theorem dX11_init_35 : decode cX11_init 35 = .ok (.aload_n 0, 1) := by decide +kernel
theorem dX11_init_36 : decode cX11_init 36 = .ok (.getfield 10, 3) := by decide +kernel
theorem dX11_init_39 : decode cX11_init 39 = .ok (.invokespecial 27, 3) := by decide +kernel
theorem dX11_init_42 : decode cX11_init 42 = .ok (.putfield 28, 3) := by decide +kernel
theorem dX11_init_45 : decode cX11_init 45 = .ok (.aload_n 0, 1) := by decide +kernel
theorem dX11_init_46 : decode cX11_init 46 = .ok (.new 32, 3) := by decide +kernel
theorem dX11_init_49 : decode cX11_init 49 = .ok (.dup, 1) := by decide +kernel
theorem dX11_init_50 : decode cX11_init 50 = .ok (.aload_n 0, 1) := by decide +kernel
theorem dX11_init_51 : decode cX11_init 51 = .ok (.getfield 10, 3) := by decide +kernel
theorem dX11_init_54 : decode cX11_init 54 = .ok (.invokespecial 34, 3) := by decide +kernel
theorem dX11_init_57 : decode cX11_init 57 = .ok (.putfield 35, 3) := by decide +kernel
theorem dX11_init_60 : decode cX11_init 60 = .ok (.aload_n 0, 1) := by decide +kernel
theorem dX11_init_61 : decode cX11_init 61 = .ok (.new 39, 3) := by decide +kernel
theorem dX11_init_64 : decode cX11_init 64 = .ok (.dup, 1) := by decide +kernel
theorem dX11_init_65 : decode cX11_init 65 = .ok (.invokespecial 41, 3) := by decide +kernel
theorem dX11_init_68 : decode cX11_init 68 = .ok (.putfield 42, 3) := by decide +kernel
theorem dX11_init_71 : decode cX11_init 71 = .ok (.aload_n 0, 1) := by decide +kernel
theorem dX11_init_72 : decode cX11_init 72 = .ok (.new 46, 3) := by decide +kernel
theorem dX11_init_75 : decode cX11_init 75 = .ok (.dup, 1) := by decide +kernel
theorem dX11_init_76 : decode cX11_init 76 = .ok (.invokespecial 48, 3) := by decide +kernel
theorem dX11_init_79 : decode cX11_init 79 = .ok (.putfield 49, 3) := by decide +kernel
theorem dX11_init_82 : decode cX11_init 82 = .ok (.aload_n 0, 1) := by decide +kernel
theorem dX11_init_83 : decode cX11_init 83 = .ok (.new 46, 3) := by decide +kernel
theorem dX11_init_86 : decode cX11_init 86 = .ok (.dup, 1) := by decide +kernel
theorem dX11_init_87 : decode cX11_init 87 = .ok (.invokespecial 48, 3) := by decide +kernel
theorem dX11_init_90 : decode cX11_init 90 = .ok (.putfield 53, 3) := by decide +kernel
theorem dX11_init_93 : decode cX11_init 93 = .ok (.aload_n 0, 1) := by decide +kernel
theorem dX11_init_94 : decode cX11_init 94 = .ok (.new 56, 3) := by decide +kernel
theorem dX11_init_97 : decode cX11_init 97 = .ok (.dup, 1) := by decide +kernel
theorem dX11_init_98 : decode cX11_init 98 = .ok (.invokespecial 58, 3) := by decide +kernel
theorem dX11_init_101 : decode cX11_init 101 = .ok (.putfield 59, 3) := by decide +kernel
theorem dX11_init_104 : decode cX11_init 104 = .ok (.aload_n 0, 1) := by decide +kernel
theorem dX11_init_105 : decode cX11_init 105 = .ok (.iconst 4, 1) := by decide +kernel
theorem dX11_init_106 : decode cX11_init 106 = .ok (.anewarray 63, 3) := by decide +kernel
theorem dX11_init_109 : decode cX11_init 109 = .ok (.putfield 65, 3) := by decide +kernel
theorem dX11_init_112 : decode cX11_init 112 = .ok (.aload_n 0, 1) := by decide +kernel
theorem dX11_init_113 : decode cX11_init 113 = .ok (.iconst (-1), 1) := by decide +kernel
theorem dX11_init_114 : decode cX11_init 114 = .ok (.putfield 69, 3) := by decide +kernel
theorem dX11_init_117 : decode cX11_init 117 = .ok (.aload_n 0, 1) := by decide +kernel
theorem dX11_init_118 : decode cX11_init 118 = .ok (.bipush 6, 2) := by decide +kernel
theorem dX11_init_120 : decode cX11_init 120 = .ok (.anewarray 73, 3) := by decide +kernel
theorem dX11_init_123 : decode cX11_init 123 = .ok (.putfield 75, 3) := by decide +kernel
theorem dX11_init_126 : decode cX11_init 126 = .ok (.aload_n 0, 1) := by decide +kernel
theorem dX11_init_127 : decode cX11_init 127 = .ok (.iconst 5, 1) := by decide +kernel
theorem dX11_init_128 : decode cX11_init 128 = .ok (.newarray .int, 2) := by decide +kernel
theorem dX11_init_130 : decode cX11_init 130 = .ok (.putfield 79, 3) := by decide +kernel
theorem dX11_init_133 : decode cX11_init 133 = .ok (.aload_n 0, 1) := by decide +kernel
theorem dX11_init_134 : decode cX11_init 134 = .ok (.bipush 10, 2) := by decide +kernel
theorem dX11_init_136 : decode cX11_init 136 = .ok (.newarray .int, 2) := by decide +kernel
theorem dX11_init_138 : decode cX11_init 138 = .ok (.putfield 83, 3) := by decide +kernel
theorem dX11_init_141 : decode cX11_init 141 = .ok (.aload_n 0, 1) := by decide +kernel
theorem dX11_init_142 : decode cX11_init 142 = .ok (.bipush 9, 2) := by decide +kernel
theorem dX11_init_144 : decode cX11_init 144 = .ok (.anewarray 46, 3) := by decide +kernel
theorem dX11_init_147 : decode cX11_init 147 = .ok (.putfield 86, 3) := by decide +kernel
theorem dX11_init_150 : decode cX11_init 150 = .ok (.aload_n 0, 1) := by decide +kernel
theorem dX11_init_151 : decode cX11_init 151 = .ok (.bipush 48, 2) := by decide +kernel
theorem dX11_init_153 : decode cX11_init 153 = .ok (.newarray .int, 2) := by decide +kernel
theorem dX11_init_155 : decode cX11_init 155 = .ok (.putfield 90, 3) := by decide +kernel
theorem dX11_init_158 : decode cX11_init 158 = .ok (.aload_n 0, 1) := by decide +kernel
theorem dX11_init_159 : decode cX11_init 159 = .ok (.new 93, 3) := by decide +kernel
theorem dX11_init_162 : decode cX11_init 162 = .ok (.dup, 1) := by decide +kernel
theorem dX11_init_163 : decode cX11_init 163 = .ok (.invokespecial 95, 3) := by decide +kernel
theorem dX11_init_166 : decode cX11_init 166 = .ok (.putfield 96, 3) := by decide +kernel
theorem dX11_init_169 : decode cX11_init 169 = .ok (.iconst 0, 1) := by decide +kernel
theorem dX11_init_170 : decode cX11_init 170 = .ok (.istore_n 1, 1) := by decide +kernel
theorem dX11_init_171 : decode cX11_init 171 = .ok (.iload_n 1, 1) := by decide +kernel
theorem dX11_init_172 : decode cX11_init 172 = .ok (.iconst 4, 1) := by decide +kernel
theorem dX11_init_173 : decode cX11_init 173 = .ok (.if_icmp .ge 22, 3) := by decide +kernel
theorem dX11_init_176 : decode cX11_init 176 = .ok (.aload_n 0, 1) := by decide +kernel
theorem dX11_init_177 : decode cX11_init 177 = .ok (.getfield 65, 3) := by decide +kernel
theorem dX11_init_180 : decode cX11_init 180 = .ok (.iload_n 1, 1) := by decide +kernel
theorem dX11_init_181 : decode cX11_init 181 = .ok (.new 63, 3) := by decide +kernel
theorem dX11_init_184 : decode cX11_init 184 = .ok (.dup, 1) := by decide +kernel
theorem dX11_init_185 : decode cX11_init 185 = .ok (.invokespecial 100, 3) := by decide +kernel
theorem dX11_init_188 : decode cX11_init 188 = .ok (.aastore, 1) := by decide +kernel
theorem dX11_init_189 : decode cX11_init 189 = .ok (.iinc 1 1, 3) := by decide +kernel
theorem dX11_init_192 : decode cX11_init 192 = .ok (.goto (-21), 3) := by decide +kernel
theorem dX11_init_195 : decode cX11_init 195 = .ok (.iconst 0, 1) := by decide +kernel
theorem dX11_init_196 : decode cX11_init 196 = .ok (.istore_n 1, 1) := by decide +kernel
theorem dX11_init_197 : decode cX11_init 197 = .ok (.iload_n 1, 1) := by decide +kernel
theorem dX11_init_198 : decode cX11_init 198 = .ok (.bipush 6, 2) := by decide +kernel
theorem dX11_init_200 : decode cX11_init 200 = .ok (.if_icmp .ge 22, 3) := by decide +kernel
theorem dX11_init_203 : decode cX11_init 203 = .ok (.aload_n 0, 1) := by decide +kernel
theorem dX11_init_204 : decode cX11_init 204 = .ok (.getfield 75, 3) := by decide +kernel
theorem dX11_init_207 : decode cX11_init 207 = .ok (.iload_n 1, 1) := by decide +kernel
theorem dX11_init_208 : decode cX11_init 208 = .ok (.new 73, 3) := by decide +kernel
theorem dX11_init_211 : decode cX11_init 211 = .ok (.dup, 1) := by decide +kernel
theorem dX11_init_212 : decode cX11_init 212 = .ok (.invokespecial 101, 3) := by decide +kernel
theorem dX11_init_215 : decode cX11_init 215 = .ok (.aastore, 1) := by decide +kernel
theorem dX11_init_216 : decode cX11_init 216 = .ok (.iinc 1 1, 3) := by decide +kernel
theorem dX11_init_219 : decode cX11_init 219 = .ok (.goto (-22), 3) := by decide +kernel
theorem dX11_init_222 : decode cX11_init 222 = .ok (.iconst 0, 1) := by decide +kernel
theorem dX11_init_223 : decode cX11_init 223 = .ok (.istore_n 1, 1) := by decide +kernel
theorem dX11_init_224 : decode cX11_init 224 = .ok (.iload_n 1, 1) := by decide +kernel
theorem dX11_init_225 : decode cX11_init 225 = .ok (.bipush 8, 2) := by decide +kernel
theorem dX11_init_227 : decode cX11_init 227 = .ok (.if_icmp .gt 22, 3) := by decide +kernel
theorem dX11_init_230 : decode cX11_init 230 = .ok (.aload_n 0, 1) := by decide +kernel
theorem dX11_init_231 : decode cX11_init 231 = .ok (.getfield 86, 3) := by decide +kernel
theorem dX11_init_234 : decode cX11_init 234 = .ok (.iload_n 1, 1) := by decide +kernel
theorem dX11_init_235 : decode cX11_init 235 = .ok (.new 46, 3) := by decide +kernel
theorem dX11_init_238 : decode cX11_init 238 = .ok (.dup, 1) := by decide +kernel
theorem dX11_init_239 : decode cX11_init 239 = .ok (.invokespecial 48, 3) := by decide +kernel
theorem dX11_init_242 : decode cX11_init 242 = .ok (.aastore, 1) := by decide +kernel
theorem dX11_init_243 : decode cX11_init 243 = .ok (.iinc 1 1, 3) := by decide +kernel
theorem dX11_init_246 : decode cX11_init 246 = .ok (.goto (-22), 3) := by decide +kernel
theorem dX11_init_249 : decode cX11_init 249 = .ok (.return_, 1) := by decide +kernel
theorem dX11_feed_0 : decode cX11_feed 0 = .ok (.iload_n 1, 1) := by decide +kernel
theorem dX11_feed_1 : decode cX11_feed 1 = .ok (.invokestatic 102, 3) := by decide +kernel
theorem dX11_feed_4 : decode cX11_feed 4 = .ok (.iload_n 2, 1) := by decide +kernel
theorem dX11_feed_5 : decode cX11_feed 5 = .ok (.invokestatic 102, 3) := by decide +kernel
theorem dX11_feed_8 : decode cX11_feed 8 = .ok (.iadd, 1) := by decide +kernel
theorem dX11_feed_9 : decode cX11_feed 9 = .ok (.iload_n 3, 1) := by decide +kernel
theorem dX11_feed_10 : decode cX11_feed 10 = .ok (.invokestatic 102, 3) := by decide +kernel
theorem dX11_feed_13 : decode cX11_feed 13 = .ok (.iadd, 1) := by decide +kernel
theorem dX11_feed_14 : decode cX11_feed 14 = .ok (.iload 4, 2) := by decide +kernel
theorem dX11_feed_16 : decode cX11_feed 16 = .ok (.invokestatic 102, 3) := by decide +kernel
theorem dX11_feed_19 : decode cX11_feed 19 = .ok (.iadd, 1) := by decide +kernel
theorem dX11_feed_20 : decode cX11_feed 20 = .ok (.iload 5, 2) := by decide +kernel
theorem dX11_feed_22 : decode cX11_feed 22 = .ok (.invokestatic 102, 3) := by decide +kernel
theorem dX11_feed_25 : decode cX11_feed 25 = .ok (.iadd, 1) := by decide +kernel
theorem dX11_feed_26 : decode cX11_feed 26 = .ok (.istore 6, 2) := by decide +kernel
theorem dX11_feed_28 : decode cX11_feed 28 = .ok (.aload_n 0, 1) := by decide +kernel
theorem dX11_feed_29 : decode cX11_feed 29 = .ok (.getfield 10, 3) := by decide +kernel
theorem dX11_feed_32 : decode cX11_feed 32 = .ok (.getfield 106, 3) := by decide +kernel
theorem dX11_feed_35 : decode cX11_feed 35 = .ok (.iload 6, 2) := by decide +kernel
theorem dX11_feed_37 : decode cX11_feed 37 = .ok (.iadd, 1) := by decide +kernel
theorem dX11_feed_38 : decode cX11_feed 38 = .ok (.sipush 240, 3) := by decide +kernel
theorem dX11_feed_41 : decode cX11_feed 41 = .ok (.if_icmp .le 5, 3) := by decide +kernel
theorem dX11_feed_44 : decode cX11_feed 44 = .ok (.iconst (-1), 1) := by decide +kernel
theorem dX11_feed_45 : decode cX11_feed 45 = .ok (.ireturn, 1) := by decide +kernel
theorem dX11_feed_46 : decode cX11_feed 46 = .ok (.aload_n 0, 1) := by decide +kernel
theorem dX11_feed_47 : decode cX11_feed 47 = .ok (.getfield 10, 3) := by decide +kernel
theorem dX11_feed_50 : decode cX11_feed 50 = .ok (.iload_n 1, 1) := by decide +kernel
theorem dX11_feed_51 : decode cX11_feed 51 = .ok (.invokevirtual 109, 3) := by decide +kernel
theorem dX11_feed_54 : decode cX11_feed 54 = .ok (.aload_n 0, 1) := by decide +kernel
theorem dX11_feed_55 : decode cX11_feed 55 = .ok (.getfield 10, 3) := by decide +kernel
theorem dX11_feed_58 : decode cX11_feed 58 = .ok (.iload_n 2, 1) := by decide +kernel
theorem dX11_feed_59 : decode cX11_feed 59 = .ok (.invokevirtual 109, 3) := by decide +kernel
theorem dX11_feed_62 : decode cX11_feed 62 = .ok (.aload_n 0, 1) := by decide +kernel
theorem dX11_feed_63 : decode cX11_feed 63 = .ok (.getfield 10, 3) := by decide +kernel
theorem dX11_feed_66 : decode cX11_feed 66 = .ok (.iload_n 3, 1) := by decide +kernel
theorem dX11_feed_67 : decode cX11_feed 67 = .ok (.invokevirtual 109, 3) := by decide +kernel
theorem dX11_feed_70 : decode cX11_feed 70 = .ok (.aload_n 0, 1) := by decide +kernel
theorem dX11_feed_71 : decode cX11_feed 71 = .ok (.getfield 10, 3) := by decide +kernel
theorem dX11_feed_74 : decode cX11_feed 74 = .ok (.iload 4, 2) := by decide +kernel
theorem dX11_feed_76 : decode cX11_feed 76 = .ok (.invokevirtual 109, 3) := by decide +kernel
theorem dX11_feed_79 : decode cX11_feed 79 = .ok (.aload_n 0, 1) := by decide +kernel
theorem dX11_feed_80 : decode cX11_feed 80 = .ok (.getfield 10, 3) := by decide +kernel
theorem dX11_feed_83 : decode cX11_feed 83 = .ok (.iload 5, 2) := by decide +kernel
theorem dX11_feed_85 : decode cX11_feed 85 = .ok (.invokevirtual 109, 3) := by decide +kernel
theorem dX11_feed_88 : decode cX11_feed 88 = .ok (.aload_n 0, 1) := by decide +kernel
theorem dX11_feed_89 : decode cX11_feed 89 = .ok (.getfield 10, 3) := by decide +kernel
theorem dX11_feed_92 : decode cX11_feed 92 = .ok (.getfield 106, 3) := by decide +kernel
theorem dX11_feed_95 : decode cX11_feed 95 = .ok (.ireturn, 1) := by decide +kernel
theorem dX11_end_0 : decode cX11_end 0 = .ok (.iload_n 1, 1) := by decide +kernel
theorem dX11_end_1 : decode cX11_end 1 = .ok (.ifCond .lt 14, 3) := by decide +kernel
theorem dX11_end_4 : decode cX11_end 4 = .ok (.iload_n 1, 1) := by decide +kernel
theorem dX11_end_5 : decode cX11_end 5 = .ok (.aload_n 0, 1) := by decide +kernel
theorem dX11_end_6 : decode cX11_end 6 = .ok (.getfield 10, 3) := by decide +kernel
theorem dX11_end_9 : decode cX11_end 9 = .ok (.getfield 106, 3) := by decide +kernel
theorem dX11_end_12 : decode cX11_end 12 = .ok (.if_icmp .le 5, 3) := by decide +kernel
theorem dX11_end_15 : decode cX11_end 15 = .ok (.iconst 0, 1) := by decide +kernel
theorem dX11_end_16 : decode cX11_end 16 = .ok (.ireturn, 1) := by decide +kernel
theorem dX11_end_17 : decode cX11_end 17 = .ok (.aload_n 0, 1) := by decide +kernel
theorem dX11_end_18 : decode cX11_end 18 = .ok (.getfield 10, 3) := by decide +kernel
theorem dX11_end_21 : decode cX11_end 21 = .ok (.iload_n 1, 1) := by decide +kernel
theorem dX11_end_22 : decode cX11_end 22 = .ok (.putfield 106, 3) := by decide +kernel
theorem dX11_end_25 : decode cX11_end 25 = .ok (.iconst 1, 1) := by decide +kernel
theorem dX11_end_26 : decode cX11_end 26 = .ok (.ireturn, 1) := by decide +kernel
theorem dX11_fault_0 : decode cX11_fault 0 = .ok (.aload_n 0, 1) := by decide +kernel
theorem dX11_fault_1 : decode cX11_fault 1 = .ok (.iload_n 1, 1) := by decide +kernel
theorem dX11_fault_2 : decode cX11_fault 2 = .ok (.invokevirtual 113, 3) := by decide +kernel
theorem dX11_fault_5 : decode cX11_fault 5 = .ok (.astore_n 2, 1) := by decide +kernel
theorem dX11_fault_6 : decode cX11_fault 6 = .ok (.aload_n 2, 1) := by decide +kernel
theorem dX11_fault_7 : decode cX11_fault 7 = .ok (.ifnonnull 6, 3) := by decide +kernel
theorem dX11_fault_10 : decode cX11_fault 10 = .ok (.bipush (-2), 2) := by decide +kernel
theorem dX11_fault_12 : decode cX11_fault 12 = .ok (.ireturn, 1) := by decide +kernel
theorem dX11_fault_13 : decode cX11_fault 13 = .ok (.aload_n 2, 1) := by decide +kernel
theorem dX11_fault_14 : decode cX11_fault 14 = .ok (.invokevirtual 117, 3) := by decide +kernel
theorem dX11_fault_17 : decode cX11_fault 17 = .ok (.ifCond .eq 7, 3) := by decide +kernel
theorem dX11_fault_20 : decode cX11_fault 20 = .ok (.iconst (-1), 1) := by decide +kernel
theorem dX11_fault_21 : decode cX11_fault 21 = .ok (.goto 7, 3) := by decide +kernel
theorem dX11_fault_24 : decode cX11_fault 24 = .ok (.aload_n 2, 1) := by decide +kernel
theorem dX11_fault_25 : decode cX11_fault 25 = .ok (.getfield 123, 3) := by decide +kernel
theorem dX11_fault_28 : decode cX11_fault 28 = .ok (.ireturn, 1) := by decide +kernel
theorem dX11_readerOf_0 : decode cX11_readerOf 0 = .ok (.iload_n 1, 1) := by decide +kernel
theorem dX11_readerOf_1 : decode cX11_readerOf 1 = .ok (.tableswitch 42 0 2 #[27, 32, 37], 27) := by decide +kernel
theorem dX11_readerOf_28 : decode cX11_readerOf 28 = .ok (.aload_n 0, 1) := by decide +kernel
theorem dX11_readerOf_29 : decode cX11_readerOf 29 = .ok (.getfield 21, 3) := by decide +kernel
theorem dX11_readerOf_32 : decode cX11_readerOf 32 = .ok (.areturn, 1) := by decide +kernel
theorem dX11_readerOf_33 : decode cX11_readerOf 33 = .ok (.aload_n 0, 1) := by decide +kernel
theorem dX11_readerOf_34 : decode cX11_readerOf 34 = .ok (.getfield 28, 3) := by decide +kernel
theorem dX11_readerOf_37 : decode cX11_readerOf 37 = .ok (.areturn, 1) := by decide +kernel
theorem dX11_readerOf_38 : decode cX11_readerOf 38 = .ok (.aload_n 0, 1) := by decide +kernel
theorem dX11_readerOf_39 : decode cX11_readerOf 39 = .ok (.getfield 35, 3) := by decide +kernel
theorem dX11_readerOf_42 : decode cX11_readerOf 42 = .ok (.areturn, 1) := by decide +kernel
theorem dX11_readerOf_43 : decode cX11_readerOf 43 = .ok (.aconst_null, 1) := by decide +kernel
theorem dX11_readerOf_44 : decode cX11_readerOf 44 = .ok (.areturn, 1) := by decide +kernel
theorem dX11_text_0 : decode cX11_text 0 = .ok (.aload_n 0, 1) := by decide +kernel
theorem dX11_text_1 : decode cX11_text 1 = .ok (.iload_n 1, 1) := by decide +kernel
theorem dX11_text_2 : decode cX11_text 2 = .ok (.invokevirtual 113, 3) := by decide +kernel
theorem dX11_text_5 : decode cX11_text 5 = .ok (.astore_n 2, 1) := by decide +kernel
theorem dX11_text_6 : decode cX11_text 6 = .ok (.aload_n 2, 1) := by decide +kernel
theorem dX11_text_7 : decode cX11_text 7 = .ok (.ifnull 10, 3) := by decide +kernel
theorem dX11_text_10 : decode cX11_text 10 = .ok (.aload_n 2, 1) := by decide +kernel
theorem dX11_text_11 : decode cX11_text 11 = .ok (.invokevirtual 117, 3) := by decide +kernel
theorem dX11_text_14 : decode cX11_text 14 = .ok (.ifCond .ne 5, 3) := by decide +kernel
theorem dX11_text_17 : decode cX11_text 17 = .ok (.iconst (-1), 1) := by decide +kernel
theorem dX11_text_18 : decode cX11_text 18 = .ok (.ireturn, 1) := by decide +kernel
theorem dX11_text_19 : decode cX11_text 19 = .ok (.iload_n 1, 1) := by decide +kernel
theorem dX11_text_20 : decode cX11_text 20 = .ok (.lookupswitch 38 #[(0, 28), (1, 33)], 28) := by decide +kernel
theorem dX11_text_48 : decode cX11_text 48 = .ok (.aload_n 0, 1) := by decide +kernel
theorem dX11_text_49 : decode cX11_text 49 = .ok (.invokevirtual 126, 3) := by decide +kernel
theorem dX11_text_52 : decode cX11_text 52 = .ok (.ireturn, 1) := by decide +kernel
theorem dX11_text_53 : decode cX11_text 53 = .ok (.aload_n 0, 1) := by decide +kernel
theorem dX11_text_54 : decode cX11_text 54 = .ok (.invokevirtual 130, 3) := by decide +kernel
theorem dX11_text_57 : decode cX11_text 57 = .ok (.ireturn, 1) := by decide +kernel
theorem dX11_text_58 : decode cX11_text 58 = .ok (.aload_n 0, 1) := by decide +kernel
theorem dX11_text_59 : decode cX11_text 59 = .ok (.invokevirtual 133, 3) := by decide +kernel
theorem dX11_text_62 : decode cX11_text 62 = .ok (.ireturn, 1) := by decide +kernel
theorem dX11_beginGreen_0 : decode cX11_beginGreen 0 = .ok (.aload_n 0, 1) := by decide +kernel
theorem dX11_beginGreen_1 : decode cX11_beginGreen 1 = .ok (.getfield 42, 3) := by decide +kernel
theorem dX11_beginGreen_4 : decode cX11_beginGreen 4 = .ok (.aload_n 0, 1) := by decide +kernel
theorem dX11_beginGreen_5 : decode cX11_beginGreen 5 = .ok (.getfield 21, 3) := by decide +kernel
theorem dX11_beginGreen_8 : decode cX11_beginGreen 8 = .ok (.getfield 136, 3) := by decide +kernel
theorem dX11_beginGreen_11 : decode cX11_beginGreen 11 = .ok (.invokevirtual 139, 3) := by decide +kernel
theorem dX11_beginGreen_14 : decode cX11_beginGreen 14 = .ok (.aload_n 0, 1) := by decide +kernel
theorem dX11_beginGreen_15 : decode cX11_beginGreen 15 = .ok (.getfield 10, 3) := by decide +kernel
theorem dX11_beginGreen_18 : decode cX11_beginGreen 18 = .ok (.iconst 0, 1) := by decide +kernel
theorem dX11_beginGreen_19 : decode cX11_beginGreen 19 = .ok (.putfield 106, 3) := by decide +kernel
theorem dX11_beginGreen_22 : decode cX11_beginGreen 22 = .ok (.aload_n 0, 1) := by decide +kernel
theorem dX11_beginGreen_23 : decode cX11_beginGreen 23 = .ok (.getfield 49, 3) := by decide +kernel
theorem dX11_beginGreen_26 : decode cX11_beginGreen 26 = .ok (.aload_n 0, 1) := by decide +kernel
theorem dX11_beginGreen_27 : decode cX11_beginGreen 27 = .ok (.getfield 42, 3) := by decide +kernel
theorem dX11_beginGreen_30 : decode cX11_beginGreen 30 = .ok (.invokevirtual 143, 3) := by decide +kernel
theorem dX11_beginGreen_33 : decode cX11_beginGreen 33 = .ok (.aload_n 0, 1) := by decide +kernel
theorem dX11_beginGreen_34 : decode cX11_beginGreen 34 = .ok (.getfield 53, 3) := by decide +kernel
theorem dX11_beginGreen_37 : decode cX11_beginGreen 37 = .ok (.iconst 0, 1) := by decide +kernel
theorem dX11_beginGreen_38 : decode cX11_beginGreen 38 = .ok (.putfield 146, 3) := by decide +kernel
theorem dX11_beginGreen_41 : decode cX11_beginGreen 41 = .ok (.aload_n 0, 1) := by decide +kernel
theorem dX11_beginGreen_42 : decode cX11_beginGreen 42 = .ok (.getfield 59, 3) := by decide +kernel
theorem dX11_beginGreen_45 : decode cX11_beginGreen 45 = .ok (.invokevirtual 149, 3) := by decide +kernel
theorem dX11_beginGreen_48 : decode cX11_beginGreen 48 = .ok (.aload_n 0, 1) := by decide +kernel
theorem dX11_beginGreen_49 : decode cX11_beginGreen 49 = .ok (.iconst 0, 1) := by decide +kernel
theorem dX11_beginGreen_50 : decode cX11_beginGreen 50 = .ok (.putfield 152, 3) := by decide +kernel
theorem dX11_beginGreen_53 : decode cX11_beginGreen 53 = .ok (.aload_n 0, 1) := by decide +kernel
theorem dX11_beginGreen_54 : decode cX11_beginGreen 54 = .ok (.getfield 42, 3) := by decide +kernel
theorem dX11_beginGreen_57 : decode cX11_beginGreen 57 = .ok (.getfield 155, 3) := by decide +kernel
theorem dX11_beginGreen_60 : decode cX11_beginGreen 60 = .ok (.ireturn, 1) := by decide +kernel
theorem dX11_addLaw_0 : decode cX11_addLaw 0 = .ok (.aload_n 0, 1) := by decide +kernel
theorem dX11_addLaw_1 : decode cX11_addLaw 1 = .ok (.getfield 158, 3) := by decide +kernel
theorem dX11_addLaw_4 : decode cX11_addLaw 4 = .ok (.iconst 4, 1) := by decide +kernel
theorem dX11_addLaw_5 : decode cX11_addLaw 5 = .ok (.if_icmp .lt 5, 3) := by decide +kernel
theorem dX11_addLaw_8 : decode cX11_addLaw 8 = .ok (.iconst (-1), 1) := by decide +kernel
theorem dX11_addLaw_9 : decode cX11_addLaw 9 = .ok (.ireturn, 1) := by decide +kernel
theorem dX11_addLaw_10 : decode cX11_addLaw 10 = .ok (.aload_n 0, 1) := by decide +kernel
theorem dX11_addLaw_11 : decode cX11_addLaw 11 = .ok (.getfield 65, 3) := by decide +kernel
theorem dX11_addLaw_14 : decode cX11_addLaw 14 = .ok (.aload_n 0, 1) := by decide +kernel
theorem dX11_addLaw_15 : decode cX11_addLaw 15 = .ok (.getfield 158, 3) := by decide +kernel
theorem dX11_addLaw_18 : decode cX11_addLaw 18 = .ok (.aaload, 1) := by decide +kernel
theorem dX11_addLaw_19 : decode cX11_addLaw 19 = .ok (.aload_n 0, 1) := by decide +kernel
theorem dX11_addLaw_20 : decode cX11_addLaw 20 = .ok (.getfield 28, 3) := by decide +kernel
theorem dX11_addLaw_23 : decode cX11_addLaw 23 = .ok (.getfield 161, 3) := by decide +kernel
theorem dX11_addLaw_26 : decode cX11_addLaw 26 = .ok (.invokevirtual 164, 3) := by decide +kernel
theorem dX11_addLaw_29 : decode cX11_addLaw 29 = .ok (.aload_n 0, 1) := by decide +kernel
theorem dX11_addLaw_30 : decode cX11_addLaw 30 = .ok (.getfield 10, 3) := by decide +kernel
theorem dX11_addLaw_33 : decode cX11_addLaw 33 = .ok (.iconst 0, 1) := by decide +kernel
theorem dX11_addLaw_34 : decode cX11_addLaw 34 = .ok (.putfield 106, 3) := by decide +kernel
theorem dX11_addLaw_37 : decode cX11_addLaw 37 = .ok (.aload_n 0, 1) := by decide +kernel
theorem dX11_addLaw_38 : decode cX11_addLaw 38 = .ok (.dup, 1) := by decide +kernel
theorem dX11_addLaw_39 : decode cX11_addLaw 39 = .ok (.getfield 158, 3) := by decide +kernel
theorem dX11_addLaw_42 : decode cX11_addLaw 42 = .ok (.iconst 1, 1) := by decide +kernel
theorem dX11_addLaw_43 : decode cX11_addLaw 43 = .ok (.iadd, 1) := by decide +kernel
theorem dX11_addLaw_44 : decode cX11_addLaw 44 = .ok (.putfield 158, 3) := by decide +kernel
theorem dX11_addLaw_47 : decode cX11_addLaw 47 = .ok (.aload_n 0, 1) := by decide +kernel
theorem dX11_addLaw_48 : decode cX11_addLaw 48 = .ok (.getfield 158, 3) := by decide +kernel
theorem dX11_addLaw_51 : decode cX11_addLaw 51 = .ok (.iconst 1, 1) := by decide +kernel
theorem dX11_addLaw_52 : decode cX11_addLaw 52 = .ok (.isub, 1) := by decide +kernel
theorem dX11_addLaw_53 : decode cX11_addLaw 53 = .ok (.ireturn, 1) := by decide +kernel
theorem dX11_addFigure_0 : decode cX11_addFigure 0 = .ok (.aload_n 0, 1) := by decide +kernel
theorem dX11_addFigure_1 : decode cX11_addFigure 1 = .ok (.getfield 167, 3) := by decide +kernel
theorem dX11_addFigure_4 : decode cX11_addFigure 4 = .ok (.bipush 6, 2) := by decide +kernel
theorem dX11_addFigure_6 : decode cX11_addFigure 6 = .ok (.if_icmp .lt 5, 3) := by decide +kernel
theorem dX11_addFigure_9 : decode cX11_addFigure 9 = .ok (.iconst (-1), 1) := by decide +kernel
theorem dX11_addFigure_10 : decode cX11_addFigure 10 = .ok (.ireturn, 1) := by decide +kernel
theorem dX11_addFigure_11 : decode cX11_addFigure 11 = .ok (.aload_n 0, 1) := by decide +kernel
theorem dX11_addFigure_12 : decode cX11_addFigure 12 = .ok (.getfield 75, 3) := by decide +kernel
theorem dX11_addFigure_15 : decode cX11_addFigure 15 = .ok (.aload_n 0, 1) := by decide +kernel
theorem dX11_addFigure_16 : decode cX11_addFigure 16 = .ok (.getfield 167, 3) := by decide +kernel
theorem dX11_addFigure_19 : decode cX11_addFigure 19 = .ok (.aaload, 1) := by decide +kernel
theorem dX11_addFigure_20 : decode cX11_addFigure 20 = .ok (.aload_n 0, 1) := by decide +kernel
theorem dX11_addFigure_21 : decode cX11_addFigure 21 = .ok (.getfield 35, 3) := by decide +kernel
theorem dX11_addFigure_24 : decode cX11_addFigure 24 = .ok (.getfield 170, 3) := by decide +kernel
theorem dX11_addFigure_27 : decode cX11_addFigure 27 = .ok (.invokevirtual 173, 3) := by decide +kernel
theorem dX11_addFigure_30 : decode cX11_addFigure 30 = .ok (.aload_n 0, 1) := by decide +kernel
theorem dX11_addFigure_31 : decode cX11_addFigure 31 = .ok (.getfield 10, 3) := by decide +kernel
theorem dX11_addFigure_34 : decode cX11_addFigure 34 = .ok (.iconst 0, 1) := by decide +kernel
theorem dX11_addFigure_35 : decode cX11_addFigure 35 = .ok (.putfield 106, 3) := by decide +kernel
theorem dX11_addFigure_38 : decode cX11_addFigure 38 = .ok (.aload_n 0, 1) := by decide +kernel
theorem dX11_addFigure_39 : decode cX11_addFigure 39 = .ok (.dup, 1) := by decide +kernel
theorem dX11_addFigure_40 : decode cX11_addFigure 40 = .ok (.getfield 167, 3) := by decide +kernel
theorem dX11_addFigure_43 : decode cX11_addFigure 43 = .ok (.iconst 1, 1) := by decide +kernel
theorem dX11_addFigure_44 : decode cX11_addFigure 44 = .ok (.iadd, 1) := by decide +kernel
theorem dX11_addFigure_45 : decode cX11_addFigure 45 = .ok (.putfield 167, 3) := by decide +kernel
theorem dX11_addFigure_48 : decode cX11_addFigure 48 = .ok (.aload_n 0, 1) := by decide +kernel
theorem dX11_addFigure_49 : decode cX11_addFigure 49 = .ok (.getfield 167, 3) := by decide +kernel
theorem dX11_addFigure_52 : decode cX11_addFigure 52 = .ok (.iconst 1, 1) := by decide +kernel
theorem dX11_addFigure_53 : decode cX11_addFigure 53 = .ok (.isub, 1) := by decide +kernel
theorem dX11_addFigure_54 : decode cX11_addFigure 54 = .ok (.ireturn, 1) := by decide +kernel
theorem dX11_hasGreen_0 : decode cX11_hasGreen 0 = .ok (.aload_n 0, 1) := by decide +kernel
theorem dX11_hasGreen_1 : decode cX11_hasGreen 1 = .ok (.getfield 42, 3) := by decide +kernel
theorem dX11_hasGreen_4 : decode cX11_hasGreen 4 = .ok (.getfield 155, 3) := by decide +kernel
theorem dX11_hasGreen_7 : decode cX11_hasGreen 7 = .ok (.ifCond .le 7, 3) := by decide +kernel
theorem dX11_hasGreen_10 : decode cX11_hasGreen 10 = .ok (.iconst 1, 1) := by decide +kernel
theorem dX11_hasGreen_11 : decode cX11_hasGreen 11 = .ok (.goto 4, 3) := by decide +kernel
theorem dX11_hasGreen_14 : decode cX11_hasGreen 14 = .ok (.iconst 0, 1) := by decide +kernel
theorem dX11_hasGreen_15 : decode cX11_hasGreen 15 = .ok (.ireturn, 1) := by decide +kernel
theorem dX11_isDancer_0 : decode cX11_isDancer 0 = .ok (.iload_n 1, 1) := by decide +kernel
theorem dX11_isDancer_1 : decode cX11_isDancer 1 = .ok (.ifCond .lt 18, 3) := by decide +kernel
theorem dX11_isDancer_4 : decode cX11_isDancer 4 = .ok (.iload_n 1, 1) := by decide +kernel
theorem dX11_isDancer_5 : decode cX11_isDancer 5 = .ok (.aload_n 0, 1) := by decide +kernel
theorem dX11_isDancer_6 : decode cX11_isDancer 6 = .ok (.getfield 42, 3) := by decide +kernel
theorem dX11_isDancer_9 : decode cX11_isDancer 9 = .ok (.getfield 155, 3) := by decide +kernel
theorem dX11_isDancer_12 : decode cX11_isDancer 12 = .ok (.if_icmp .ge 7, 3) := by decide +kernel
theorem dX11_isDancer_15 : decode cX11_isDancer 15 = .ok (.iconst 1, 1) := by decide +kernel
theorem dX11_isDancer_16 : decode cX11_isDancer 16 = .ok (.goto 4, 3) := by decide +kernel
theorem dX11_isDancer_19 : decode cX11_isDancer 19 = .ok (.iconst 0, 1) := by decide +kernel
theorem dX11_isDancer_20 : decode cX11_isDancer 20 = .ok (.ireturn, 1) := by decide +kernel
theorem dX11_isFigure_0 : decode cX11_isFigure 0 = .ok (.iload_n 1, 1) := by decide +kernel
theorem dX11_isFigure_1 : decode cX11_isFigure 1 = .ok (.ifCond .lt 15, 3) := by decide +kernel
theorem dX11_isFigure_4 : decode cX11_isFigure 4 = .ok (.iload_n 1, 1) := by decide +kernel
theorem dX11_isFigure_5 : decode cX11_isFigure 5 = .ok (.aload_n 0, 1) := by decide +kernel
theorem dX11_isFigure_6 : decode cX11_isFigure 6 = .ok (.getfield 167, 3) := by decide +kernel
theorem dX11_isFigure_9 : decode cX11_isFigure 9 = .ok (.if_icmp .ge 7, 3) := by decide +kernel
theorem dX11_isFigure_12 : decode cX11_isFigure 12 = .ok (.iconst 1, 1) := by decide +kernel
theorem dX11_isFigure_13 : decode cX11_isFigure 13 = .ok (.goto 4, 3) := by decide +kernel
theorem dX11_isFigure_16 : decode cX11_isFigure 16 = .ok (.iconst 0, 1) := by decide +kernel
theorem dX11_isFigure_17 : decode cX11_isFigure 17 = .ok (.ireturn, 1) := by decide +kernel
theorem dX11_rule_0 : decode cX11_rule 0 = .ok (.aload_n 0, 1) := by decide +kernel
theorem dX11_rule_1 : decode cX11_rule 1 = .ok (.invokevirtual 176, 3) := by decide +kernel
theorem dX11_rule_4 : decode cX11_rule 4 = .ok (.ifCond .ne 5, 3) := by decide +kernel
theorem dX11_rule_7 : decode cX11_rule 7 = .ok (.iconst (-1), 1) := by decide +kernel
theorem dX11_rule_8 : decode cX11_rule 8 = .ok (.ireturn, 1) := by decide +kernel
theorem dX11_rule_9 : decode cX11_rule 9 = .ok (.iload_n 1, 1) := by decide +kernel
theorem dX11_rule_10 : decode cX11_rule 10 = .ok (.tableswitch 50 0 2 #[26, 34, 42], 26) := by decide +kernel
theorem dX11_rule_36 : decode cX11_rule 36 = .ok (.aload_n 0, 1) := by decide +kernel
theorem dX11_rule_37 : decode cX11_rule 37 = .ok (.getfield 42, 3) := by decide +kernel
theorem dX11_rule_40 : decode cX11_rule 40 = .ok (.invokevirtual 179, 3) := by decide +kernel
theorem dX11_rule_43 : decode cX11_rule 43 = .ok (.ireturn, 1) := by decide +kernel
theorem dX11_rule_44 : decode cX11_rule 44 = .ok (.aload_n 0, 1) := by decide +kernel
theorem dX11_rule_45 : decode cX11_rule 45 = .ok (.getfield 49, 3) := by decide +kernel
theorem dX11_rule_48 : decode cX11_rule 48 = .ok (.getfield 182, 3) := by decide +kernel
theorem dX11_rule_51 : decode cX11_rule 51 = .ok (.ireturn, 1) := by decide +kernel
theorem dX11_rule_52 : decode cX11_rule 52 = .ok (.aload_n 0, 1) := by decide +kernel
theorem dX11_rule_53 : decode cX11_rule 53 = .ok (.getfield 42, 3) := by decide +kernel
theorem dX11_rule_56 : decode cX11_rule 56 = .ok (.invokevirtual 185, 3) := by decide +kernel
theorem dX11_rule_59 : decode cX11_rule 59 = .ok (.ireturn, 1) := by decide +kernel
theorem dX11_rule_60 : decode cX11_rule 60 = .ok (.iconst (-1), 1) := by decide +kernel
theorem dX11_rule_61 : decode cX11_rule 61 = .ok (.ireturn, 1) := by decide +kernel
theorem dX11_dancer_0 : decode cX11_dancer 0 = .ok (.aload_n 0, 1) := by decide +kernel
theorem dX11_dancer_1 : decode cX11_dancer 1 = .ok (.iload_n 1, 1) := by decide +kernel
theorem dX11_dancer_2 : decode cX11_dancer 2 = .ok (.invokevirtual 188, 3) := by decide +kernel
theorem dX11_dancer_5 : decode cX11_dancer 5 = .ok (.ifCond .eq 12, 3) := by decide +kernel
theorem dX11_dancer_8 : decode cX11_dancer 8 = .ok (.iload_n 2, 1) := by decide +kernel
theorem dX11_dancer_9 : decode cX11_dancer 9 = .ok (.ifCond .lt 8, 3) := by decide +kernel
theorem dX11_dancer_12 : decode cX11_dancer 12 = .ok (.iload_n 2, 1) := by decide +kernel
theorem dX11_dancer_13 : decode cX11_dancer 13 = .ok (.iconst 5, 1) := by decide +kernel
theorem dX11_dancer_14 : decode cX11_dancer 14 = .ok (.if_icmp .le 11, 3) := by decide +kernel
theorem dX11_dancer_17 : decode cX11_dancer 17 = .ok (.new 192, 3) := by decide +kernel
theorem dX11_dancer_20 : decode cX11_dancer 20 = .ok (.dup, 1) := by decide +kernel
theorem dX11_dancer_21 : decode cX11_dancer 21 = .ok (.invokespecial 194, 3) := by decide +kernel
theorem dX11_dancer_24 : decode cX11_dancer 24 = .ok (.athrow, 1) := by decide +kernel
theorem dX11_dancer_25 : decode cX11_dancer 25 = .ok (.iload_n 2, 1) := by decide +kernel
theorem dX11_dancer_26 : decode cX11_dancer 26 = .ok (.tableswitch 82 0 4 #[34, 44, 54, 64, 73], 34) := by decide +kernel
theorem dX11_dancer_60 : decode cX11_dancer 60 = .ok (.aload_n 0, 1) := by decide +kernel
theorem dX11_dancer_61 : decode cX11_dancer 61 = .ok (.getfield 42, 3) := by decide +kernel
theorem dX11_dancer_64 : decode cX11_dancer 64 = .ok (.iload_n 1, 1) := by decide +kernel
theorem dX11_dancer_65 : decode cX11_dancer 65 = .ok (.iconst 0, 1) := by decide +kernel
theorem dX11_dancer_66 : decode cX11_dancer 66 = .ok (.invokevirtual 195, 3) := by decide +kernel
theorem dX11_dancer_69 : decode cX11_dancer 69 = .ok (.ireturn, 1) := by decide +kernel
theorem dX11_dancer_70 : decode cX11_dancer 70 = .ok (.aload_n 0, 1) := by decide +kernel
theorem dX11_dancer_71 : decode cX11_dancer 71 = .ok (.getfield 49, 3) := by decide +kernel
theorem dX11_dancer_74 : decode cX11_dancer 74 = .ok (.getfield 199, 3) := by decide +kernel
theorem dX11_dancer_77 : decode cX11_dancer 77 = .ok (.iload_n 1, 1) := by decide +kernel
theorem dX11_dancer_78 : decode cX11_dancer 78 = .ok (.iaload, 1) := by decide +kernel
theorem dX11_dancer_79 : decode cX11_dancer 79 = .ok (.ireturn, 1) := by decide +kernel
theorem dX11_dancer_80 : decode cX11_dancer 80 = .ok (.aload_n 0, 1) := by decide +kernel
theorem dX11_dancer_81 : decode cX11_dancer 81 = .ok (.getfield 42, 3) := by decide +kernel
theorem dX11_dancer_84 : decode cX11_dancer 84 = .ok (.iload_n 1, 1) := by decide +kernel
theorem dX11_dancer_85 : decode cX11_dancer 85 = .ok (.iconst 2, 1) := by decide +kernel
theorem dX11_dancer_86 : decode cX11_dancer 86 = .ok (.invokevirtual 195, 3) := by decide +kernel
theorem dX11_dancer_89 : decode cX11_dancer 89 = .ok (.ireturn, 1) := by decide +kernel
theorem dX11_dancer_90 : decode cX11_dancer 90 = .ok (.aload_n 0, 1) := by decide +kernel
theorem dX11_dancer_91 : decode cX11_dancer 91 = .ok (.getfield 49, 3) := by decide +kernel
theorem dX11_dancer_94 : decode cX11_dancer 94 = .ok (.iload_n 1, 1) := by decide +kernel
theorem dX11_dancer_95 : decode cX11_dancer 95 = .ok (.invokevirtual 202, 3) := by decide +kernel
theorem dX11_dancer_98 : decode cX11_dancer 98 = .ok (.ireturn, 1) := by decide +kernel
theorem dX11_dancer_99 : decode cX11_dancer 99 = .ok (.aload_n 0, 1) := by decide +kernel
theorem dX11_dancer_100 : decode cX11_dancer 100 = .ok (.getfield 49, 3) := by decide +kernel
theorem dX11_dancer_103 : decode cX11_dancer 103 = .ok (.iload_n 1, 1) := by decide +kernel
theorem dX11_dancer_104 : decode cX11_dancer 104 = .ok (.invokevirtual 205, 3) := by decide +kernel
theorem dX11_dancer_107 : decode cX11_dancer 107 = .ok (.ireturn, 1) := by decide +kernel
theorem dX11_dancer_108 : decode cX11_dancer 108 = .ok (.aload_n 0, 1) := by decide +kernel
theorem dX11_dancer_109 : decode cX11_dancer 109 = .ok (.getfield 49, 3) := by decide +kernel
theorem dX11_dancer_112 : decode cX11_dancer 112 = .ok (.iload_n 1, 1) := by decide +kernel
theorem dX11_dancer_113 : decode cX11_dancer 113 = .ok (.invokevirtual 208, 3) := by decide +kernel
theorem dX11_dancer_116 : decode cX11_dancer 116 = .ok (.ireturn, 1) := by decide +kernel
theorem dX11_stands_0 : decode cX11_stands 0 = .ok (.aload_n 0, 1) := by decide +kernel
theorem dX11_stands_1 : decode cX11_stands 1 = .ok (.getfield 49, 3) := by decide +kernel
theorem dX11_stands_4 : decode cX11_stands 4 = .ok (.iload_n 1, 1) := by decide +kernel
theorem dX11_stands_5 : decode cX11_stands 5 = .ok (.invokevirtual 211, 3) := by decide +kernel
theorem dX11_stands_8 : decode cX11_stands 8 = .ok (.ifCond .eq 15, 3) := by decide +kernel
theorem dX11_stands_11 : decode cX11_stands 11 = .ok (.aload_n 0, 1) := by decide +kernel
theorem dX11_stands_12 : decode cX11_stands 12 = .ok (.getfield 49, 3) := by decide +kernel
theorem dX11_stands_15 : decode cX11_stands 15 = .ok (.getfield 214, 3) := by decide +kernel
theorem dX11_stands_18 : decode cX11_stands 18 = .ok (.iload_n 1, 1) := by decide +kernel
theorem dX11_stands_19 : decode cX11_stands 19 = .ok (.iaload, 1) := by decide +kernel
theorem dX11_stands_20 : decode cX11_stands 20 = .ok (.goto 4, 3) := by decide +kernel
theorem dX11_stands_23 : decode cX11_stands 23 = .ok (.iconst (-1), 1) := by decide +kernel
theorem dX11_stands_24 : decode cX11_stands 24 = .ok (.ireturn, 1) := by decide +kernel
theorem dX11_law_0 : decode cX11_law 0 = .ok (.iload_n 1, 1) := by decide +kernel
theorem dX11_law_1 : decode cX11_law 1 = .ok (.iconst (-1), 1) := by decide +kernel
theorem dX11_law_2 : decode cX11_law 2 = .ok (.if_icmp .lt 11, 3) := by decide +kernel
theorem dX11_law_5 : decode cX11_law 5 = .ok (.iload_n 1, 1) := by decide +kernel
theorem dX11_law_6 : decode cX11_law 6 = .ok (.aload_n 0, 1) := by decide +kernel
theorem dX11_law_7 : decode cX11_law 7 = .ok (.getfield 158, 3) := by decide +kernel
theorem dX11_law_10 : decode cX11_law 10 = .ok (.if_icmp .lt 5, 3) := by decide +kernel
theorem dX11_law_13 : decode cX11_law 13 = .ok (.iconst 0, 1) := by decide +kernel
theorem dX11_law_14 : decode cX11_law 14 = .ok (.ireturn, 1) := by decide +kernel
theorem dX11_law_15 : decode cX11_law 15 = .ok (.aload_n 0, 1) := by decide +kernel
theorem dX11_law_16 : decode cX11_law 16 = .ok (.iload_n 1, 1) := by decide +kernel
theorem dX11_law_17 : decode cX11_law 17 = .ok (.putfield 69, 3) := by decide +kernel
theorem dX11_law_20 : decode cX11_law 20 = .ok (.iconst 1, 1) := by decide +kernel
theorem dX11_law_21 : decode cX11_law 21 = .ok (.ireturn, 1) := by decide +kernel
theorem dX11_step_0 : decode cX11_step 0 = .ok (.aload_n 0, 1) := by decide +kernel
theorem dX11_step_1 : decode cX11_step 1 = .ok (.iload_n 1, 1) := by decide +kernel
theorem dX11_step_2 : decode cX11_step 2 = .ok (.invokevirtual 217, 3) := by decide +kernel
theorem dX11_step_5 : decode cX11_step 5 = .ok (.ifCond .ne 5, 3) := by decide +kernel
theorem dX11_step_8 : decode cX11_step 8 = .ok (.iconst (-1), 1) := by decide +kernel
theorem dX11_step_9 : decode cX11_step 9 = .ok (.ireturn, 1) := by decide +kernel
theorem dX11_step_10 : decode cX11_step 10 = .ok (.aload_n 0, 1) := by decide +kernel
theorem dX11_step_11 : decode cX11_step 11 = .ok (.getfield 75, 3) := by decide +kernel
theorem dX11_step_14 : decode cX11_step 14 = .ok (.iload_n 1, 1) := by decide +kernel
theorem dX11_step_15 : decode cX11_step 15 = .ok (.aaload, 1) := by decide +kernel
theorem dX11_step_16 : decode cX11_step 16 = .ok (.astore_n 3, 1) := by decide +kernel
theorem dX11_step_17 : decode cX11_step 17 = .ok (.iload_n 2, 1) := by decide +kernel
theorem dX11_step_18 : decode cX11_step 18 = .ok (.iconst (-1), 1) := by decide +kernel
theorem dX11_step_19 : decode cX11_step 19 = .ok (.if_icmp .ne 10, 3) := by decide +kernel
theorem dX11_step_22 : decode cX11_step 22 = .ok (.aload_n 3, 1) := by decide +kernel
theorem dX11_step_23 : decode cX11_step 23 = .ok (.getfield 220, 3) := by decide +kernel
theorem dX11_step_26 : decode cX11_step 26 = .ok (.goto 8, 3) := by decide +kernel
theorem dX11_step_29 : decode cX11_step 29 = .ok (.aload_n 3, 1) := by decide +kernel
theorem dX11_step_30 : decode cX11_step 30 = .ok (.iload_n 2, 1) := by decide +kernel
theorem dX11_step_31 : decode cX11_step 31 = .ok (.invokevirtual 221, 3) := by decide +kernel
theorem dX11_step_34 : decode cX11_step 34 = .ok (.ireturn, 1) := by decide +kernel
theorem dX11_plait_0 : decode cX11_plait 0 = .ok (.iload_n 1, 1) := by decide +kernel
theorem dX11_plait_1 : decode cX11_plait 1 = .ok (.ifCond .lt 14, 3) := by decide +kernel
theorem dX11_plait_4 : decode cX11_plait 4 = .ok (.iload_n 1, 1) := by decide +kernel
theorem dX11_plait_5 : decode cX11_plait 5 = .ok (.aload_n 0, 1) := by decide +kernel
theorem dX11_plait_6 : decode cX11_plait 6 = .ok (.getfield 49, 3) := by decide +kernel
theorem dX11_plait_9 : decode cX11_plait 9 = .ok (.getfield 224, 3) := by decide +kernel
theorem dX11_plait_12 : decode cX11_plait 12 = .ok (.if_icmp .lt 5, 3) := by decide +kernel
theorem dX11_plait_15 : decode cX11_plait 15 = .ok (.iconst (-1), 1) := by decide +kernel
theorem dX11_plait_16 : decode cX11_plait 16 = .ok (.ireturn, 1) := by decide +kernel
theorem dX11_plait_17 : decode cX11_plait 17 = .ok (.aload_n 0, 1) := by decide +kernel
theorem dX11_plait_18 : decode cX11_plait 18 = .ok (.getfield 49, 3) := by decide +kernel
theorem dX11_plait_21 : decode cX11_plait 21 = .ok (.aload_n 0, 1) := by decide +kernel
theorem dX11_plait_22 : decode cX11_plait 22 = .ok (.getfield 90, 3) := by decide +kernel
theorem dX11_plait_25 : decode cX11_plait 25 = .ok (.invokevirtual 225, 3) := by decide +kernel
theorem dX11_plait_28 : decode cX11_plait 28 = .ok (.iload_n 2, 1) := by decide +kernel
theorem dX11_plait_29 : decode cX11_plait 29 = .ok (.tableswitch 85 0 4 #[35, 45, 55, 65, 75], 35) := by decide +kernel
theorem dX11_plait_64 : decode cX11_plait 64 = .ok (.aload_n 0, 1) := by decide +kernel
theorem dX11_plait_65 : decode cX11_plait 65 = .ok (.getfield 90, 3) := by decide +kernel
theorem dX11_plait_68 : decode cX11_plait 68 = .ok (.iload_n 1, 1) := by decide +kernel
theorem dX11_plait_69 : decode cX11_plait 69 = .ok (.iaload, 1) := by decide +kernel
theorem dX11_plait_70 : decode cX11_plait 70 = .ok (.invokestatic 229, 3) := by decide +kernel
theorem dX11_plait_73 : decode cX11_plait 73 = .ok (.ireturn, 1) := by decide +kernel
theorem dX11_plait_74 : decode cX11_plait 74 = .ok (.aload_n 0, 1) := by decide +kernel
theorem dX11_plait_75 : decode cX11_plait 75 = .ok (.getfield 90, 3) := by decide +kernel
theorem dX11_plait_78 : decode cX11_plait 78 = .ok (.iload_n 1, 1) := by decide +kernel
theorem dX11_plait_79 : decode cX11_plait 79 = .ok (.iaload, 1) := by decide +kernel
theorem dX11_plait_80 : decode cX11_plait 80 = .ok (.invokestatic 232, 3) := by decide +kernel
theorem dX11_plait_83 : decode cX11_plait 83 = .ok (.ireturn, 1) := by decide +kernel
theorem dX11_plait_84 : decode cX11_plait 84 = .ok (.aload_n 0, 1) := by decide +kernel
theorem dX11_plait_85 : decode cX11_plait 85 = .ok (.getfield 90, 3) := by decide +kernel
theorem dX11_plait_88 : decode cX11_plait 88 = .ok (.iload_n 1, 1) := by decide +kernel
theorem dX11_plait_89 : decode cX11_plait 89 = .ok (.iaload, 1) := by decide +kernel
theorem dX11_plait_90 : decode cX11_plait 90 = .ok (.invokestatic 235, 3) := by decide +kernel
theorem dX11_plait_93 : decode cX11_plait 93 = .ok (.ireturn, 1) := by decide +kernel
theorem dX11_plait_94 : decode cX11_plait 94 = .ok (.aload_n 0, 1) := by decide +kernel
theorem dX11_plait_95 : decode cX11_plait 95 = .ok (.getfield 90, 3) := by decide +kernel
theorem dX11_plait_98 : decode cX11_plait 98 = .ok (.iload_n 1, 1) := by decide +kernel
theorem dX11_plait_99 : decode cX11_plait 99 = .ok (.iaload, 1) := by decide +kernel
theorem dX11_plait_100 : decode cX11_plait 100 = .ok (.invokestatic 238, 3) := by decide +kernel
theorem dX11_plait_103 : decode cX11_plait 103 = .ok (.ireturn, 1) := by decide +kernel
theorem dX11_plait_104 : decode cX11_plait 104 = .ok (.aload_n 0, 1) := by decide +kernel
theorem dX11_plait_105 : decode cX11_plait 105 = .ok (.getfield 90, 3) := by decide +kernel
theorem dX11_plait_108 : decode cX11_plait 108 = .ok (.iload_n 1, 1) := by decide +kernel
theorem dX11_plait_109 : decode cX11_plait 109 = .ok (.iaload, 1) := by decide +kernel
theorem dX11_plait_110 : decode cX11_plait 110 = .ok (.invokestatic 241, 3) := by decide +kernel
theorem dX11_plait_113 : decode cX11_plait 113 = .ok (.ireturn, 1) := by decide +kernel
theorem dX11_plait_114 : decode cX11_plait 114 = .ok (.iconst (-1), 1) := by decide +kernel
theorem dX11_plait_115 : decode cX11_plait 115 = .ok (.ireturn, 1) := by decide +kernel
theorem dX11_stripe_0 : decode cX11_stripe 0 = .ok (.iload_n 1, 1) := by decide +kernel
theorem dX11_stripe_1 : decode cX11_stripe 1 = .ok (.ifCond .lt 14, 3) := by decide +kernel
theorem dX11_stripe_4 : decode cX11_stripe 4 = .ok (.iload_n 1, 1) := by decide +kernel
theorem dX11_stripe_5 : decode cX11_stripe 5 = .ok (.aload_n 0, 1) := by decide +kernel
theorem dX11_stripe_6 : decode cX11_stripe 6 = .ok (.getfield 49, 3) := by decide +kernel
theorem dX11_stripe_9 : decode cX11_stripe 9 = .ok (.getfield 224, 3) := by decide +kernel
theorem dX11_stripe_12 : decode cX11_stripe 12 = .ok (.if_icmp .lt 5, 3) := by decide +kernel
theorem dX11_stripe_15 : decode cX11_stripe 15 = .ok (.iconst (-1), 1) := by decide +kernel
theorem dX11_stripe_16 : decode cX11_stripe 16 = .ok (.ireturn, 1) := by decide +kernel
theorem dX11_stripe_17 : decode cX11_stripe 17 = .ok (.aload_n 0, 1) := by decide +kernel
theorem dX11_stripe_18 : decode cX11_stripe 18 = .ok (.getfield 49, 3) := by decide +kernel
theorem dX11_stripe_21 : decode cX11_stripe 21 = .ok (.aload_n 0, 1) := by decide +kernel
theorem dX11_stripe_22 : decode cX11_stripe 22 = .ok (.getfield 90, 3) := by decide +kernel
theorem dX11_stripe_25 : decode cX11_stripe 25 = .ok (.invokevirtual 225, 3) := by decide +kernel
theorem dX11_stripe_28 : decode cX11_stripe 28 = .ok (.aload_n 0, 1) := by decide +kernel
theorem dX11_stripe_29 : decode cX11_stripe 29 = .ok (.getfield 42, 3) := by decide +kernel
theorem dX11_stripe_32 : decode cX11_stripe 32 = .ok (.aload_n 0, 1) := by decide +kernel
theorem dX11_stripe_33 : decode cX11_stripe 33 = .ok (.getfield 90, 3) := by decide +kernel
theorem dX11_stripe_36 : decode cX11_stripe 36 = .ok (.iload_n 1, 1) := by decide +kernel
theorem dX11_stripe_37 : decode cX11_stripe 37 = .ok (.iaload, 1) := by decide +kernel
theorem dX11_stripe_38 : decode cX11_stripe 38 = .ok (.invokestatic 232, 3) := by decide +kernel
theorem dX11_stripe_41 : decode cX11_stripe 41 = .ok (.iconst 0, 1) := by decide +kernel
theorem dX11_stripe_42 : decode cX11_stripe 42 = .ok (.invokevirtual 195, 3) := by decide +kernel
theorem dX11_stripe_45 : decode cX11_stripe 45 = .ok (.ireturn, 1) := by decide +kernel
theorem dX11_status_0 : decode cX11_status 0 = .ok (.iload_n 1, 1) := by decide +kernel
theorem dX11_status_1 : decode cX11_status 1 = .ok (.ifCond .lt 8, 3) := by decide +kernel
theorem dX11_status_4 : decode cX11_status 4 = .ok (.iload_n 1, 1) := by decide +kernel
theorem dX11_status_5 : decode cX11_status 5 = .ok (.iconst 5, 1) := by decide +kernel
theorem dX11_status_6 : decode cX11_status 6 = .ok (.if_icmp .lt 7, 3) := by decide +kernel
theorem dX11_status_9 : decode cX11_status 9 = .ok (.iconst (-1), 1) := by decide +kernel
theorem dX11_status_10 : decode cX11_status 10 = .ok (.goto 9, 3) := by decide +kernel
theorem dX11_status_13 : decode cX11_status 13 = .ok (.aload_n 0, 1) := by decide +kernel
theorem dX11_status_14 : decode cX11_status 14 = .ok (.getfield 79, 3) := by decide +kernel
theorem dX11_status_17 : decode cX11_status 17 = .ok (.iload_n 1, 1) := by decide +kernel
theorem dX11_status_18 : decode cX11_status 18 = .ok (.iaload, 1) := by decide +kernel
theorem dX11_status_19 : decode cX11_status 19 = .ok (.ireturn, 1) := by decide +kernel
theorem dX11_log_0 : decode cX11_log 0 = .ok (.iload_n 1, 1) := by decide +kernel
theorem dX11_log_1 : decode cX11_log 1 = .ok (.ifCond .lt 14, 3) := by decide +kernel
theorem dX11_log_4 : decode cX11_log 4 = .ok (.iload_n 1, 1) := by decide +kernel
theorem dX11_log_5 : decode cX11_log 5 = .ok (.aload_n 0, 1) := by decide +kernel
theorem dX11_log_6 : decode cX11_log 6 = .ok (.getfield 49, 3) := by decide +kernel
theorem dX11_log_9 : decode cX11_log 9 = .ok (.invokevirtual 244, 3) := by decide +kernel
theorem dX11_log_12 : decode cX11_log 12 = .ok (.if_icmp .lt 5, 3) := by decide +kernel
theorem dX11_log_15 : decode cX11_log 15 = .ok (.iconst (-1), 1) := by decide +kernel
theorem dX11_log_16 : decode cX11_log 16 = .ok (.ireturn, 1) := by decide +kernel
theorem dX11_log_17 : decode cX11_log 17 = .ok (.aload_n 0, 1) := by decide +kernel
theorem dX11_log_18 : decode cX11_log 18 = .ok (.getfield 49, 3) := by decide +kernel
theorem dX11_log_21 : decode cX11_log 21 = .ok (.iload_n 1, 1) := by decide +kernel
theorem dX11_log_22 : decode cX11_log 22 = .ok (.invokevirtual 247, 3) := by decide +kernel
theorem dX11_log_25 : decode cX11_log 25 = .ok (.istore_n 3, 1) := by decide +kernel
theorem dX11_log_26 : decode cX11_log 26 = .ok (.iload_n 2, 1) := by decide +kernel
theorem dX11_log_27 : decode cX11_log 27 = .ok (.tableswitch 41 0 2 #[25, 30, 36], 25) := by decide +kernel
theorem dX11_log_52 : decode cX11_log 52 = .ok (.iload_n 3, 1) := by decide +kernel
theorem dX11_log_53 : decode cX11_log 53 = .ok (.bipush 31, 2) := by decide +kernel
theorem dX11_log_55 : decode cX11_log 55 = .ok (.iand, 1) := by decide +kernel
theorem dX11_log_56 : decode cX11_log 56 = .ok (.ireturn, 1) := by decide +kernel
theorem dX11_log_57 : decode cX11_log 57 = .ok (.iload_n 3, 1) := by decide +kernel
theorem dX11_log_58 : decode cX11_log 58 = .ok (.iconst 5, 1) := by decide +kernel
theorem dX11_log_59 : decode cX11_log 59 = .ok (.ishr, 1) := by decide +kernel
theorem dX11_log_60 : decode cX11_log 60 = .ok (.iconst 1, 1) := by decide +kernel
theorem dX11_log_61 : decode cX11_log 61 = .ok (.iand, 1) := by decide +kernel
theorem dX11_log_62 : decode cX11_log 62 = .ok (.ireturn, 1) := by decide +kernel
theorem dX11_log_63 : decode cX11_log 63 = .ok (.iload_n 3, 1) := by decide +kernel
theorem dX11_log_64 : decode cX11_log 64 = .ok (.bipush 6, 2) := by decide +kernel
theorem dX11_log_66 : decode cX11_log 66 = .ok (.ishr, 1) := by decide +kernel
theorem dX11_log_67 : decode cX11_log 67 = .ok (.ireturn, 1) := by decide +kernel
theorem dX11_log_68 : decode cX11_log 68 = .ok (.iconst (-1), 1) := by decide +kernel
theorem dX11_log_69 : decode cX11_log 69 = .ok (.ireturn, 1) := by decide +kernel
theorem dX11_count_0 : decode cX11_count 0 = .ok (.iload_n 1, 1) := by decide +kernel
theorem dX11_count_1 : decode cX11_count 1 = .ok (.tableswitch 123 0 9 #[55, 63, 71, 76, 81, 89, 94, 102, 107, 115], 55) := by decide +kernel
theorem dX11_count_56 : decode cX11_count 56 = .ok (.aload_n 0, 1) := by decide +kernel
theorem dX11_count_57 : decode cX11_count 57 = .ok (.getfield 42, 3) := by decide +kernel
theorem dX11_count_60 : decode cX11_count 60 = .ok (.getfield 155, 3) := by decide +kernel
theorem dX11_count_63 : decode cX11_count 63 = .ok (.ireturn, 1) := by decide +kernel
theorem dX11_count_64 : decode cX11_count 64 = .ok (.aload_n 0, 1) := by decide +kernel
theorem dX11_count_65 : decode cX11_count 65 = .ok (.getfield 49, 3) := by decide +kernel
theorem dX11_count_68 : decode cX11_count 68 = .ok (.getfield 224, 3) := by decide +kernel
theorem dX11_count_71 : decode cX11_count 71 = .ok (.ireturn, 1) := by decide +kernel
theorem dX11_count_72 : decode cX11_count 72 = .ok (.aload_n 0, 1) := by decide +kernel
theorem dX11_count_73 : decode cX11_count 73 = .ok (.getfield 158, 3) := by decide +kernel
theorem dX11_count_76 : decode cX11_count 76 = .ok (.ireturn, 1) := by decide +kernel
theorem dX11_count_77 : decode cX11_count 77 = .ok (.aload_n 0, 1) := by decide +kernel
theorem dX11_count_78 : decode cX11_count 78 = .ok (.getfield 167, 3) := by decide +kernel
theorem dX11_count_81 : decode cX11_count 81 = .ok (.ireturn, 1) := by decide +kernel
theorem dX11_count_82 : decode cX11_count 82 = .ok (.aload_n 0, 1) := by decide +kernel
theorem dX11_count_83 : decode cX11_count 83 = .ok (.getfield 10, 3) := by decide +kernel
theorem dX11_count_86 : decode cX11_count 86 = .ok (.getfield 106, 3) := by decide +kernel
theorem dX11_count_89 : decode cX11_count 89 = .ok (.ireturn, 1) := by decide +kernel
theorem dX11_count_90 : decode cX11_count 90 = .ok (.aload_n 0, 1) := by decide +kernel
theorem dX11_count_91 : decode cX11_count 91 = .ok (.getfield 69, 3) := by decide +kernel
theorem dX11_count_94 : decode cX11_count 94 = .ok (.ireturn, 1) := by decide +kernel
theorem dX11_count_95 : decode cX11_count 95 = .ok (.aload_n 0, 1) := by decide +kernel
theorem dX11_count_96 : decode cX11_count 96 = .ok (.getfield 49, 3) := by decide +kernel
theorem dX11_count_99 : decode cX11_count 99 = .ok (.getfield 250, 3) := by decide +kernel
theorem dX11_count_102 : decode cX11_count 102 = .ok (.ireturn, 1) := by decide +kernel
theorem dX11_count_103 : decode cX11_count 103 = .ok (.aload_n 0, 1) := by decide +kernel
theorem dX11_count_104 : decode cX11_count 104 = .ok (.getfield 152, 3) := by decide +kernel
theorem dX11_count_107 : decode cX11_count 107 = .ok (.ireturn, 1) := by decide +kernel
theorem dX11_count_108 : decode cX11_count 108 = .ok (.aload_n 0, 1) := by decide +kernel
theorem dX11_count_109 : decode cX11_count 109 = .ok (.getfield 49, 3) := by decide +kernel
theorem dX11_count_112 : decode cX11_count 112 = .ok (.invokevirtual 244, 3) := by decide +kernel
theorem dX11_count_115 : decode cX11_count 115 = .ok (.ireturn, 1) := by decide +kernel
theorem dX11_count_116 : decode cX11_count 116 = .ok (.aload_n 0, 1) := by decide +kernel
theorem dX11_count_117 : decode cX11_count 117 = .ok (.getfield 59, 3) := by decide +kernel
theorem dX11_count_120 : decode cX11_count 120 = .ok (.getfield 253, 3) := by decide +kernel
theorem dX11_count_123 : decode cX11_count 123 = .ok (.ireturn, 1) := by decide +kernel
theorem dX11_count_124 : decode cX11_count 124 = .ok (.ldc 254, 2) := by decide +kernel
theorem dX11_count_126 : decode cX11_count 126 = .ok (.ireturn, 1) := by decide +kernel
theorem dX11_refuse_0 : decode cX11_refuse 0 = .ok (.iload_n 1, 1) := by decide +kernel
theorem dX11_refuse_1 : decode cX11_refuse 1 = .ok (.ifCond .lt 18, 3) := by decide +kernel
theorem dX11_refuse_4 : decode cX11_refuse 4 = .ok (.iload_n 1, 1) := by decide +kernel
theorem dX11_refuse_5 : decode cX11_refuse 5 = .ok (.iconst 5, 1) := by decide +kernel
theorem dX11_refuse_6 : decode cX11_refuse 6 = .ok (.if_icmp .ge 13, 3) := by decide +kernel
theorem dX11_refuse_9 : decode cX11_refuse 9 = .ok (.aload_n 0, 1) := by decide +kernel
theorem dX11_refuse_10 : decode cX11_refuse 10 = .ok (.getfield 79, 3) := by decide +kernel
theorem dX11_refuse_13 : decode cX11_refuse 13 = .ok (.iload_n 1, 1) := by decide +kernel
theorem dX11_refuse_14 : decode cX11_refuse 14 = .ok (.dup2, 1) := by decide +kernel
theorem dX11_refuse_15 : decode cX11_refuse 15 = .ok (.iaload, 1) := by decide +kernel
theorem dX11_refuse_16 : decode cX11_refuse 16 = .ok (.iconst 1, 1) := by decide +kernel
theorem dX11_refuse_17 : decode cX11_refuse 17 = .ok (.iadd, 1) := by decide +kernel
theorem dX11_refuse_18 : decode cX11_refuse 18 = .ok (.iastore, 1) := by decide +kernel
theorem dX11_refuse_19 : decode cX11_refuse 19 = .ok (.iconst (-1), 1) := by decide +kernel
theorem dX11_refuse_20 : decode cX11_refuse 20 = .ok (.ireturn, 1) := by decide +kernel
theorem dX11_priceOn_0 : decode cX11_priceOn 0 = .ok (.aload_n 0, 1) := by decide +kernel
theorem dX11_priceOn_1 : decode cX11_priceOn 1 = .ok (.getfield 69, 3) := by decide +kernel
theorem dX11_priceOn_4 : decode cX11_priceOn 4 = .ok (.ifCond .lt 14, 3) := by decide +kernel
theorem dX11_priceOn_7 : decode cX11_priceOn 7 = .ok (.aload_n 0, 1) := by decide +kernel
theorem dX11_priceOn_8 : decode cX11_priceOn 8 = .ok (.getfield 69, 3) := by decide +kernel
theorem dX11_priceOn_11 : decode cX11_priceOn 11 = .ok (.aload_n 0, 1) := by decide +kernel
theorem dX11_priceOn_12 : decode cX11_priceOn 12 = .ok (.getfield 158, 3) := by decide +kernel
theorem dX11_priceOn_15 : decode cX11_priceOn 15 = .ok (.if_icmp .lt 11, 3) := by decide +kernel
theorem dX11_priceOn_18 : decode cX11_priceOn 18 = .ok (.aload_n 0, 1) := by decide +kernel
theorem dX11_priceOn_19 : decode cX11_priceOn 19 = .ok (.getfield 42, 3) := by decide +kernel
theorem dX11_priceOn_22 : decode cX11_priceOn 22 = .ok (.invokevirtual 179, 3) := by decide +kernel
theorem dX11_priceOn_25 : decode cX11_priceOn 25 = .ok (.ireturn, 1) := by decide +kernel
theorem dX11_priceOn_26 : decode cX11_priceOn 26 = .ok (.aload_n 0, 1) := by decide +kernel
theorem dX11_priceOn_27 : decode cX11_priceOn 27 = .ok (.getfield 42, 3) := by decide +kernel
theorem dX11_priceOn_30 : decode cX11_priceOn 30 = .ok (.aload_n 1, 1) := by decide +kernel
theorem dX11_priceOn_31 : decode cX11_priceOn 31 = .ok (.iload_n 2, 1) := by decide +kernel
theorem dX11_priceOn_32 : decode cX11_priceOn 32 = .ok (.invokevirtual 255, 3) := by decide +kernel
theorem dX11_priceOn_35 : decode cX11_priceOn 35 = .ok (.iconst 2, 1) := by decide +kernel
theorem dX11_priceOn_36 : decode cX11_priceOn 36 = .ok (.invokevirtual 195, 3) := by decide +kernel
theorem dX11_priceOn_39 : decode cX11_priceOn 39 = .ok (.istore_n 3, 1) := by decide +kernel
theorem dX11_priceOn_40 : decode cX11_priceOn 40 = .ok (.aload_n 0, 1) := by decide +kernel
theorem dX11_priceOn_41 : decode cX11_priceOn 41 = .ok (.getfield 42, 3) := by decide +kernel
theorem dX11_priceOn_44 : decode cX11_priceOn 44 = .ok (.aload_n 1, 1) := by decide +kernel
theorem dX11_priceOn_45 : decode cX11_priceOn 45 = .ok (.iload_n 2, 1) := by decide +kernel
theorem dX11_priceOn_46 : decode cX11_priceOn 46 = .ok (.invokevirtual 258, 3) := by decide +kernel
theorem dX11_priceOn_49 : decode cX11_priceOn 49 = .ok (.iconst 2, 1) := by decide +kernel
theorem dX11_priceOn_50 : decode cX11_priceOn 50 = .ok (.invokevirtual 195, 3) := by decide +kernel
theorem dX11_priceOn_53 : decode cX11_priceOn 53 = .ok (.istore 4, 2) := by decide +kernel
theorem dX11_priceOn_55 : decode cX11_priceOn 55 = .ok (.aload_n 1, 1) := by decide +kernel
theorem dX11_priceOn_56 : decode cX11_priceOn 56 = .ok (.iload_n 2, 1) := by decide +kernel
theorem dX11_priceOn_57 : decode cX11_priceOn 57 = .ok (.iconst 1, 1) := by decide +kernel
theorem dX11_priceOn_58 : decode cX11_priceOn 58 = .ok (.ishr, 1) := by decide +kernel
theorem dX11_priceOn_59 : decode cX11_priceOn 59 = .ok (.invokevirtual 261, 3) := by decide +kernel
theorem dX11_priceOn_62 : decode cX11_priceOn 62 = .ok (.istore 5, 2) := by decide +kernel
theorem dX11_priceOn_64 : decode cX11_priceOn 64 = .ok (.aload_n 0, 1) := by decide +kernel
theorem dX11_priceOn_65 : decode cX11_priceOn 65 = .ok (.getfield 65, 3) := by decide +kernel
theorem dX11_priceOn_68 : decode cX11_priceOn 68 = .ok (.aload_n 0, 1) := by decide +kernel
theorem dX11_priceOn_69 : decode cX11_priceOn 69 = .ok (.getfield 69, 3) := by decide +kernel
theorem dX11_priceOn_72 : decode cX11_priceOn 72 = .ok (.aaload, 1) := by decide +kernel
theorem dX11_priceOn_73 : decode cX11_priceOn 73 = .ok (.aload_n 0, 1) := by decide +kernel
theorem dX11_priceOn_74 : decode cX11_priceOn 74 = .ok (.getfield 42, 3) := by decide +kernel
theorem dX11_priceOn_77 : decode cX11_priceOn 77 = .ok (.invokevirtual 179, 3) := by decide +kernel
theorem dX11_priceOn_80 : decode cX11_priceOn 80 = .ok (.iload_n 3, 1) := by decide +kernel
theorem dX11_priceOn_81 : decode cX11_priceOn 81 = .ok (.iload 4, 2) := by decide +kernel
theorem dX11_priceOn_83 : decode cX11_priceOn 83 = .ok (.aload_n 1, 1) := by decide +kernel
theorem dX11_priceOn_84 : decode cX11_priceOn 84 = .ok (.getfield 224, 3) := by decide +kernel
theorem dX11_priceOn_87 : decode cX11_priceOn 87 = .ok (.iload 5, 2) := by decide +kernel
theorem dX11_priceOn_89 : decode cX11_priceOn 89 = .ok (.aload_n 1, 1) := by decide +kernel
theorem dX11_priceOn_90 : decode cX11_priceOn 90 = .ok (.getfield 250, 3) := by decide +kernel
theorem dX11_priceOn_93 : decode cX11_priceOn 93 = .ok (.bipush 100, 2) := by decide +kernel
theorem dX11_priceOn_95 : decode cX11_priceOn 95 = .ok (.irem, 1) := by decide +kernel
theorem dX11_priceOn_96 : decode cX11_priceOn 96 = .ok (.invokevirtual 264, 3) := by decide +kernel
theorem dX11_priceOn_99 : decode cX11_priceOn 99 = .ok (.istore 6, 2) := by decide +kernel
theorem dX11_priceOn_101 : decode cX11_priceOn 101 = .ok (.iconst 1, 1) := by decide +kernel
theorem dX11_priceOn_102 : decode cX11_priceOn 102 = .ok (.bipush 9, 2) := by decide +kernel
theorem dX11_priceOn_104 : decode cX11_priceOn 104 = .ok (.iload 6, 2) := by decide +kernel
theorem dX11_priceOn_106 : decode cX11_priceOn 106 = .ok (.invokestatic 268, 3) := by decide +kernel
theorem dX11_priceOn_109 : decode cX11_priceOn 109 = .ok (.invokestatic 273, 3) := by decide +kernel
theorem dX11_priceOn_112 : decode cX11_priceOn 112 = .ok (.ireturn, 1) := by decide +kernel
theorem dX11_hindranceOf_0 : decode cX11_hindranceOf 0 = .ok (.aload_n 0, 1) := by decide +kernel
theorem dX11_hindranceOf_1 : decode cX11_hindranceOf 1 = .ok (.getfield 49, 3) := by decide +kernel
theorem dX11_hindranceOf_4 : decode cX11_hindranceOf 4 = .ok (.iload_n 1, 1) := by decide +kernel
theorem dX11_hindranceOf_5 : decode cX11_hindranceOf 5 = .ok (.invokevirtual 276, 3) := by decide +kernel
theorem dX11_hindranceOf_8 : decode cX11_hindranceOf 8 = .ok (.ifCond .lt 7, 3) := by decide +kernel
theorem dX11_hindranceOf_11 : decode cX11_hindranceOf 11 = .ok (.iconst 0, 1) := by decide +kernel
theorem dX11_hindranceOf_12 : decode cX11_hindranceOf 12 = .ok (.goto 20, 3) := by decide +kernel
theorem dX11_hindranceOf_15 : decode cX11_hindranceOf 15 = .ok (.aload_n 0, 1) := by decide +kernel
theorem dX11_hindranceOf_16 : decode cX11_hindranceOf 16 = .ok (.getfield 49, 3) := by decide +kernel
theorem dX11_hindranceOf_19 : decode cX11_hindranceOf 19 = .ok (.iload_n 1, 1) := by decide +kernel
theorem dX11_hindranceOf_20 : decode cX11_hindranceOf 20 = .ok (.aload_n 0, 1) := by decide +kernel
theorem dX11_hindranceOf_21 : decode cX11_hindranceOf 21 = .ok (.aload_n 0, 1) := by decide +kernel
theorem dX11_hindranceOf_22 : decode cX11_hindranceOf 22 = .ok (.getfield 49, 3) := by decide +kernel
theorem dX11_hindranceOf_25 : decode cX11_hindranceOf 25 = .ok (.iload_n 1, 1) := by decide +kernel
theorem dX11_hindranceOf_26 : decode cX11_hindranceOf 26 = .ok (.invokevirtual 279, 3) := by decide +kernel
theorem dX11_hindranceOf_29 : decode cX11_hindranceOf 29 = .ok (.invokevirtual 283, 3) := by decide +kernel
theorem dX11_hindranceOf_32 : decode cX11_hindranceOf 32 = .ok (.ireturn, 1) := by decide +kernel
theorem dX11_moveOn_0 : decode cX11_moveOn 0 = .ok (.aload_n 1, 1) := by decide +kernel
theorem dX11_moveOn_1 : decode cX11_moveOn 1 = .ok (.iload_n 2, 1) := by decide +kernel
theorem dX11_moveOn_2 : decode cX11_moveOn 2 = .ok (.invokevirtual 276, 3) := by decide +kernel
theorem dX11_moveOn_5 : decode cX11_moveOn 5 = .ok (.istore_n 3, 1) := by decide +kernel
theorem dX11_moveOn_6 : decode cX11_moveOn 6 = .ok (.iload_n 3, 1) := by decide +kernel
theorem dX11_moveOn_7 : decode cX11_moveOn 7 = .ok (.ifCond .lt 10, 3) := by decide +kernel
theorem dX11_moveOn_10 : decode cX11_moveOn 10 = .ok (.aload_n 1, 1) := by decide +kernel
theorem dX11_moveOn_11 : decode cX11_moveOn 11 = .ok (.iload_n 3, 1) := by decide +kernel
theorem dX11_moveOn_12 : decode cX11_moveOn 12 = .ok (.invokevirtual 286, 3) := by decide +kernel
theorem dX11_moveOn_15 : decode cX11_moveOn 15 = .ok (.iconst 1, 1) := by decide +kernel
theorem dX11_moveOn_16 : decode cX11_moveOn 16 = .ok (.ireturn, 1) := by decide +kernel
theorem dX11_moveOn_17 : decode cX11_moveOn 17 = .ok (.aload_n 0, 1) := by decide +kernel
theorem dX11_moveOn_18 : decode cX11_moveOn 18 = .ok (.aload_n 1, 1) := by decide +kernel
theorem dX11_moveOn_19 : decode cX11_moveOn 19 = .ok (.iload_n 2, 1) := by decide +kernel
theorem dX11_moveOn_20 : decode cX11_moveOn 20 = .ok (.invokevirtual 279, 3) := by decide +kernel
theorem dX11_moveOn_23 : decode cX11_moveOn 23 = .ok (.istore 4, 2) := by decide +kernel
theorem dX11_moveOn_25 : decode cX11_moveOn 25 = .ok (.aload_n 1, 1) := by decide +kernel
theorem dX11_moveOn_26 : decode cX11_moveOn 26 = .ok (.iload_n 2, 1) := by decide +kernel
theorem dX11_moveOn_27 : decode cX11_moveOn 27 = .ok (.iload 4, 2) := by decide +kernel
theorem dX11_moveOn_29 : decode cX11_moveOn 29 = .ok (.invokevirtual 283, 3) := by decide +kernel
theorem dX11_moveOn_32 : decode cX11_moveOn 32 = .ok (.istore 5, 2) := by decide +kernel
theorem dX11_moveOn_34 : decode cX11_moveOn 34 = .ok (.iload 5, 2) := by decide +kernel
theorem dX11_moveOn_36 : decode cX11_moveOn 36 = .ok (.ifCond .eq 7, 3) := by decide +kernel
theorem dX11_moveOn_39 : decode cX11_moveOn 39 = .ok (.iload 5, 2) := by decide +kernel
theorem dX11_moveOn_41 : decode cX11_moveOn 41 = .ok (.ineg, 1) := by decide +kernel
theorem dX11_moveOn_42 : decode cX11_moveOn 42 = .ok (.ireturn, 1) := by decide +kernel
theorem dX11_moveOn_43 : decode cX11_moveOn 43 = .ok (.aload_n 1, 1) := by decide +kernel
theorem dX11_moveOn_44 : decode cX11_moveOn 44 = .ok (.iload_n 2, 1) := by decide +kernel
theorem dX11_moveOn_45 : decode cX11_moveOn 45 = .ok (.iload 4, 2) := by decide +kernel
theorem dX11_moveOn_47 : decode cX11_moveOn 47 = .ok (.invokevirtual 289, 3) := by decide +kernel
theorem dX11_moveOn_50 : decode cX11_moveOn 50 = .ok (.iconst 0, 1) := by decide +kernel
theorem dX11_moveOn_51 : decode cX11_moveOn 51 = .ok (.ireturn, 1) := by decide +kernel
theorem dX11_takeBeat_0 : decode cX11_takeBeat 0 = .ok (.aload_n 0, 1) := by decide +kernel
theorem dX11_takeBeat_1 : decode cX11_takeBeat 1 = .ok (.getfield 59, 3) := by decide +kernel
theorem dX11_takeBeat_4 : decode cX11_takeBeat 4 = .ok (.aload_n 0, 1) := by decide +kernel
theorem dX11_takeBeat_5 : decode cX11_takeBeat 5 = .ok (.getfield 49, 3) := by decide +kernel
theorem dX11_takeBeat_8 : decode cX11_takeBeat 8 = .ok (.invokevirtual 293, 3) := by decide +kernel
theorem dX11_takeBeat_11 : decode cX11_takeBeat 11 = .ok (.aload_n 0, 1) := by decide +kernel
theorem dX11_takeBeat_12 : decode cX11_takeBeat 12 = .ok (.getfield 49, 3) := by decide +kernel
theorem dX11_takeBeat_15 : decode cX11_takeBeat 15 = .ok (.iload_n 1, 1) := by decide +kernel
theorem dX11_takeBeat_16 : decode cX11_takeBeat 16 = .ok (.iconst 1, 1) := by decide +kernel
theorem dX11_takeBeat_17 : decode cX11_takeBeat 17 = .ok (.ishr, 1) := by decide +kernel
theorem dX11_takeBeat_18 : decode cX11_takeBeat 18 = .ok (.invokevirtual 211, 3) := by decide +kernel
theorem dX11_takeBeat_21 : decode cX11_takeBeat 21 = .ok (.ifCond .eq 19, 3) := by decide +kernel
theorem dX11_takeBeat_24 : decode cX11_takeBeat 24 = .ok (.iconst 0, 1) := by decide +kernel
theorem dX11_takeBeat_25 : decode cX11_takeBeat 25 = .ok (.aload_n 0, 1) := by decide +kernel
theorem dX11_takeBeat_26 : decode cX11_takeBeat 26 = .ok (.aload_n 0, 1) := by decide +kernel
theorem dX11_takeBeat_27 : decode cX11_takeBeat 27 = .ok (.getfield 49, 3) := by decide +kernel
theorem dX11_takeBeat_30 : decode cX11_takeBeat 30 = .ok (.iload_n 1, 1) := by decide +kernel
theorem dX11_takeBeat_31 : decode cX11_takeBeat 31 = .ok (.invokevirtual 297, 3) := by decide +kernel
theorem dX11_takeBeat_34 : decode cX11_takeBeat 34 = .ok (.invokestatic 273, 3) := by decide +kernel
theorem dX11_takeBeat_37 : decode cX11_takeBeat 37 = .ok (.goto 4, 3) := by decide +kernel
theorem dX11_takeBeat_40 : decode cX11_takeBeat 40 = .ok (.iconst 0, 1) := by decide +kernel
theorem dX11_takeBeat_41 : decode cX11_takeBeat 41 = .ok (.istore_n 2, 1) := by decide +kernel
theorem dX11_takeBeat_42 : decode cX11_takeBeat 42 = .ok (.iload_n 2, 1) := by decide +kernel
theorem dX11_takeBeat_43 : decode cX11_takeBeat 43 = .ok (.iconst 1, 1) := by decide +kernel
theorem dX11_takeBeat_44 : decode cX11_takeBeat 44 = .ok (.if_icmp .ne 25, 3) := by decide +kernel
theorem dX11_takeBeat_47 : decode cX11_takeBeat 47 = .ok (.aload_n 0, 1) := by decide +kernel
theorem dX11_takeBeat_48 : decode cX11_takeBeat 48 = .ok (.getfield 49, 3) := by decide +kernel
theorem dX11_takeBeat_51 : decode cX11_takeBeat 51 = .ok (.sipush 999, 3) := by decide +kernel
theorem dX11_takeBeat_54 : decode cX11_takeBeat 54 = .ok (.aload_n 0, 1) := by decide +kernel
theorem dX11_takeBeat_55 : decode cX11_takeBeat 55 = .ok (.getfield 49, 3) := by decide +kernel
theorem dX11_takeBeat_58 : decode cX11_takeBeat 58 = .ok (.getfield 182, 3) := by decide +kernel
theorem dX11_takeBeat_61 : decode cX11_takeBeat 61 = .ok (.iconst 1, 1) := by decide +kernel
theorem dX11_takeBeat_62 : decode cX11_takeBeat 62 = .ok (.iadd, 1) := by decide +kernel
theorem dX11_takeBeat_63 : decode cX11_takeBeat 63 = .ok (.invokestatic 268, 3) := by decide +kernel
theorem dX11_takeBeat_66 : decode cX11_takeBeat 66 = .ok (.putfield 182, 3) := by decide +kernel
theorem dX11_takeBeat_69 : decode cX11_takeBeat 69 = .ok (.aload_n 0, 1) := by decide +kernel
theorem dX11_takeBeat_70 : decode cX11_takeBeat 70 = .ok (.getfield 49, 3) := by decide +kernel
theorem dX11_takeBeat_73 : decode cX11_takeBeat 73 = .ok (.aload_n 0, 1) := by decide +kernel
theorem dX11_takeBeat_74 : decode cX11_takeBeat 74 = .ok (.getfield 49, 3) := by decide +kernel
theorem dX11_takeBeat_77 : decode cX11_takeBeat 77 = .ok (.iload_n 1, 1) := by decide +kernel
theorem dX11_takeBeat_78 : decode cX11_takeBeat 78 = .ok (.iconst 1, 1) := by decide +kernel
theorem dX11_takeBeat_79 : decode cX11_takeBeat 79 = .ok (.ishr, 1) := by decide +kernel
theorem dX11_takeBeat_80 : decode cX11_takeBeat 80 = .ok (.invokevirtual 211, 3) := by decide +kernel
theorem dX11_takeBeat_83 : decode cX11_takeBeat 83 = .ok (.ifCond .eq 7, 3) := by decide +kernel
theorem dX11_takeBeat_86 : decode cX11_takeBeat 86 = .ok (.iload_n 1, 1) := by decide +kernel
theorem dX11_takeBeat_87 : decode cX11_takeBeat 87 = .ok (.goto 5, 3) := by decide +kernel
theorem dX11_takeBeat_90 : decode cX11_takeBeat 90 = .ok (.bipush 20, 2) := by decide +kernel
theorem dX11_takeBeat_92 : decode cX11_takeBeat 92 = .ok (.iload_n 2, 1) := by decide +kernel
theorem dX11_takeBeat_93 : decode cX11_takeBeat 93 = .ok (.invokevirtual 300, 3) := by decide +kernel
theorem dX11_takeBeat_96 : decode cX11_takeBeat 96 = .ok (.iload_n 2, 1) := by decide +kernel
theorem dX11_takeBeat_97 : decode cX11_takeBeat 97 = .ok (.ireturn, 1) := by decide +kernel
theorem dX11_cross_0 : decode cX11_cross 0 = .ok (.aload_n 0, 1) := by decide +kernel
theorem dX11_cross_1 : decode cX11_cross 1 = .ok (.invokevirtual 176, 3) := by decide +kernel
theorem dX11_cross_4 : decode cX11_cross 4 = .ok (.ifCond .ne 9, 3) := by decide +kernel
theorem dX11_cross_7 : decode cX11_cross 7 = .ok (.aload_n 0, 1) := by decide +kernel
theorem dX11_cross_8 : decode cX11_cross 8 = .ok (.iconst 0, 1) := by decide +kernel
theorem dX11_cross_9 : decode cX11_cross 9 = .ok (.invokevirtual 303, 3) := by decide +kernel
theorem dX11_cross_12 : decode cX11_cross 12 = .ok (.ireturn, 1) := by decide +kernel
theorem dX11_cross_13 : decode cX11_cross 13 = .ok (.aload_n 0, 1) := by decide +kernel
theorem dX11_cross_14 : decode cX11_cross 14 = .ok (.getfield 49, 3) := by decide +kernel
theorem dX11_cross_17 : decode cX11_cross 17 = .ok (.iload_n 1, 1) := by decide +kernel
theorem dX11_cross_18 : decode cX11_cross 18 = .ok (.invokevirtual 211, 3) := by decide +kernel
theorem dX11_cross_21 : decode cX11_cross 21 = .ok (.ifCond .ne 9, 3) := by decide +kernel
theorem dX11_cross_24 : decode cX11_cross 24 = .ok (.aload_n 0, 1) := by decide +kernel
theorem dX11_cross_25 : decode cX11_cross 25 = .ok (.iconst 1, 1) := by decide +kernel
theorem dX11_cross_26 : decode cX11_cross 26 = .ok (.invokevirtual 303, 3) := by decide +kernel
theorem dX11_cross_29 : decode cX11_cross 29 = .ok (.ireturn, 1) := by decide +kernel
theorem dX11_cross_30 : decode cX11_cross 30 = .ok (.iload_n 1, 1) := by decide +kernel
theorem dX11_cross_31 : decode cX11_cross 31 = .ok (.iload_n 2, 1) := by decide +kernel
theorem dX11_cross_32 : decode cX11_cross 32 = .ok (.invokestatic 306, 3) := by decide +kernel
theorem dX11_cross_35 : decode cX11_cross 35 = .ok (.istore_n 3, 1) := by decide +kernel
theorem dX11_cross_36 : decode cX11_cross 36 = .ok (.aload_n 0, 1) := by decide +kernel
theorem dX11_cross_37 : decode cX11_cross 37 = .ok (.iload_n 3, 1) := by decide +kernel
theorem dX11_cross_38 : decode cX11_cross 38 = .ok (.invokevirtual 310, 3) := by decide +kernel
theorem dX11_cross_41 : decode cX11_cross 41 = .ok (.istore 4, 2) := by decide +kernel
theorem dX11_cross_43 : decode cX11_cross 43 = .ok (.iload 4, 2) := by decide +kernel
theorem dX11_cross_45 : decode cX11_cross 45 = .ok (.ifCond .eq 10, 3) := by decide +kernel
theorem dX11_cross_48 : decode cX11_cross 48 = .ok (.aload_n 0, 1) := by decide +kernel
theorem dX11_cross_49 : decode cX11_cross 49 = .ok (.iload 4, 2) := by decide +kernel
theorem dX11_cross_51 : decode cX11_cross 51 = .ok (.invokevirtual 303, 3) := by decide +kernel
theorem dX11_cross_54 : decode cX11_cross 54 = .ok (.ireturn, 1) := by decide +kernel
theorem dX11_cross_55 : decode cX11_cross 55 = .ok (.aload_n 0, 1) := by decide +kernel
theorem dX11_cross_56 : decode cX11_cross 56 = .ok (.getfield 49, 3) := by decide +kernel
theorem dX11_cross_59 : decode cX11_cross 59 = .ok (.getfield 250, 3) := by decide +kernel
theorem dX11_cross_62 : decode cX11_cross 62 = .ok (.sipush 999, 3) := by decide +kernel
theorem dX11_cross_65 : decode cX11_cross 65 = .ok (.if_icmp .lt 9, 3) := by decide +kernel
theorem dX11_cross_68 : decode cX11_cross 68 = .ok (.aload_n 0, 1) := by decide +kernel
theorem dX11_cross_69 : decode cX11_cross 69 = .ok (.iconst 4, 1) := by decide +kernel
theorem dX11_cross_70 : decode cX11_cross 70 = .ok (.invokevirtual 303, 3) := by decide +kernel
theorem dX11_cross_73 : decode cX11_cross 73 = .ok (.ireturn, 1) := by decide +kernel
theorem dX11_cross_74 : decode cX11_cross 74 = .ok (.aload_n 0, 1) := by decide +kernel
theorem dX11_cross_75 : decode cX11_cross 75 = .ok (.iload_n 3, 1) := by decide +kernel
theorem dX11_cross_76 : decode cX11_cross 76 = .ok (.invokevirtual 313, 3) := by decide +kernel
theorem dX11_cross_79 : decode cX11_cross 79 = .ok (.ireturn, 1) := by decide +kernel
theorem dX11_letterOf_0 : decode cX11_letterOf 0 = .ok (.iload_n 1, 1) := by decide +kernel
theorem dX11_letterOf_1 : decode cX11_letterOf 1 = .ok (.ifCond .eq 9, 3) := by decide +kernel
theorem dX11_letterOf_4 : decode cX11_letterOf 4 = .ok (.iconst 2, 1) := by decide +kernel
theorem dX11_letterOf_5 : decode cX11_letterOf 5 = .ok (.iload_n 0, 1) := by decide +kernel
theorem dX11_letterOf_6 : decode cX11_letterOf 6 = .ok (.imul, 1) := by decide +kernel
theorem dX11_letterOf_7 : decode cX11_letterOf 7 = .ok (.goto 8, 3) := by decide +kernel
theorem dX11_letterOf_10 : decode cX11_letterOf 10 = .ok (.iconst 2, 1) := by decide +kernel
theorem dX11_letterOf_11 : decode cX11_letterOf 11 = .ok (.iload_n 0, 1) := by decide +kernel
theorem dX11_letterOf_12 : decode cX11_letterOf 12 = .ok (.imul, 1) := by decide +kernel
theorem dX11_letterOf_13 : decode cX11_letterOf 13 = .ok (.iconst 1, 1) := by decide +kernel
theorem dX11_letterOf_14 : decode cX11_letterOf 14 = .ok (.iadd, 1) := by decide +kernel
theorem dX11_letterOf_15 : decode cX11_letterOf 15 = .ok (.ireturn, 1) := by decide +kernel
theorem dX11_beat_0 : decode cX11_beat 0 = .ok (.aload_n 0, 1) := by decide +kernel
theorem dX11_beat_1 : decode cX11_beat 1 = .ok (.invokevirtual 176, 3) := by decide +kernel
theorem dX11_beat_4 : decode cX11_beat 4 = .ok (.ifCond .ne 9, 3) := by decide +kernel
theorem dX11_beat_7 : decode cX11_beat 7 = .ok (.aload_n 0, 1) := by decide +kernel
theorem dX11_beat_8 : decode cX11_beat 8 = .ok (.iconst 0, 1) := by decide +kernel
theorem dX11_beat_9 : decode cX11_beat 9 = .ok (.invokevirtual 303, 3) := by decide +kernel
theorem dX11_beat_12 : decode cX11_beat 12 = .ok (.ireturn, 1) := by decide +kernel
theorem dX11_beat_13 : decode cX11_beat 13 = .ok (.aload_n 0, 1) := by decide +kernel
theorem dX11_beat_14 : decode cX11_beat 14 = .ok (.getfield 49, 3) := by decide +kernel
theorem dX11_beat_17 : decode cX11_beat 17 = .ok (.getfield 250, 3) := by decide +kernel
theorem dX11_beat_20 : decode cX11_beat 20 = .ok (.sipush 999, 3) := by decide +kernel
theorem dX11_beat_23 : decode cX11_beat 23 = .ok (.if_icmp .lt 9, 3) := by decide +kernel
theorem dX11_beat_26 : decode cX11_beat 26 = .ok (.aload_n 0, 1) := by decide +kernel
theorem dX11_beat_27 : decode cX11_beat 27 = .ok (.iconst 4, 1) := by decide +kernel
theorem dX11_beat_28 : decode cX11_beat 28 = .ok (.invokevirtual 303, 3) := by decide +kernel
theorem dX11_beat_31 : decode cX11_beat 31 = .ok (.ireturn, 1) := by decide +kernel
theorem dX11_beat_32 : decode cX11_beat 32 = .ok (.aload_n 0, 1) := by decide +kernel
theorem dX11_beat_33 : decode cX11_beat 33 = .ok (.bipush 20, 2) := by decide +kernel
theorem dX11_beat_35 : decode cX11_beat 35 = .ok (.invokevirtual 313, 3) := by decide +kernel
theorem dX11_beat_38 : decode cX11_beat 38 = .ok (.pop, 1) := by decide +kernel
theorem dX11_beat_39 : decode cX11_beat 39 = .ok (.aload_n 0, 1) := by decide +kernel
theorem dX11_beat_40 : decode cX11_beat 40 = .ok (.getfield 49, 3) := by decide +kernel
theorem dX11_beat_43 : decode cX11_beat 43 = .ok (.getfield 250, 3) := by decide +kernel
theorem dX11_beat_46 : decode cX11_beat 46 = .ok (.ireturn, 1) := by decide +kernel
theorem dX11_dance_0 : decode cX11_dance 0 = .ok (.aload_n 0, 1) := by decide +kernel
theorem dX11_dance_1 : decode cX11_dance 1 = .ok (.invokevirtual 176, 3) := by decide +kernel
theorem dX11_dance_4 : decode cX11_dance 4 = .ok (.ifCond .eq 11, 3) := by decide +kernel
theorem dX11_dance_7 : decode cX11_dance 7 = .ok (.aload_n 0, 1) := by decide +kernel
theorem dX11_dance_8 : decode cX11_dance 8 = .ok (.iload_n 1, 1) := by decide +kernel
theorem dX11_dance_9 : decode cX11_dance 9 = .ok (.invokevirtual 217, 3) := by decide +kernel
theorem dX11_dance_12 : decode cX11_dance 12 = .ok (.ifCond .ne 9, 3) := by decide +kernel
theorem dX11_dance_15 : decode cX11_dance 15 = .ok (.aload_n 0, 1) := by decide +kernel
theorem dX11_dance_16 : decode cX11_dance 16 = .ok (.iconst 0, 1) := by decide +kernel
theorem dX11_dance_17 : decode cX11_dance 17 = .ok (.invokevirtual 303, 3) := by decide +kernel
theorem dX11_dance_20 : decode cX11_dance 20 = .ok (.ireturn, 1) := by decide +kernel
theorem dX11_dance_21 : decode cX11_dance 21 = .ok (.aload_n 0, 1) := by decide +kernel
theorem dX11_dance_22 : decode cX11_dance 22 = .ok (.getfield 49, 3) := by decide +kernel
theorem dX11_dance_25 : decode cX11_dance 25 = .ok (.getfield 250, 3) := by decide +kernel
theorem dX11_dance_28 : decode cX11_dance 28 = .ok (.sipush 999, 3) := by decide +kernel
theorem dX11_dance_31 : decode cX11_dance 31 = .ok (.if_icmp .lt 9, 3) := by decide +kernel
theorem dX11_dance_34 : decode cX11_dance 34 = .ok (.aload_n 0, 1) := by decide +kernel
theorem dX11_dance_35 : decode cX11_dance 35 = .ok (.iconst 4, 1) := by decide +kernel
theorem dX11_dance_36 : decode cX11_dance 36 = .ok (.invokevirtual 303, 3) := by decide +kernel
theorem dX11_dance_39 : decode cX11_dance 39 = .ok (.ireturn, 1) := by decide +kernel
theorem dX11_dance_40 : decode cX11_dance 40 = .ok (.aload_n 0, 1) := by decide +kernel
theorem dX11_dance_41 : decode cX11_dance 41 = .ok (.getfield 75, 3) := by decide +kernel
theorem dX11_dance_44 : decode cX11_dance 44 = .ok (.iload_n 1, 1) := by decide +kernel
theorem dX11_dance_45 : decode cX11_dance 45 = .ok (.aaload, 1) := by decide +kernel
theorem dX11_dance_46 : decode cX11_dance 46 = .ok (.astore_n 2, 1) := by decide +kernel
theorem dX11_dance_47 : decode cX11_dance 47 = .ok (.iconst 0, 1) := by decide +kernel
theorem dX11_dance_48 : decode cX11_dance 48 = .ok (.istore_n 3, 1) := by decide +kernel
theorem dX11_dance_49 : decode cX11_dance 49 = .ok (.iload_n 3, 1) := by decide +kernel
theorem dX11_dance_50 : decode cX11_dance 50 = .ok (.aload_n 2, 1) := by decide +kernel
theorem dX11_dance_51 : decode cX11_dance 51 = .ok (.getfield 220, 3) := by decide +kernel
theorem dX11_dance_54 : decode cX11_dance 54 = .ok (.if_icmp .ge 61, 3) := by decide +kernel
theorem dX11_dance_57 : decode cX11_dance 57 = .ok (.aload_n 2, 1) := by decide +kernel
theorem dX11_dance_58 : decode cX11_dance 58 = .ok (.iload_n 3, 1) := by decide +kernel
theorem dX11_dance_59 : decode cX11_dance 59 = .ok (.invokevirtual 221, 3) := by decide +kernel
theorem dX11_dance_62 : decode cX11_dance 62 = .ok (.istore 4, 2) := by decide +kernel
theorem dX11_dance_64 : decode cX11_dance 64 = .ok (.aload_n 0, 1) := by decide +kernel
theorem dX11_dance_65 : decode cX11_dance 65 = .ok (.getfield 49, 3) := by decide +kernel
theorem dX11_dance_68 : decode cX11_dance 68 = .ok (.getfield 250, 3) := by decide +kernel
theorem dX11_dance_71 : decode cX11_dance 71 = .ok (.sipush 999, 3) := by decide +kernel
theorem dX11_dance_74 : decode cX11_dance 74 = .ok (.if_icmp .ge 26, 3) := by decide +kernel
theorem dX11_dance_77 : decode cX11_dance 77 = .ok (.aload_n 0, 1) := by decide +kernel
theorem dX11_dance_78 : decode cX11_dance 78 = .ok (.getfield 49, 3) := by decide +kernel
theorem dX11_dance_81 : decode cX11_dance 81 = .ok (.iload 4, 2) := by decide +kernel
theorem dX11_dance_83 : decode cX11_dance 83 = .ok (.iconst 1, 1) := by decide +kernel
theorem dX11_dance_84 : decode cX11_dance 84 = .ok (.ishr, 1) := by decide +kernel
theorem dX11_dance_85 : decode cX11_dance 85 = .ok (.invokevirtual 211, 3) := by decide +kernel
theorem dX11_dance_88 : decode cX11_dance 88 = .ok (.ifCond .eq 14, 3) := by decide +kernel
theorem dX11_dance_91 : decode cX11_dance 91 = .ok (.aload_n 0, 1) := by decide +kernel
theorem dX11_dance_92 : decode cX11_dance 92 = .ok (.iload 4, 2) := by decide +kernel
theorem dX11_dance_94 : decode cX11_dance 94 = .ok (.invokevirtual 310, 3) := by decide +kernel
theorem dX11_dance_97 : decode cX11_dance 97 = .ok (.ifCond .eq 5, 3) := by decide +kernel
theorem dX11_dance_100 : decode cX11_dance 100 = .ok (.iload_n 3, 1) := by decide +kernel
theorem dX11_dance_101 : decode cX11_dance 101 = .ok (.ireturn, 1) := by decide +kernel
theorem dX11_dance_102 : decode cX11_dance 102 = .ok (.aload_n 0, 1) := by decide +kernel
theorem dX11_dance_103 : decode cX11_dance 103 = .ok (.iload 4, 2) := by decide +kernel
theorem dX11_dance_105 : decode cX11_dance 105 = .ok (.invokevirtual 313, 3) := by decide +kernel
theorem dX11_dance_108 : decode cX11_dance 108 = .ok (.pop, 1) := by decide +kernel
theorem dX11_dance_109 : decode cX11_dance 109 = .ok (.iinc 3 1, 3) := by decide +kernel
theorem dX11_dance_112 : decode cX11_dance 112 = .ok (.goto (-63), 3) := by decide +kernel
theorem dX11_dance_115 : decode cX11_dance 115 = .ok (.aload_n 2, 1) := by decide +kernel
theorem dX11_dance_116 : decode cX11_dance 116 = .ok (.getfield 220, 3) := by decide +kernel
theorem dX11_dance_119 : decode cX11_dance 119 = .ok (.ireturn, 1) := by decide +kernel
theorem dX11_down_0 : decode cX11_down 0 = .ok (.aload_n 0, 1) := by decide +kernel
theorem dX11_down_1 : decode cX11_down 1 = .ok (.invokevirtual 176, 3) := by decide +kernel
theorem dX11_down_4 : decode cX11_down 4 = .ok (.ifCond .ne 9, 3) := by decide +kernel
theorem dX11_down_7 : decode cX11_down 7 = .ok (.aload_n 0, 1) := by decide +kernel
theorem dX11_down_8 : decode cX11_down 8 = .ok (.iconst 0, 1) := by decide +kernel
theorem dX11_down_9 : decode cX11_down 9 = .ok (.invokevirtual 303, 3) := by decide +kernel
theorem dX11_down_12 : decode cX11_down 12 = .ok (.ireturn, 1) := by decide +kernel
theorem dX11_down_13 : decode cX11_down 13 = .ok (.iload_n 1, 1) := by decide +kernel
theorem dX11_down_14 : decode cX11_down 14 = .ok (.iconst 1, 1) := by decide +kernel
theorem dX11_down_15 : decode cX11_down 15 = .ok (.if_icmp .lt 9, 3) := by decide +kernel
theorem dX11_down_18 : decode cX11_down 18 = .ok (.iload_n 1, 1) := by decide +kernel
theorem dX11_down_19 : decode cX11_down 19 = .ok (.bipush 9, 2) := by decide +kernel
theorem dX11_down_21 : decode cX11_down 21 = .ok (.if_icmp .le 9, 3) := by decide +kernel
theorem dX11_down_24 : decode cX11_down 24 = .ok (.aload_n 0, 1) := by decide +kernel
theorem dX11_down_25 : decode cX11_down 25 = .ok (.iconst 1, 1) := by decide +kernel
theorem dX11_down_26 : decode cX11_down 26 = .ok (.invokevirtual 303, 3) := by decide +kernel
theorem dX11_down_29 : decode cX11_down 29 = .ok (.ireturn, 1) := by decide +kernel
theorem dX11_down_30 : decode cX11_down 30 = .ok (.aload_n 0, 1) := by decide +kernel
theorem dX11_down_31 : decode cX11_down 31 = .ok (.getfield 49, 3) := by decide +kernel
theorem dX11_down_34 : decode cX11_down 34 = .ok (.getfield 224, 3) := by decide +kernel
theorem dX11_down_37 : decode cX11_down 37 = .ok (.ifCond .ne 9, 3) := by decide +kernel
theorem dX11_down_40 : decode cX11_down 40 = .ok (.aload_n 0, 1) := by decide +kernel
theorem dX11_down_41 : decode cX11_down 41 = .ok (.iconst 2, 1) := by decide +kernel
theorem dX11_down_42 : decode cX11_down 42 = .ok (.invokevirtual 303, 3) := by decide +kernel
theorem dX11_down_45 : decode cX11_down 45 = .ok (.ireturn, 1) := by decide +kernel
theorem dX11_down_46 : decode cX11_down 46 = .ok (.aload_n 0, 1) := by decide +kernel
theorem dX11_down_47 : decode cX11_down 47 = .ok (.getfield 49, 3) := by decide +kernel
theorem dX11_down_50 : decode cX11_down 50 = .ok (.getfield 250, 3) := by decide +kernel
theorem dX11_down_53 : decode cX11_down 53 = .ok (.sipush 999, 3) := by decide +kernel
theorem dX11_down_56 : decode cX11_down 56 = .ok (.if_icmp .lt 9, 3) := by decide +kernel
theorem dX11_down_59 : decode cX11_down 59 = .ok (.aload_n 0, 1) := by decide +kernel
theorem dX11_down_60 : decode cX11_down 60 = .ok (.iconst 4, 1) := by decide +kernel
theorem dX11_down_61 : decode cX11_down 61 = .ok (.invokevirtual 303, 3) := by decide +kernel
theorem dX11_down_64 : decode cX11_down 64 = .ok (.ireturn, 1) := by decide +kernel
theorem dX11_down_65 : decode cX11_down 65 = .ok (.iconst 0, 1) := by decide +kernel
theorem dX11_down_66 : decode cX11_down 66 = .ok (.istore_n 2, 1) := by decide +kernel
theorem dX11_down_67 : decode cX11_down 67 = .ok (.iload_n 2, 1) := by decide +kernel
theorem dX11_down_68 : decode cX11_down 68 = .ok (.iload_n 1, 1) := by decide +kernel
theorem dX11_down_69 : decode cX11_down 69 = .ok (.if_icmp .ge 46, 3) := by decide +kernel
theorem dX11_down_72 : decode cX11_down 72 = .ok (.aload_n 0, 1) := by decide +kernel
theorem dX11_down_73 : decode cX11_down 73 = .ok (.getfield 49, 3) := by decide +kernel
theorem dX11_down_76 : decode cX11_down 76 = .ok (.getfield 224, 3) := by decide +kernel
theorem dX11_down_79 : decode cX11_down 79 = .ok (.ifCond .eq 16, 3) := by decide +kernel
theorem dX11_down_82 : decode cX11_down 82 = .ok (.aload_n 0, 1) := by decide +kernel
theorem dX11_down_83 : decode cX11_down 83 = .ok (.getfield 49, 3) := by decide +kernel
theorem dX11_down_86 : decode cX11_down 86 = .ok (.getfield 250, 3) := by decide +kernel
theorem dX11_down_89 : decode cX11_down 89 = .ok (.sipush 999, 3) := by decide +kernel
theorem dX11_down_92 : decode cX11_down 92 = .ok (.if_icmp .lt 5, 3) := by decide +kernel
theorem dX11_down_95 : decode cX11_down 95 = .ok (.iload_n 2, 1) := by decide +kernel
theorem dX11_down_96 : decode cX11_down 96 = .ok (.ireturn, 1) := by decide +kernel
theorem dX11_down_97 : decode cX11_down 97 = .ok (.aload_n 0, 1) := by decide +kernel
theorem dX11_down_98 : decode cX11_down 98 = .ok (.aload_n 0, 1) := by decide +kernel
theorem dX11_down_99 : decode cX11_down 99 = .ok (.getfield 49, 3) := by decide +kernel
theorem dX11_down_102 : decode cX11_down 102 = .ok (.invokevirtual 316, 3) := by decide +kernel
theorem dX11_down_105 : decode cX11_down 105 = .ok (.invokevirtual 313, 3) := by decide +kernel
theorem dX11_down_108 : decode cX11_down 108 = .ok (.pop, 1) := by decide +kernel
theorem dX11_down_109 : decode cX11_down 109 = .ok (.iinc 2 1, 3) := by decide +kernel
theorem dX11_down_112 : decode cX11_down 112 = .ok (.goto (-45), 3) := by decide +kernel
theorem dX11_down_115 : decode cX11_down 115 = .ok (.iload_n 1, 1) := by decide +kernel
theorem dX11_down_116 : decode cX11_down 116 = .ok (.ireturn, 1) := by decide +kernel
theorem dX11_longer_0 : decode cX11_longer 0 = .ok (.aload_n 0, 1) := by decide +kernel
theorem dX11_longer_1 : decode cX11_longer 1 = .ok (.iload_n 1, 1) := by decide +kernel
theorem dX11_longer_2 : decode cX11_longer 2 = .ok (.invokevirtual 188, 3) := by decide +kernel
theorem dX11_longer_5 : decode cX11_longer 5 = .ok (.ifCond .ne 9, 3) := by decide +kernel
theorem dX11_longer_8 : decode cX11_longer 8 = .ok (.aload_n 0, 1) := by decide +kernel
theorem dX11_longer_9 : decode cX11_longer 9 = .ok (.iconst 0, 1) := by decide +kernel
theorem dX11_longer_10 : decode cX11_longer 10 = .ok (.invokevirtual 303, 3) := by decide +kernel
theorem dX11_longer_13 : decode cX11_longer 13 = .ok (.ireturn, 1) := by decide +kernel
theorem dX11_longer_14 : decode cX11_longer 14 = .ok (.iload_n 2, 1) := by decide +kernel
theorem dX11_longer_15 : decode cX11_longer 15 = .ok (.iconst 1, 1) := by decide +kernel
theorem dX11_longer_16 : decode cX11_longer 16 = .ok (.if_icmp .lt 9, 3) := by decide +kernel
theorem dX11_longer_19 : decode cX11_longer 19 = .ok (.iload_n 2, 1) := by decide +kernel
theorem dX11_longer_20 : decode cX11_longer 20 = .ok (.bipush 20, 2) := by decide +kernel
theorem dX11_longer_22 : decode cX11_longer 22 = .ok (.if_icmp .le 9, 3) := by decide +kernel
theorem dX11_longer_25 : decode cX11_longer 25 = .ok (.aload_n 0, 1) := by decide +kernel
theorem dX11_longer_26 : decode cX11_longer 26 = .ok (.iconst 1, 1) := by decide +kernel
theorem dX11_longer_27 : decode cX11_longer 27 = .ok (.invokevirtual 303, 3) := by decide +kernel
theorem dX11_longer_30 : decode cX11_longer 30 = .ok (.ireturn, 1) := by decide +kernel
theorem dX11_longer_31 : decode cX11_longer 31 = .ok (.aload_n 0, 1) := by decide +kernel
theorem dX11_longer_32 : decode cX11_longer 32 = .ok (.getfield 49, 3) := by decide +kernel
theorem dX11_longer_35 : decode cX11_longer 35 = .ok (.getfield 182, 3) := by decide +kernel
theorem dX11_longer_38 : decode cX11_longer 38 = .ok (.iload_n 2, 1) := by decide +kernel
theorem dX11_longer_39 : decode cX11_longer 39 = .ok (.if_icmp .lt 19, 3) := by decide +kernel
theorem dX11_longer_42 : decode cX11_longer 42 = .ok (.aload_n 0, 1) := by decide +kernel
theorem dX11_longer_43 : decode cX11_longer 43 = .ok (.getfield 49, 3) := by decide +kernel
theorem dX11_longer_46 : decode cX11_longer 46 = .ok (.getfield 199, 3) := by decide +kernel
theorem dX11_longer_49 : decode cX11_longer 49 = .ok (.iload_n 1, 1) := by decide +kernel
theorem dX11_longer_50 : decode cX11_longer 50 = .ok (.iaload, 1) := by decide +kernel
theorem dX11_longer_51 : decode cX11_longer 51 = .ok (.iload_n 2, 1) := by decide +kernel
theorem dX11_longer_52 : decode cX11_longer 52 = .ok (.iadd, 1) := by decide +kernel
theorem dX11_longer_53 : decode cX11_longer 53 = .ok (.bipush 99, 2) := by decide +kernel
theorem dX11_longer_55 : decode cX11_longer 55 = .ok (.if_icmp .le 9, 3) := by decide +kernel
theorem dX11_longer_58 : decode cX11_longer 58 = .ok (.aload_n 0, 1) := by decide +kernel
theorem dX11_longer_59 : decode cX11_longer 59 = .ok (.iconst 3, 1) := by decide +kernel
theorem dX11_longer_60 : decode cX11_longer 60 = .ok (.invokevirtual 303, 3) := by decide +kernel
theorem dX11_longer_63 : decode cX11_longer 63 = .ok (.ireturn, 1) := by decide +kernel
theorem dX11_longer_64 : decode cX11_longer 64 = .ok (.aload_n 0, 1) := by decide +kernel
theorem dX11_longer_65 : decode cX11_longer 65 = .ok (.getfield 59, 3) := by decide +kernel
theorem dX11_longer_68 : decode cX11_longer 68 = .ok (.aload_n 0, 1) := by decide +kernel
theorem dX11_longer_69 : decode cX11_longer 69 = .ok (.getfield 49, 3) := by decide +kernel
theorem dX11_longer_72 : decode cX11_longer 72 = .ok (.invokevirtual 293, 3) := by decide +kernel
theorem dX11_longer_75 : decode cX11_longer 75 = .ok (.aload_n 0, 1) := by decide +kernel
theorem dX11_longer_76 : decode cX11_longer 76 = .ok (.getfield 49, 3) := by decide +kernel
theorem dX11_longer_79 : decode cX11_longer 79 = .ok (.dup, 1) := by decide +kernel
theorem dX11_longer_80 : decode cX11_longer 80 = .ok (.getfield 182, 3) := by decide +kernel
theorem dX11_longer_83 : decode cX11_longer 83 = .ok (.iload_n 2, 1) := by decide +kernel
theorem dX11_longer_84 : decode cX11_longer 84 = .ok (.isub, 1) := by decide +kernel
theorem dX11_longer_85 : decode cX11_longer 85 = .ok (.putfield 182, 3) := by decide +kernel
theorem dX11_longer_88 : decode cX11_longer 88 = .ok (.aload_n 0, 1) := by decide +kernel
theorem dX11_longer_89 : decode cX11_longer 89 = .ok (.getfield 49, 3) := by decide +kernel
theorem dX11_longer_92 : decode cX11_longer 92 = .ok (.getfield 199, 3) := by decide +kernel
theorem dX11_longer_95 : decode cX11_longer 95 = .ok (.iload_n 1, 1) := by decide +kernel
theorem dX11_longer_96 : decode cX11_longer 96 = .ok (.dup2, 1) := by decide +kernel
theorem dX11_longer_97 : decode cX11_longer 97 = .ok (.iaload, 1) := by decide +kernel
theorem dX11_longer_98 : decode cX11_longer 98 = .ok (.iload_n 2, 1) := by decide +kernel
theorem dX11_longer_99 : decode cX11_longer 99 = .ok (.iadd, 1) := by decide +kernel
theorem dX11_longer_100 : decode cX11_longer 100 = .ok (.iastore, 1) := by decide +kernel
theorem dX11_longer_101 : decode cX11_longer 101 = .ok (.aload_n 0, 1) := by decide +kernel
theorem dX11_longer_102 : decode cX11_longer 102 = .ok (.getfield 49, 3) := by decide +kernel
theorem dX11_longer_105 : decode cX11_longer 105 = .ok (.getfield 199, 3) := by decide +kernel
theorem dX11_longer_108 : decode cX11_longer 108 = .ok (.iload_n 1, 1) := by decide +kernel
theorem dX11_longer_109 : decode cX11_longer 109 = .ok (.iaload, 1) := by decide +kernel
theorem dX11_longer_110 : decode cX11_longer 110 = .ok (.ireturn, 1) := by decide +kernel
theorem dX11_give_0 : decode cX11_give 0 = .ok (.aload_n 0, 1) := by decide +kernel
theorem dX11_give_1 : decode cX11_give 1 = .ok (.invokevirtual 176, 3) := by decide +kernel
theorem dX11_give_4 : decode cX11_give 4 = .ok (.ifCond .ne 9, 3) := by decide +kernel
theorem dX11_give_7 : decode cX11_give 7 = .ok (.aload_n 0, 1) := by decide +kernel
theorem dX11_give_8 : decode cX11_give 8 = .ok (.iconst 0, 1) := by decide +kernel
theorem dX11_give_9 : decode cX11_give 9 = .ok (.invokevirtual 303, 3) := by decide +kernel
theorem dX11_give_12 : decode cX11_give 12 = .ok (.ireturn, 1) := by decide +kernel
theorem dX11_give_13 : decode cX11_give 13 = .ok (.iload_n 1, 1) := by decide +kernel
theorem dX11_give_14 : decode cX11_give 14 = .ok (.iconst 1, 1) := by decide +kernel
theorem dX11_give_15 : decode cX11_give 15 = .ok (.if_icmp .lt 24, 3) := by decide +kernel
theorem dX11_give_18 : decode cX11_give 18 = .ok (.iload_n 1, 1) := by decide +kernel
theorem dX11_give_19 : decode cX11_give 19 = .ok (.bipush 50, 2) := by decide +kernel
theorem dX11_give_21 : decode cX11_give 21 = .ok (.if_icmp .gt 18, 3) := by decide +kernel
theorem dX11_give_24 : decode cX11_give 24 = .ok (.aload_n 0, 1) := by decide +kernel
theorem dX11_give_25 : decode cX11_give 25 = .ok (.getfield 49, 3) := by decide +kernel
theorem dX11_give_28 : decode cX11_give 28 = .ok (.getfield 182, 3) := by decide +kernel
theorem dX11_give_31 : decode cX11_give 31 = .ok (.iload_n 1, 1) := by decide +kernel
theorem dX11_give_32 : decode cX11_give 32 = .ok (.iadd, 1) := by decide +kernel
theorem dX11_give_33 : decode cX11_give 33 = .ok (.sipush 999, 3) := by decide +kernel
theorem dX11_give_36 : decode cX11_give 36 = .ok (.if_icmp .le 9, 3) := by decide +kernel
theorem dX11_give_39 : decode cX11_give 39 = .ok (.aload_n 0, 1) := by decide +kernel
theorem dX11_give_40 : decode cX11_give 40 = .ok (.iconst 1, 1) := by decide +kernel
theorem dX11_give_41 : decode cX11_give 41 = .ok (.invokevirtual 303, 3) := by decide +kernel
theorem dX11_give_44 : decode cX11_give 44 = .ok (.ireturn, 1) := by decide +kernel
theorem dX11_give_45 : decode cX11_give 45 = .ok (.aload_n 0, 1) := by decide +kernel
theorem dX11_give_46 : decode cX11_give 46 = .ok (.getfield 59, 3) := by decide +kernel
theorem dX11_give_49 : decode cX11_give 49 = .ok (.aload_n 0, 1) := by decide +kernel
theorem dX11_give_50 : decode cX11_give 50 = .ok (.getfield 49, 3) := by decide +kernel
theorem dX11_give_53 : decode cX11_give 53 = .ok (.invokevirtual 293, 3) := by decide +kernel
theorem dX11_give_56 : decode cX11_give 56 = .ok (.aload_n 0, 1) := by decide +kernel
theorem dX11_give_57 : decode cX11_give 57 = .ok (.getfield 49, 3) := by decide +kernel
theorem dX11_give_60 : decode cX11_give 60 = .ok (.dup, 1) := by decide +kernel
theorem dX11_give_61 : decode cX11_give 61 = .ok (.getfield 182, 3) := by decide +kernel
theorem dX11_give_64 : decode cX11_give 64 = .ok (.iload_n 1, 1) := by decide +kernel
theorem dX11_give_65 : decode cX11_give 65 = .ok (.iadd, 1) := by decide +kernel
theorem dX11_give_66 : decode cX11_give 66 = .ok (.putfield 182, 3) := by decide +kernel
theorem dX11_give_69 : decode cX11_give 69 = .ok (.aload_n 0, 1) := by decide +kernel
theorem dX11_give_70 : decode cX11_give 70 = .ok (.getfield 49, 3) := by decide +kernel
theorem dX11_give_73 : decode cX11_give 73 = .ok (.getfield 182, 3) := by decide +kernel
theorem dX11_give_76 : decode cX11_give 76 = .ok (.ireturn, 1) := by decide +kernel
theorem dX11_years_0 : decode cX11_years 0 = .ok (.aload_n 0, 1) := by decide +kernel
theorem dX11_years_1 : decode cX11_years 1 = .ok (.invokevirtual 176, 3) := by decide +kernel
theorem dX11_years_4 : decode cX11_years 4 = .ok (.ifCond .eq 29, 3) := by decide +kernel
theorem dX11_years_7 : decode cX11_years 7 = .ok (.iload_n 1, 1) := by decide +kernel
theorem dX11_years_8 : decode cX11_years 8 = .ok (.iconst 1, 1) := by decide +kernel
theorem dX11_years_9 : decode cX11_years 9 = .ok (.if_icmp .lt 24, 3) := by decide +kernel
theorem dX11_years_12 : decode cX11_years 12 = .ok (.iload_n 1, 1) := by decide +kernel
theorem dX11_years_13 : decode cX11_years 13 = .ok (.bipush 60, 2) := by decide +kernel
theorem dX11_years_15 : decode cX11_years 15 = .ok (.if_icmp .gt 18, 3) := by decide +kernel
theorem dX11_years_18 : decode cX11_years 18 = .ok (.aload_n 0, 1) := by decide +kernel
theorem dX11_years_19 : decode cX11_years 19 = .ok (.getfield 49, 3) := by decide +kernel
theorem dX11_years_22 : decode cX11_years 22 = .ok (.getfield 250, 3) := by decide +kernel
theorem dX11_years_25 : decode cX11_years 25 = .ok (.iload_n 1, 1) := by decide +kernel
theorem dX11_years_26 : decode cX11_years 26 = .ok (.iadd, 1) := by decide +kernel
theorem dX11_years_27 : decode cX11_years 27 = .ok (.sipush 999, 3) := by decide +kernel
theorem dX11_years_30 : decode cX11_years 30 = .ok (.if_icmp .le 5, 3) := by decide +kernel
theorem dX11_years_33 : decode cX11_years 33 = .ok (.iconst (-1), 1) := by decide +kernel
theorem dX11_years_34 : decode cX11_years 34 = .ok (.ireturn, 1) := by decide +kernel
theorem dX11_years_35 : decode cX11_years 35 = .ok (.aload_n 0, 1) := by decide +kernel
theorem dX11_years_36 : decode cX11_years 36 = .ok (.lload_n 2, 1) := by decide +kernel
theorem dX11_years_37 : decode cX11_years 37 = .ok (.putfield 319, 3) := by decide +kernel
theorem dX11_years_40 : decode cX11_years 40 = .ok (.iconst 0, 1) := by decide +kernel
theorem dX11_years_41 : decode cX11_years 41 = .ok (.istore 4, 2) := by decide +kernel
theorem dX11_years_43 : decode cX11_years 43 = .ok (.iload 4, 2) := by decide +kernel
theorem dX11_years_45 : decode cX11_years 45 = .ok (.iload_n 1, 1) := by decide +kernel
theorem dX11_years_46 : decode cX11_years 46 = .ok (.if_icmp .ge 97, 3) := by decide +kernel
theorem dX11_years_49 : decode cX11_years 49 = .ok (.iconst 2, 1) := by decide +kernel
theorem dX11_years_50 : decode cX11_years 50 = .ok (.aload_n 0, 1) := by decide +kernel
theorem dX11_years_51 : decode cX11_years 51 = .ok (.aload_n 0, 1) := by decide +kernel
theorem dX11_years_52 : decode cX11_years 52 = .ok (.getfield 42, 3) := by decide +kernel
theorem dX11_years_55 : decode cX11_years 55 = .ok (.getfield 155, 3) := by decide +kernel
theorem dX11_years_58 : decode cX11_years 58 = .ok (.invokevirtual 323, 3) := by decide +kernel
theorem dX11_years_61 : decode cX11_years 61 = .ok (.imul, 1) := by decide +kernel
theorem dX11_years_62 : decode cX11_years 62 = .ok (.istore 5, 2) := by decide +kernel
theorem dX11_years_64 : decode cX11_years 64 = .ok (.iload 5, 2) := by decide +kernel
theorem dX11_years_66 : decode cX11_years 66 = .ok (.aload_n 0, 1) := by decide +kernel
theorem dX11_years_67 : decode cX11_years 67 = .ok (.iconst 2, 1) := by decide +kernel
theorem dX11_years_68 : decode cX11_years 68 = .ok (.invokevirtual 323, 3) := by decide +kernel
theorem dX11_years_71 : decode cX11_years 71 = .ok (.iadd, 1) := by decide +kernel
theorem dX11_years_72 : decode cX11_years 72 = .ok (.istore 5, 2) := by decide +kernel
theorem dX11_years_74 : decode cX11_years 74 = .ok (.aload_n 0, 1) := by decide +kernel
theorem dX11_years_75 : decode cX11_years 75 = .ok (.aload_n 0, 1) := by decide +kernel
theorem dX11_years_76 : decode cX11_years 76 = .ok (.iload 5, 2) := by decide +kernel
theorem dX11_years_78 : decode cX11_years 78 = .ok (.invokevirtual 310, 3) := by decide +kernel
theorem dX11_years_81 : decode cX11_years 81 = .ok (.ifCond .ne 8, 3) := by decide +kernel
theorem dX11_years_84 : decode cX11_years 84 = .ok (.iload 5, 2) := by decide +kernel
theorem dX11_years_86 : decode cX11_years 86 = .ok (.goto 5, 3) := by decide +kernel
theorem dX11_years_89 : decode cX11_years 89 = .ok (.bipush 20, 2) := by decide +kernel
theorem dX11_years_91 : decode cX11_years 91 = .ok (.invokevirtual 313, 3) := by decide +kernel
theorem dX11_years_94 : decode cX11_years 94 = .ok (.pop, 1) := by decide +kernel
theorem dX11_years_95 : decode cX11_years 95 = .ok (.aload_n 0, 1) := by decide +kernel
theorem dX11_years_96 : decode cX11_years 96 = .ok (.bipush 10, 2) := by decide +kernel
theorem dX11_years_98 : decode cX11_years 98 = .ok (.invokevirtual 323, 3) := by decide +kernel
theorem dX11_years_101 : decode cX11_years 101 = .ok (.aload_n 0, 1) := by decide +kernel
theorem dX11_years_102 : decode cX11_years 102 = .ok (.getfield 42, 3) := by decide +kernel
theorem dX11_years_105 : decode cX11_years 105 = .ok (.invokevirtual 185, 3) := by decide +kernel
theorem dX11_years_108 : decode cX11_years 108 = .ok (.if_icmp .ge 29, 3) := by decide +kernel
theorem dX11_years_111 : decode cX11_years 111 = .ok (.aload_n 0, 1) := by decide +kernel
theorem dX11_years_112 : decode cX11_years 112 = .ok (.getfield 49, 3) := by decide +kernel
theorem dX11_years_115 : decode cX11_years 115 = .ok (.getfield 224, 3) := by decide +kernel
theorem dX11_years_118 : decode cX11_years 118 = .ok (.ifCond .le 19, 3) := by decide +kernel
theorem dX11_years_121 : decode cX11_years 121 = .ok (.aload_n 0, 1) := by decide +kernel
theorem dX11_years_122 : decode cX11_years 122 = .ok (.aload_n 0, 1) := by decide +kernel
theorem dX11_years_123 : decode cX11_years 123 = .ok (.getfield 49, 3) := by decide +kernel
theorem dX11_years_126 : decode cX11_years 126 = .ok (.aload_n 0, 1) := by decide +kernel
theorem dX11_years_127 : decode cX11_years 127 = .ok (.getfield 49, 3) := by decide +kernel
theorem dX11_years_130 : decode cX11_years 130 = .ok (.invokevirtual 316, 3) := by decide +kernel
theorem dX11_years_133 : decode cX11_years 133 = .ok (.invokevirtual 297, 3) := by decide +kernel
theorem dX11_years_136 : decode cX11_years 136 = .ok (.pop, 1) := by decide +kernel
theorem dX11_years_137 : decode cX11_years 137 = .ok (.iinc 4 1, 3) := by decide +kernel
theorem dX11_years_140 : decode cX11_years 140 = .ok (.goto (-97), 3) := by decide +kernel
theorem dX11_years_143 : decode cX11_years 143 = .ok (.aload_n 0, 1) := by decide +kernel
theorem dX11_years_144 : decode cX11_years 144 = .ok (.getfield 49, 3) := by decide +kernel
theorem dX11_years_147 : decode cX11_years 147 = .ok (.getfield 250, 3) := by decide +kernel
theorem dX11_years_150 : decode cX11_years 150 = .ok (.ireturn, 1) := by decide +kernel
theorem dX11_draw_0 : decode cX11_draw 0 = .ok (.aload_n 0, 1) := by decide +kernel
theorem dX11_draw_1 : decode cX11_draw 1 = .ok (.aload_n 0, 1) := by decide +kernel
theorem dX11_draw_2 : decode cX11_draw 2 = .ok (.getfield 319, 3) := by decide +kernel
theorem dX11_draw_5 : decode cX11_draw 5 = .ok (.ldc2_w 326, 3) := by decide +kernel
theorem dX11_draw_8 : decode cX11_draw 8 = .ok (.lmul, 1) := by decide +kernel
theorem dX11_draw_9 : decode cX11_draw 9 = .ok (.ldc2_w 328, 3) := by decide +kernel
theorem dX11_draw_12 : decode cX11_draw 12 = .ok (.ladd, 1) := by decide +kernel
theorem dX11_draw_13 : decode cX11_draw 13 = .ok (.putfield 319, 3) := by decide +kernel
theorem dX11_draw_16 : decode cX11_draw 16 = .ok (.iload_n 1, 1) := by decide +kernel
theorem dX11_draw_17 : decode cX11_draw 17 = .ok (.iconst 1, 1) := by decide +kernel
theorem dX11_draw_18 : decode cX11_draw 18 = .ok (.if_icmp .ge 7, 3) := by decide +kernel
theorem dX11_draw_21 : decode cX11_draw 21 = .ok (.iconst 0, 1) := by decide +kernel
theorem dX11_draw_22 : decode cX11_draw 22 = .ok (.goto 14, 3) := by decide +kernel
theorem dX11_draw_25 : decode cX11_draw 25 = .ok (.aload_n 0, 1) := by decide +kernel
theorem dX11_draw_26 : decode cX11_draw 26 = .ok (.getfield 319, 3) := by decide +kernel
theorem dX11_draw_29 : decode cX11_draw 29 = .ok (.bipush 33, 2) := by decide +kernel
theorem dX11_draw_31 : decode cX11_draw 31 = .ok (.lushr, 1) := by decide +kernel
theorem dX11_draw_32 : decode cX11_draw 32 = .ok (.iload_n 1, 1) := by decide +kernel
theorem dX11_draw_33 : decode cX11_draw 33 = .ok (.i2l, 1) := by decide +kernel
theorem dX11_draw_34 : decode cX11_draw 34 = .ok (.lrem, 1) := by decide +kernel
theorem dX11_draw_35 : decode cX11_draw 35 = .ok (.l2i, 1) := by decide +kernel
theorem dX11_draw_36 : decode cX11_draw 36 = .ok (.ireturn, 1) := by decide +kernel
theorem dX11_undo_0 : decode cX11_undo 0 = .ok (.aload_n 0, 1) := by decide +kernel
theorem dX11_undo_1 : decode cX11_undo 1 = .ok (.getfield 59, 3) := by decide +kernel
theorem dX11_undo_4 : decode cX11_undo 4 = .ok (.getfield 253, 3) := by decide +kernel
theorem dX11_undo_7 : decode cX11_undo 7 = .ok (.ifCond .ne 5, 3) := by decide +kernel
theorem dX11_undo_10 : decode cX11_undo 10 = .ok (.iconst (-1), 1) := by decide +kernel
theorem dX11_undo_11 : decode cX11_undo 11 = .ok (.ireturn, 1) := by decide +kernel
theorem dX11_undo_12 : decode cX11_undo 12 = .ok (.aload_n 0, 1) := by decide +kernel
theorem dX11_undo_13 : decode cX11_undo 13 = .ok (.getfield 59, 3) := by decide +kernel
theorem dX11_undo_16 : decode cX11_undo 16 = .ok (.aload_n 0, 1) := by decide +kernel
theorem dX11_undo_17 : decode cX11_undo 17 = .ok (.getfield 49, 3) := by decide +kernel
theorem dX11_undo_20 : decode cX11_undo 20 = .ok (.invokevirtual 330, 3) := by decide +kernel
theorem dX11_undo_23 : decode cX11_undo 23 = .ok (.aload_n 0, 1) := by decide +kernel
theorem dX11_undo_24 : decode cX11_undo 24 = .ok (.getfield 59, 3) := by decide +kernel
theorem dX11_undo_27 : decode cX11_undo 27 = .ok (.getfield 253, 3) := by decide +kernel
theorem dX11_undo_30 : decode cX11_undo 30 = .ok (.ireturn, 1) := by decide +kernel
theorem dX11_image_0 : decode cX11_image 0 = .ok (.aload_n 0, 1) := by decide +kernel
theorem dX11_image_1 : decode cX11_image 1 = .ok (.invokevirtual 176, 3) := by decide +kernel
theorem dX11_image_4 : decode cX11_image 4 = .ok (.ifCond .ne 5, 3) := by decide +kernel
theorem dX11_image_7 : decode cX11_image 7 = .ok (.iconst (-1), 1) := by decide +kernel
theorem dX11_image_8 : decode cX11_image 8 = .ok (.ireturn, 1) := by decide +kernel
theorem dX11_image_9 : decode cX11_image 9 = .ok (.aload_n 0, 1) := by decide +kernel
theorem dX11_image_10 : decode cX11_image 10 = .ok (.getfield 53, 3) := by decide +kernel
theorem dX11_image_13 : decode cX11_image 13 = .ok (.aload_n 0, 1) := by decide +kernel
theorem dX11_image_14 : decode cX11_image 14 = .ok (.getfield 49, 3) := by decide +kernel
theorem dX11_image_17 : decode cX11_image 17 = .ok (.invokevirtual 333, 3) := by decide +kernel
theorem dX11_image_20 : decode cX11_image 20 = .ok (.aload_n 0, 1) := by decide +kernel
theorem dX11_image_21 : decode cX11_image 21 = .ok (.getfield 49, 3) := by decide +kernel
theorem dX11_image_24 : decode cX11_image 24 = .ok (.getfield 250, 3) := by decide +kernel
theorem dX11_image_27 : decode cX11_image 27 = .ok (.ireturn, 1) := by decide +kernel
theorem dX11_back_0 : decode cX11_back 0 = .ok (.aload_n 0, 1) := by decide +kernel
theorem dX11_back_1 : decode cX11_back 1 = .ok (.getfield 53, 3) := by decide +kernel
theorem dX11_back_4 : decode cX11_back 4 = .ok (.getfield 146, 3) := by decide +kernel
theorem dX11_back_7 : decode cX11_back 7 = .ok (.ifCond .ne 5, 3) := by decide +kernel
theorem dX11_back_10 : decode cX11_back 10 = .ok (.iconst (-1), 1) := by decide +kernel
theorem dX11_back_11 : decode cX11_back 11 = .ok (.ireturn, 1) := by decide +kernel
theorem dX11_back_12 : decode cX11_back 12 = .ok (.aload_n 0, 1) := by decide +kernel
theorem dX11_back_13 : decode cX11_back 13 = .ok (.getfield 49, 3) := by decide +kernel
theorem dX11_back_16 : decode cX11_back 16 = .ok (.aload_n 0, 1) := by decide +kernel
theorem dX11_back_17 : decode cX11_back 17 = .ok (.getfield 53, 3) := by decide +kernel
theorem dX11_back_20 : decode cX11_back 20 = .ok (.invokevirtual 333, 3) := by decide +kernel
theorem dX11_back_23 : decode cX11_back 23 = .ok (.aload_n 0, 1) := by decide +kernel
theorem dX11_back_24 : decode cX11_back 24 = .ok (.getfield 59, 3) := by decide +kernel
theorem dX11_back_27 : decode cX11_back 27 = .ok (.invokevirtual 149, 3) := by decide +kernel
theorem dX11_back_30 : decode cX11_back 30 = .ok (.aload_n 0, 1) := by decide +kernel
theorem dX11_back_31 : decode cX11_back 31 = .ok (.getfield 49, 3) := by decide +kernel
theorem dX11_back_34 : decode cX11_back 34 = .ok (.getfield 250, 3) := by decide +kernel
theorem dX11_back_37 : decode cX11_back 37 = .ok (.ireturn, 1) := by decide +kernel
theorem dX11_takes_0 : decode cX11_takes 0 = .ok (.aload_n 0, 1) := by decide +kernel
theorem dX11_takes_1 : decode cX11_takes 1 = .ok (.getfield 49, 3) := by decide +kernel
theorem dX11_takes_4 : decode cX11_takes 4 = .ok (.iload_n 1, 1) := by decide +kernel
theorem dX11_takes_5 : decode cX11_takes 5 = .ok (.invokevirtual 211, 3) := by decide +kernel
theorem dX11_takes_8 : decode cX11_takes 8 = .ok (.ifCond .eq 19, 3) := by decide +kernel
theorem dX11_takes_11 : decode cX11_takes 11 = .ok (.aload_n 0, 1) := by decide +kernel
theorem dX11_takes_12 : decode cX11_takes 12 = .ok (.aload_n 0, 1) := by decide +kernel
theorem dX11_takes_13 : decode cX11_takes 13 = .ok (.getfield 49, 3) := by decide +kernel
theorem dX11_takes_16 : decode cX11_takes 16 = .ok (.iload_n 1, 1) := by decide +kernel
theorem dX11_takes_17 : decode cX11_takes 17 = .ok (.iload_n 2, 1) := by decide +kernel
theorem dX11_takes_18 : decode cX11_takes 18 = .ok (.invokestatic 306, 3) := by decide +kernel
theorem dX11_takes_21 : decode cX11_takes 21 = .ok (.invokevirtual 279, 3) := by decide +kernel
theorem dX11_takes_24 : decode cX11_takes 24 = .ok (.goto 4, 3) := by decide +kernel
theorem dX11_takes_27 : decode cX11_takes 27 = .ok (.iconst (-1), 1) := by decide +kernel
theorem dX11_takes_28 : decode cX11_takes 28 = .ok (.ireturn, 1) := by decide +kernel
theorem dX11_bound_0 : decode cX11_bound 0 = .ok (.aload_n 0, 1) := by decide +kernel
theorem dX11_bound_1 : decode cX11_bound 1 = .ok (.iload_n 1, 1) := by decide +kernel
theorem dX11_bound_2 : decode cX11_bound 2 = .ok (.invokevirtual 188, 3) := by decide +kernel
theorem dX11_bound_5 : decode cX11_bound 5 = .ok (.ifCond .eq 16, 3) := by decide +kernel
theorem dX11_bound_8 : decode cX11_bound 8 = .ok (.aload_n 0, 1) := by decide +kernel
theorem dX11_bound_9 : decode cX11_bound 9 = .ok (.iload_n 2, 1) := by decide +kernel
theorem dX11_bound_10 : decode cX11_bound 10 = .ok (.invokevirtual 188, 3) := by decide +kernel
theorem dX11_bound_13 : decode cX11_bound 13 = .ok (.ifCond .eq 8, 3) := by decide +kernel
theorem dX11_bound_16 : decode cX11_bound 16 = .ok (.iload_n 1, 1) := by decide +kernel
theorem dX11_bound_17 : decode cX11_bound 17 = .ok (.iload_n 2, 1) := by decide +kernel
theorem dX11_bound_18 : decode cX11_bound 18 = .ok (.if_icmp .ne 6, 3) := by decide +kernel
theorem dX11_bound_21 : decode cX11_bound 21 = .ok (.ldc 254, 2) := by decide +kernel
theorem dX11_bound_23 : decode cX11_bound 23 = .ok (.ireturn, 1) := by decide +kernel
theorem dX11_bound_24 : decode cX11_bound 24 = .ok (.aload_n 0, 1) := by decide +kernel
theorem dX11_bound_25 : decode cX11_bound 25 = .ok (.getfield 49, 3) := by decide +kernel
theorem dX11_bound_28 : decode cX11_bound 28 = .ok (.iload_n 1, 1) := by decide +kernel
theorem dX11_bound_29 : decode cX11_bound 29 = .ok (.iload_n 2, 1) := by decide +kernel
theorem dX11_bound_30 : decode cX11_bound 30 = .ok (.invokevirtual 335, 3) := by decide +kernel
theorem dX11_bound_33 : decode cX11_bound 33 = .ok (.aload_n 0, 1) := by decide +kernel
theorem dX11_bound_34 : decode cX11_bound 34 = .ok (.getfield 49, 3) := by decide +kernel
theorem dX11_bound_37 : decode cX11_bound 37 = .ok (.iload_n 2, 1) := by decide +kernel
theorem dX11_bound_38 : decode cX11_bound 38 = .ok (.iload_n 1, 1) := by decide +kernel
theorem dX11_bound_39 : decode cX11_bound 39 = .ok (.invokevirtual 335, 3) := by decide +kernel
theorem dX11_bound_42 : decode cX11_bound 42 = .ok (.isub, 1) := by decide +kernel
theorem dX11_bound_43 : decode cX11_bound 43 = .ok (.ireturn, 1) := by decide +kernel
theorem dX11_letOut_0 : decode cX11_letOut 0 = .ok (.aload_n 0, 1) := by decide +kernel
theorem dX11_letOut_1 : decode cX11_letOut 1 = .ok (.iload_n 1, 1) := by decide +kernel
theorem dX11_letOut_2 : decode cX11_letOut 2 = .ok (.invokevirtual 188, 3) := by decide +kernel
theorem dX11_letOut_5 : decode cX11_letOut 5 = .ok (.ifCond .eq 14, 3) := by decide +kernel
theorem dX11_letOut_8 : decode cX11_letOut 8 = .ok (.aload_n 0, 1) := by decide +kernel
theorem dX11_letOut_9 : decode cX11_letOut 9 = .ok (.getfield 49, 3) := by decide +kernel
theorem dX11_letOut_12 : decode cX11_letOut 12 = .ok (.iload_n 1, 1) := by decide +kernel
theorem dX11_letOut_13 : decode cX11_letOut 13 = .ok (.invokevirtual 338, 3) := by decide +kernel
theorem dX11_letOut_16 : decode cX11_letOut 16 = .ok (.goto 4, 3) := by decide +kernel
theorem dX11_letOut_19 : decode cX11_letOut 19 = .ok (.iconst (-1), 1) := by decide +kernel
theorem dX11_letOut_20 : decode cX11_letOut 20 = .ok (.ireturn, 1) := by decide +kernel
theorem dX11_shares_0 : decode cX11_shares 0 = .ok (.aload_n 0, 1) := by decide +kernel
theorem dX11_shares_1 : decode cX11_shares 1 = .ok (.iload_n 1, 1) := by decide +kernel
theorem dX11_shares_2 : decode cX11_shares 2 = .ok (.invokevirtual 188, 3) := by decide +kernel
theorem dX11_shares_5 : decode cX11_shares 5 = .ok (.ifCond .eq 14, 3) := by decide +kernel
theorem dX11_shares_8 : decode cX11_shares 8 = .ok (.iload_n 2, 1) := by decide +kernel
theorem dX11_shares_9 : decode cX11_shares 9 = .ok (.ifCond .lt 10, 3) := by decide +kernel
theorem dX11_shares_12 : decode cX11_shares 12 = .ok (.iload_n 2, 1) := by decide +kernel
theorem dX11_shares_13 : decode cX11_shares 13 = .ok (.sipush 999, 3) := by decide +kernel
theorem dX11_shares_16 : decode cX11_shares 16 = .ok (.if_icmp .le 5, 3) := by decide +kernel
theorem dX11_shares_19 : decode cX11_shares 19 = .ok (.iconst (-1), 1) := by decide +kernel
theorem dX11_shares_20 : decode cX11_shares 20 = .ok (.ireturn, 1) := by decide +kernel
theorem dX11_shares_21 : decode cX11_shares 21 = .ok (.aload_n 0, 1) := by decide +kernel
theorem dX11_shares_22 : decode cX11_shares 22 = .ok (.getfield 49, 3) := by decide +kernel
theorem dX11_shares_25 : decode cX11_shares 25 = .ok (.invokevirtual 341, 3) := by decide +kernel
theorem dX11_shares_28 : decode cX11_shares 28 = .ok (.istore_n 3, 1) := by decide +kernel
theorem dX11_shares_29 : decode cX11_shares 29 = .ok (.iload_n 3, 1) := by decide +kernel
theorem dX11_shares_30 : decode cX11_shares 30 = .ok (.ifCond .ne 7, 3) := by decide +kernel
theorem dX11_shares_33 : decode cX11_shares 33 = .ok (.iconst 0, 1) := by decide +kernel
theorem dX11_shares_34 : decode cX11_shares 34 = .ok (.goto 15, 3) := by decide +kernel
theorem dX11_shares_37 : decode cX11_shares 37 = .ok (.iload_n 2, 1) := by decide +kernel
theorem dX11_shares_38 : decode cX11_shares 38 = .ok (.aload_n 0, 1) := by decide +kernel
theorem dX11_shares_39 : decode cX11_shares 39 = .ok (.getfield 49, 3) := by decide +kernel
theorem dX11_shares_42 : decode cX11_shares 42 = .ok (.iload_n 1, 1) := by decide +kernel
theorem dX11_shares_43 : decode cX11_shares 43 = .ok (.invokevirtual 344, 3) := by decide +kernel
theorem dX11_shares_46 : decode cX11_shares 46 = .ok (.imul, 1) := by decide +kernel
theorem dX11_shares_47 : decode cX11_shares 47 = .ok (.iload_n 3, 1) := by decide +kernel
theorem dX11_shares_48 : decode cX11_shares 48 = .ok (.idiv, 1) := by decide +kernel
theorem dX11_shares_49 : decode cX11_shares 49 = .ok (.ireturn, 1) := by decide +kernel
theorem dX11_most_0 : decode cX11_most 0 = .ok (.aload_n 0, 1) := by decide +kernel
theorem dX11_most_1 : decode cX11_most 1 = .ok (.invokevirtual 176, 3) := by decide +kernel
theorem dX11_most_4 : decode cX11_most 4 = .ok (.ifCond .ne 6, 3) := by decide +kernel
theorem dX11_most_7 : decode cX11_most 7 = .ok (.ldc 254, 2) := by decide +kernel
theorem dX11_most_9 : decode cX11_most 9 = .ok (.ireturn, 1) := by decide +kernel
theorem dX11_most_10 : decode cX11_most 10 = .ok (.iload_n 1, 1) := by decide +kernel
theorem dX11_most_11 : decode cX11_most 11 = .ok (.tableswitch 140 0 12 #[65, 65, 65, 65, 71, 79, 87, 95, 103, 111, 116, 124, 132], 65) := by decide +kernel
theorem dX11_most_76 : decode cX11_most 76 = .ok (.aload_n 0, 1) := by decide +kernel
theorem dX11_most_77 : decode cX11_most 77 = .ok (.iload_n 1, 1) := by decide +kernel
theorem dX11_most_78 : decode cX11_most 78 = .ok (.invokevirtual 347, 3) := by decide +kernel
theorem dX11_most_81 : decode cX11_most 81 = .ok (.ireturn, 1) := by decide +kernel
theorem dX11_most_82 : decode cX11_most 82 = .ok (.aload_n 0, 1) := by decide +kernel
theorem dX11_most_83 : decode cX11_most 83 = .ok (.getfield 49, 3) := by decide +kernel
theorem dX11_most_86 : decode cX11_most 86 = .ok (.invokevirtual 350, 3) := by decide +kernel
theorem dX11_most_89 : decode cX11_most 89 = .ok (.ireturn, 1) := by decide +kernel
theorem dX11_most_90 : decode cX11_most 90 = .ok (.aload_n 0, 1) := by decide +kernel
theorem dX11_most_91 : decode cX11_most 91 = .ok (.getfield 49, 3) := by decide +kernel
theorem dX11_most_94 : decode cX11_most 94 = .ok (.invokevirtual 353, 3) := by decide +kernel
theorem dX11_most_97 : decode cX11_most 97 = .ok (.ireturn, 1) := by decide +kernel
theorem dX11_most_98 : decode cX11_most 98 = .ok (.aload_n 0, 1) := by decide +kernel
theorem dX11_most_99 : decode cX11_most 99 = .ok (.getfield 49, 3) := by decide +kernel
theorem dX11_most_102 : decode cX11_most 102 = .ok (.invokevirtual 356, 3) := by decide +kernel
theorem dX11_most_105 : decode cX11_most 105 = .ok (.ireturn, 1) := by decide +kernel
theorem dX11_most_106 : decode cX11_most 106 = .ok (.aload_n 0, 1) := by decide +kernel
theorem dX11_most_107 : decode cX11_most 107 = .ok (.getfield 49, 3) := by decide +kernel
theorem dX11_most_110 : decode cX11_most 110 = .ok (.invokevirtual 359, 3) := by decide +kernel
theorem dX11_most_113 : decode cX11_most 113 = .ok (.ireturn, 1) := by decide +kernel
theorem dX11_most_114 : decode cX11_most 114 = .ok (.aload_n 0, 1) := by decide +kernel
theorem dX11_most_115 : decode cX11_most 115 = .ok (.getfield 49, 3) := by decide +kernel
theorem dX11_most_118 : decode cX11_most 118 = .ok (.invokevirtual 362, 3) := by decide +kernel
theorem dX11_most_121 : decode cX11_most 121 = .ok (.ireturn, 1) := by decide +kernel
theorem dX11_most_122 : decode cX11_most 122 = .ok (.aload_n 0, 1) := by decide +kernel
theorem dX11_most_123 : decode cX11_most 123 = .ok (.invokevirtual 365, 3) := by decide +kernel
theorem dX11_most_126 : decode cX11_most 126 = .ok (.ireturn, 1) := by decide +kernel
theorem dX11_most_127 : decode cX11_most 127 = .ok (.aload_n 0, 1) := by decide +kernel
theorem dX11_most_128 : decode cX11_most 128 = .ok (.getfield 49, 3) := by decide +kernel
theorem dX11_most_131 : decode cX11_most 131 = .ok (.invokevirtual 368, 3) := by decide +kernel
theorem dX11_most_134 : decode cX11_most 134 = .ok (.ireturn, 1) := by decide +kernel
theorem dX11_most_135 : decode cX11_most 135 = .ok (.aload_n 0, 1) := by decide +kernel
theorem dX11_most_136 : decode cX11_most 136 = .ok (.getfield 49, 3) := by decide +kernel
theorem dX11_most_139 : decode cX11_most 139 = .ok (.invokevirtual 341, 3) := by decide +kernel
theorem dX11_most_142 : decode cX11_most 142 = .ok (.ireturn, 1) := by decide +kernel
theorem dX11_most_143 : decode cX11_most 143 = .ok (.aload_n 0, 1) := by decide +kernel
theorem dX11_most_144 : decode cX11_most 144 = .ok (.getfield 49, 3) := by decide +kernel
theorem dX11_most_147 : decode cX11_most 147 = .ok (.invokevirtual 371, 3) := by decide +kernel
theorem dX11_most_150 : decode cX11_most 150 = .ok (.ireturn, 1) := by decide +kernel
theorem dX11_most_151 : decode cX11_most 151 = .ok (.ldc 254, 2) := by decide +kernel
theorem dX11_most_153 : decode cX11_most 153 = .ok (.ireturn, 1) := by decide +kernel
theorem dX11_foremost_0 : decode cX11_foremost 0 = .ok (.iconst 0, 1) := by decide +kernel
theorem dX11_foremost_1 : decode cX11_foremost 1 = .ok (.istore_n 2, 1) := by decide +kernel
theorem dX11_foremost_2 : decode cX11_foremost 2 = .ok (.iconst 1, 1) := by decide +kernel
theorem dX11_foremost_3 : decode cX11_foremost 3 = .ok (.istore_n 3, 1) := by decide +kernel
theorem dX11_foremost_4 : decode cX11_foremost 4 = .ok (.iload_n 3, 1) := by decide +kernel
theorem dX11_foremost_5 : decode cX11_foremost 5 = .ok (.aload_n 0, 1) := by decide +kernel
theorem dX11_foremost_6 : decode cX11_foremost 6 = .ok (.getfield 42, 3) := by decide +kernel
theorem dX11_foremost_9 : decode cX11_foremost 9 = .ok (.getfield 155, 3) := by decide +kernel
theorem dX11_foremost_12 : decode cX11_foremost 12 = .ok (.if_icmp .ge 26, 3) := by decide +kernel
theorem dX11_foremost_15 : decode cX11_foremost 15 = .ok (.aload_n 0, 1) := by decide +kernel
theorem dX11_foremost_16 : decode cX11_foremost 16 = .ok (.iload_n 3, 1) := by decide +kernel
theorem dX11_foremost_17 : decode cX11_foremost 17 = .ok (.iload_n 1, 1) := by decide +kernel
theorem dX11_foremost_18 : decode cX11_foremost 18 = .ok (.invokevirtual 374, 3) := by decide +kernel
theorem dX11_foremost_21 : decode cX11_foremost 21 = .ok (.aload_n 0, 1) := by decide +kernel
theorem dX11_foremost_22 : decode cX11_foremost 22 = .ok (.iload_n 2, 1) := by decide +kernel
theorem dX11_foremost_23 : decode cX11_foremost 23 = .ok (.iload_n 1, 1) := by decide +kernel
theorem dX11_foremost_24 : decode cX11_foremost 24 = .ok (.invokevirtual 374, 3) := by decide +kernel
theorem dX11_foremost_27 : decode cX11_foremost 27 = .ok (.if_icmp .le 5, 3) := by decide +kernel
theorem dX11_foremost_30 : decode cX11_foremost 30 = .ok (.iload_n 3, 1) := by decide +kernel
theorem dX11_foremost_31 : decode cX11_foremost 31 = .ok (.istore_n 2, 1) := by decide +kernel
theorem dX11_foremost_32 : decode cX11_foremost 32 = .ok (.iinc 3 1, 3) := by decide +kernel
theorem dX11_foremost_35 : decode cX11_foremost 35 = .ok (.goto (-31), 3) := by decide +kernel
theorem dX11_foremost_38 : decode cX11_foremost 38 = .ok (.iload_n 2, 1) := by decide +kernel
theorem dX11_foremost_39 : decode cX11_foremost 39 = .ok (.ireturn, 1) := by decide +kernel
theorem dX11_measure_0 : decode cX11_measure 0 = .ok (.iload_n 2, 1) := by decide +kernel
theorem dX11_measure_1 : decode cX11_measure 1 = .ok (.tableswitch 55 0 2 #[27, 36, 46], 27) := by decide +kernel
theorem dX11_measure_28 : decode cX11_measure 28 = .ok (.aload_n 0, 1) := by decide +kernel
theorem dX11_measure_29 : decode cX11_measure 29 = .ok (.getfield 49, 3) := by decide +kernel
theorem dX11_measure_32 : decode cX11_measure 32 = .ok (.iload_n 1, 1) := by decide +kernel
theorem dX11_measure_33 : decode cX11_measure 33 = .ok (.invokevirtual 205, 3) := by decide +kernel
theorem dX11_measure_36 : decode cX11_measure 36 = .ok (.ireturn, 1) := by decide +kernel
theorem dX11_measure_37 : decode cX11_measure 37 = .ok (.aload_n 0, 1) := by decide +kernel
theorem dX11_measure_38 : decode cX11_measure 38 = .ok (.getfield 49, 3) := by decide +kernel
theorem dX11_measure_41 : decode cX11_measure 41 = .ok (.iload_n 1, 1) := by decide +kernel
theorem dX11_measure_42 : decode cX11_measure 42 = .ok (.invokevirtual 205, 3) := by decide +kernel
theorem dX11_measure_45 : decode cX11_measure 45 = .ok (.ineg, 1) := by decide +kernel
theorem dX11_measure_46 : decode cX11_measure 46 = .ok (.ireturn, 1) := by decide +kernel
theorem dX11_measure_47 : decode cX11_measure 47 = .ok (.aload_n 0, 1) := by decide +kernel
theorem dX11_measure_48 : decode cX11_measure 48 = .ok (.getfield 49, 3) := by decide +kernel
theorem dX11_measure_51 : decode cX11_measure 51 = .ok (.iload_n 1, 1) := by decide +kernel
theorem dX11_measure_52 : decode cX11_measure 52 = .ok (.invokevirtual 208, 3) := by decide +kernel
theorem dX11_measure_55 : decode cX11_measure 55 = .ok (.ireturn, 1) := by decide +kernel
theorem dX11_measure_56 : decode cX11_measure 56 = .ok (.aload_n 0, 1) := by decide +kernel
theorem dX11_measure_57 : decode cX11_measure 57 = .ok (.getfield 42, 3) := by decide +kernel
theorem dX11_measure_60 : decode cX11_measure 60 = .ok (.iload_n 1, 1) := by decide +kernel
theorem dX11_measure_61 : decode cX11_measure 61 = .ok (.iconst 2, 1) := by decide +kernel
theorem dX11_measure_62 : decode cX11_measure 62 = .ok (.invokevirtual 195, 3) := by decide +kernel
theorem dX11_measure_65 : decode cX11_measure 65 = .ok (.ireturn, 1) := by decide +kernel
theorem dX11_changes_0 : decode cX11_changes 0 = .ok (.aload_n 0, 1) := by decide +kernel
theorem dX11_changes_1 : decode cX11_changes 1 = .ok (.getfield 49, 3) := by decide +kernel
theorem dX11_changes_4 : decode cX11_changes 4 = .ok (.aload_n 0, 1) := by decide +kernel
theorem dX11_changes_5 : decode cX11_changes 5 = .ok (.getfield 90, 3) := by decide +kernel
theorem dX11_changes_8 : decode cX11_changes 8 = .ok (.invokevirtual 225, 3) := by decide +kernel
theorem dX11_changes_11 : decode cX11_changes 11 = .ok (.iconst 0, 1) := by decide +kernel
theorem dX11_changes_12 : decode cX11_changes 12 = .ok (.istore_n 1, 1) := by decide +kernel
theorem dX11_changes_13 : decode cX11_changes 13 = .ok (.iconst 1, 1) := by decide +kernel
theorem dX11_changes_14 : decode cX11_changes 14 = .ok (.istore_n 2, 1) := by decide +kernel
theorem dX11_changes_15 : decode cX11_changes 15 = .ok (.iload_n 2, 1) := by decide +kernel
theorem dX11_changes_16 : decode cX11_changes 16 = .ok (.aload_n 0, 1) := by decide +kernel
theorem dX11_changes_17 : decode cX11_changes 17 = .ok (.getfield 49, 3) := by decide +kernel
theorem dX11_changes_20 : decode cX11_changes 20 = .ok (.getfield 224, 3) := by decide +kernel
theorem dX11_changes_23 : decode cX11_changes 23 = .ok (.if_icmp .ge 53, 3) := by decide +kernel
theorem dX11_changes_26 : decode cX11_changes 26 = .ok (.aload_n 0, 1) := by decide +kernel
theorem dX11_changes_27 : decode cX11_changes 27 = .ok (.getfield 42, 3) := by decide +kernel
theorem dX11_changes_30 : decode cX11_changes 30 = .ok (.aload_n 0, 1) := by decide +kernel
theorem dX11_changes_31 : decode cX11_changes 31 = .ok (.getfield 90, 3) := by decide +kernel
theorem dX11_changes_34 : decode cX11_changes 34 = .ok (.iload_n 2, 1) := by decide +kernel
theorem dX11_changes_35 : decode cX11_changes 35 = .ok (.iconst 1, 1) := by decide +kernel
theorem dX11_changes_36 : decode cX11_changes 36 = .ok (.isub, 1) := by decide +kernel
theorem dX11_changes_37 : decode cX11_changes 37 = .ok (.iaload, 1) := by decide +kernel
theorem dX11_changes_38 : decode cX11_changes 38 = .ok (.invokestatic 232, 3) := by decide +kernel
theorem dX11_changes_41 : decode cX11_changes 41 = .ok (.iconst 0, 1) := by decide +kernel
theorem dX11_changes_42 : decode cX11_changes 42 = .ok (.invokevirtual 195, 3) := by decide +kernel
theorem dX11_changes_45 : decode cX11_changes 45 = .ok (.istore_n 3, 1) := by decide +kernel
theorem dX11_changes_46 : decode cX11_changes 46 = .ok (.aload_n 0, 1) := by decide +kernel
theorem dX11_changes_47 : decode cX11_changes 47 = .ok (.getfield 42, 3) := by decide +kernel
theorem dX11_changes_50 : decode cX11_changes 50 = .ok (.aload_n 0, 1) := by decide +kernel
theorem dX11_changes_51 : decode cX11_changes 51 = .ok (.getfield 90, 3) := by decide +kernel
theorem dX11_changes_54 : decode cX11_changes 54 = .ok (.iload_n 2, 1) := by decide +kernel
theorem dX11_changes_55 : decode cX11_changes 55 = .ok (.iaload, 1) := by decide +kernel
theorem dX11_changes_56 : decode cX11_changes 56 = .ok (.invokestatic 232, 3) := by decide +kernel
theorem dX11_changes_59 : decode cX11_changes 59 = .ok (.iconst 0, 1) := by decide +kernel
theorem dX11_changes_60 : decode cX11_changes 60 = .ok (.invokevirtual 195, 3) := by decide +kernel
theorem dX11_changes_63 : decode cX11_changes 63 = .ok (.iload_n 3, 1) := by decide +kernel
theorem dX11_changes_64 : decode cX11_changes 64 = .ok (.if_icmp .eq 6, 3) := by decide +kernel
theorem dX11_changes_67 : decode cX11_changes 67 = .ok (.iinc 1 1, 3) := by decide +kernel
theorem dX11_changes_70 : decode cX11_changes 70 = .ok (.iinc 2 1, 3) := by decide +kernel
theorem dX11_changes_73 : decode cX11_changes 73 = .ok (.goto (-58), 3) := by decide +kernel
theorem dX11_changes_76 : decode cX11_changes 76 = .ok (.iload_n 1, 1) := by decide +kernel
theorem dX11_changes_77 : decode cX11_changes 77 = .ok (.ireturn, 1) := by decide +kernel
theorem dX11_placeBehind_0 : decode cX11_placeBehind 0 = .ok (.iload_n 2, 1) := by decide +kernel
theorem dX11_placeBehind_1 : decode cX11_placeBehind 1 = .ok (.istore 4, 2) := by decide +kernel
theorem dX11_placeBehind_3 : decode cX11_placeBehind 3 = .ok (.iconst 0, 1) := by decide +kernel
theorem dX11_placeBehind_4 : decode cX11_placeBehind 4 = .ok (.istore 5, 2) := by decide +kernel
theorem dX11_placeBehind_6 : decode cX11_placeBehind 6 = .ok (.iload 5, 2) := by decide +kernel
theorem dX11_placeBehind_8 : decode cX11_placeBehind 8 = .ok (.iload_n 3, 1) := by decide +kernel
theorem dX11_placeBehind_9 : decode cX11_placeBehind 9 = .ok (.if_icmp .ge 24, 3) := by decide +kernel
theorem dX11_placeBehind_12 : decode cX11_placeBehind 12 = .ok (.aload_n 1, 1) := by decide +kernel
theorem dX11_placeBehind_13 : decode cX11_placeBehind 13 = .ok (.iload 4, 2) := by decide +kernel
theorem dX11_placeBehind_15 : decode cX11_placeBehind 15 = .ok (.aload_n 0, 1) := by decide +kernel
theorem dX11_placeBehind_16 : decode cX11_placeBehind 16 = .ok (.getfield 42, 3) := by decide +kernel
theorem dX11_placeBehind_19 : decode cX11_placeBehind 19 = .ok (.getfield 155, 3) := by decide +kernel
theorem dX11_placeBehind_22 : decode cX11_placeBehind 22 = .ok (.invokevirtual 377, 3) := by decide +kernel
theorem dX11_placeBehind_25 : decode cX11_placeBehind 25 = .ok (.istore 4, 2) := by decide +kernel
theorem dX11_placeBehind_27 : decode cX11_placeBehind 27 = .ok (.iinc 5 1, 3) := by decide +kernel
theorem dX11_placeBehind_30 : decode cX11_placeBehind 30 = .ok (.goto (-24), 3) := by decide +kernel
theorem dX11_placeBehind_33 : decode cX11_placeBehind 33 = .ok (.iload 4, 2) := by decide +kernel
theorem dX11_placeBehind_35 : decode cX11_placeBehind 35 = .ok (.ireturn, 1) := by decide +kernel
theorem dX11_behind_0 : decode cX11_behind 0 = .ok (.aload_n 0, 1) := by decide +kernel
theorem dX11_behind_1 : decode cX11_behind 1 = .ok (.iload_n 1, 1) := by decide +kernel
theorem dX11_behind_2 : decode cX11_behind 2 = .ok (.invokevirtual 217, 3) := by decide +kernel
theorem dX11_behind_5 : decode cX11_behind 5 = .ok (.ifCond .eq 21, 3) := by decide +kernel
theorem dX11_behind_8 : decode cX11_behind 8 = .ok (.aload_n 0, 1) := by decide +kernel
theorem dX11_behind_9 : decode cX11_behind 9 = .ok (.iload_n 3, 1) := by decide +kernel
theorem dX11_behind_10 : decode cX11_behind 10 = .ok (.invokevirtual 188, 3) := by decide +kernel
theorem dX11_behind_13 : decode cX11_behind 13 = .ok (.ifCond .eq 13, 3) := by decide +kernel
theorem dX11_behind_16 : decode cX11_behind 16 = .ok (.iload_n 2, 1) := by decide +kernel
theorem dX11_behind_17 : decode cX11_behind 17 = .ok (.ifCond .lt 9, 3) := by decide +kernel
theorem dX11_behind_20 : decode cX11_behind 20 = .ok (.iload_n 2, 1) := by decide +kernel
theorem dX11_behind_21 : decode cX11_behind 21 = .ok (.bipush 99, 2) := by decide +kernel
theorem dX11_behind_23 : decode cX11_behind 23 = .ok (.if_icmp .le 5, 3) := by decide +kernel
theorem dX11_behind_26 : decode cX11_behind 26 = .ok (.iconst (-1), 1) := by decide +kernel
theorem dX11_behind_27 : decode cX11_behind 27 = .ok (.ireturn, 1) := by decide +kernel
theorem dX11_behind_28 : decode cX11_behind 28 = .ok (.aload_n 0, 1) := by decide +kernel
theorem dX11_behind_29 : decode cX11_behind 29 = .ok (.aload_n 0, 1) := by decide +kernel
theorem dX11_behind_30 : decode cX11_behind 30 = .ok (.getfield 75, 3) := by decide +kernel
theorem dX11_behind_33 : decode cX11_behind 33 = .ok (.iload_n 1, 1) := by decide +kernel
theorem dX11_behind_34 : decode cX11_behind 34 = .ok (.aaload, 1) := by decide +kernel
theorem dX11_behind_35 : decode cX11_behind 35 = .ok (.aload_n 0, 1) := by decide +kernel
theorem dX11_behind_36 : decode cX11_behind 36 = .ok (.getfield 49, 3) := by decide +kernel
theorem dX11_behind_39 : decode cX11_behind 39 = .ok (.iload_n 3, 1) := by decide +kernel
theorem dX11_behind_40 : decode cX11_behind 40 = .ok (.invokevirtual 202, 3) := by decide +kernel
theorem dX11_behind_43 : decode cX11_behind 43 = .ok (.iload_n 2, 1) := by decide +kernel
theorem dX11_behind_44 : decode cX11_behind 44 = .ok (.invokevirtual 380, 3) := by decide +kernel
theorem dX11_behind_47 : decode cX11_behind 47 = .ok (.ireturn, 1) := by decide +kernel
theorem dX11_rounds_0 : decode cX11_rounds 0 = .ok (.aload_n 0, 1) := by decide +kernel
theorem dX11_rounds_1 : decode cX11_rounds 1 = .ok (.invokevirtual 176, 3) := by decide +kernel
theorem dX11_rounds_4 : decode cX11_rounds 4 = .ok (.ifCond .eq 11, 3) := by decide +kernel
theorem dX11_rounds_7 : decode cX11_rounds 7 = .ok (.aload_n 0, 1) := by decide +kernel
theorem dX11_rounds_8 : decode cX11_rounds 8 = .ok (.iload_n 1, 1) := by decide +kernel
theorem dX11_rounds_9 : decode cX11_rounds 9 = .ok (.invokevirtual 217, 3) := by decide +kernel
theorem dX11_rounds_12 : decode cX11_rounds 12 = .ok (.ifCond .ne 5, 3) := by decide +kernel
theorem dX11_rounds_15 : decode cX11_rounds 15 = .ok (.iconst (-1), 1) := by decide +kernel
theorem dX11_rounds_16 : decode cX11_rounds 16 = .ok (.ireturn, 1) := by decide +kernel
theorem dX11_rounds_17 : decode cX11_rounds 17 = .ok (.iconst 1, 1) := by decide +kernel
theorem dX11_rounds_18 : decode cX11_rounds 18 = .ok (.istore_n 2, 1) := by decide +kernel
theorem dX11_rounds_19 : decode cX11_rounds 19 = .ok (.iload_n 2, 1) := by decide +kernel
theorem dX11_rounds_20 : decode cX11_rounds 20 = .ok (.bipush 12, 2) := by decide +kernel
theorem dX11_rounds_22 : decode cX11_rounds 22 = .ok (.if_icmp .ge 25, 3) := by decide +kernel
theorem dX11_rounds_25 : decode cX11_rounds 25 = .ok (.aload_n 0, 1) := by decide +kernel
theorem dX11_rounds_26 : decode cX11_rounds 26 = .ok (.aload_n 0, 1) := by decide +kernel
theorem dX11_rounds_27 : decode cX11_rounds 27 = .ok (.getfield 75, 3) := by decide +kernel
theorem dX11_rounds_30 : decode cX11_rounds 30 = .ok (.iload_n 1, 1) := by decide +kernel
theorem dX11_rounds_31 : decode cX11_rounds 31 = .ok (.aaload, 1) := by decide +kernel
theorem dX11_rounds_32 : decode cX11_rounds 32 = .ok (.iload_n 2, 1) := by decide +kernel
theorem dX11_rounds_33 : decode cX11_rounds 33 = .ok (.invokevirtual 384, 3) := by decide +kernel
theorem dX11_rounds_36 : decode cX11_rounds 36 = .ok (.ifCond .eq 5, 3) := by decide +kernel
theorem dX11_rounds_39 : decode cX11_rounds 39 = .ok (.iload_n 2, 1) := by decide +kernel
theorem dX11_rounds_40 : decode cX11_rounds 40 = .ok (.ireturn, 1) := by decide +kernel
theorem dX11_rounds_41 : decode cX11_rounds 41 = .ok (.iinc 2 1, 3) := by decide +kernel
theorem dX11_rounds_44 : decode cX11_rounds 44 = .ok (.goto (-25), 3) := by decide +kernel
theorem dX11_rounds_47 : decode cX11_rounds 47 = .ok (.bipush 12, 2) := by decide +kernel
theorem dX11_rounds_49 : decode cX11_rounds 49 = .ok (.ireturn, 1) := by decide +kernel
theorem dX11_allBackBehind_0 : decode cX11_allBackBehind 0 = .ok (.iconst 0, 1) := by decide +kernel
theorem dX11_allBackBehind_1 : decode cX11_allBackBehind 1 = .ok (.istore_n 3, 1) := by decide +kernel
theorem dX11_allBackBehind_2 : decode cX11_allBackBehind 2 = .ok (.iload_n 3, 1) := by decide +kernel
theorem dX11_allBackBehind_3 : decode cX11_allBackBehind 3 = .ok (.aload_n 0, 1) := by decide +kernel
theorem dX11_allBackBehind_4 : decode cX11_allBackBehind 4 = .ok (.getfield 42, 3) := by decide +kernel
theorem dX11_allBackBehind_7 : decode cX11_allBackBehind 7 = .ok (.getfield 155, 3) := by decide +kernel
theorem dX11_allBackBehind_10 : decode cX11_allBackBehind 10 = .ok (.if_icmp .ge 22, 3) := by decide +kernel
theorem dX11_allBackBehind_13 : decode cX11_allBackBehind 13 = .ok (.aload_n 0, 1) := by decide +kernel
theorem dX11_allBackBehind_14 : decode cX11_allBackBehind 14 = .ok (.aload_n 1, 1) := by decide +kernel
theorem dX11_allBackBehind_15 : decode cX11_allBackBehind 15 = .ok (.iload_n 3, 1) := by decide +kernel
theorem dX11_allBackBehind_16 : decode cX11_allBackBehind 16 = .ok (.iload_n 2, 1) := by decide +kernel
theorem dX11_allBackBehind_17 : decode cX11_allBackBehind 17 = .ok (.invokevirtual 380, 3) := by decide +kernel
theorem dX11_allBackBehind_20 : decode cX11_allBackBehind 20 = .ok (.iload_n 3, 1) := by decide +kernel
theorem dX11_allBackBehind_21 : decode cX11_allBackBehind 21 = .ok (.if_icmp .eq 5, 3) := by decide +kernel
theorem dX11_allBackBehind_24 : decode cX11_allBackBehind 24 = .ok (.iconst 0, 1) := by decide +kernel
theorem dX11_allBackBehind_25 : decode cX11_allBackBehind 25 = .ok (.ireturn, 1) := by decide +kernel
theorem dX11_allBackBehind_26 : decode cX11_allBackBehind 26 = .ok (.iinc 3 1, 3) := by decide +kernel
theorem dX11_allBackBehind_29 : decode cX11_allBackBehind 29 = .ok (.goto (-27), 3) := by decide +kernel
theorem dX11_allBackBehind_32 : decode cX11_allBackBehind 32 = .ok (.iconst 1, 1) := by decide +kernel
theorem dX11_allBackBehind_33 : decode cX11_allBackBehind 33 = .ok (.ireturn, 1) := by decide +kernel
theorem dX11_plaitAlone_0 : decode cX11_plaitAlone 0 = .ok (.aload_n 2, 1) := by decide +kernel
theorem dX11_plaitAlone_1 : decode cX11_plaitAlone 1 = .ok (.aload_n 0, 1) := by decide +kernel
theorem dX11_plaitAlone_2 : decode cX11_plaitAlone 2 = .ok (.getfield 42, 3) := by decide +kernel
theorem dX11_plaitAlone_5 : decode cX11_plaitAlone 5 = .ok (.invokevirtual 143, 3) := by decide +kernel
theorem dX11_plaitAlone_8 : decode cX11_plaitAlone 8 = .ok (.iconst 0, 1) := by decide +kernel
theorem dX11_plaitAlone_9 : decode cX11_plaitAlone 9 = .ok (.istore_n 3, 1) := by decide +kernel
theorem dX11_plaitAlone_10 : decode cX11_plaitAlone 10 = .ok (.iload_n 3, 1) := by decide +kernel
theorem dX11_plaitAlone_11 : decode cX11_plaitAlone 11 = .ok (.aload_n 1, 1) := by decide +kernel
theorem dX11_plaitAlone_12 : decode cX11_plaitAlone 12 = .ok (.getfield 220, 3) := by decide +kernel
theorem dX11_plaitAlone_15 : decode cX11_plaitAlone 15 = .ok (.if_icmp .ge 18, 3) := by decide +kernel
theorem dX11_plaitAlone_18 : decode cX11_plaitAlone 18 = .ok (.aload_n 2, 1) := by decide +kernel
theorem dX11_plaitAlone_19 : decode cX11_plaitAlone 19 = .ok (.aload_n 1, 1) := by decide +kernel
theorem dX11_plaitAlone_20 : decode cX11_plaitAlone 20 = .ok (.iload_n 3, 1) := by decide +kernel
theorem dX11_plaitAlone_21 : decode cX11_plaitAlone 21 = .ok (.invokevirtual 221, 3) := by decide +kernel
theorem dX11_plaitAlone_24 : decode cX11_plaitAlone 24 = .ok (.invokevirtual 388, 3) := by decide +kernel
theorem dX11_plaitAlone_27 : decode cX11_plaitAlone 27 = .ok (.iinc 3 1, 3) := by decide +kernel
theorem dX11_plaitAlone_30 : decode cX11_plaitAlone 30 = .ok (.goto (-20), 3) := by decide +kernel
theorem dX11_plaitAlone_33 : decode cX11_plaitAlone 33 = .ok (.return_, 1) := by decide +kernel
theorem dX11_knot_0 : decode cX11_knot 0 = .ok (.aload_n 0, 1) := by decide +kernel
theorem dX11_knot_1 : decode cX11_knot 1 = .ok (.invokevirtual 176, 3) := by decide +kernel
theorem dX11_knot_4 : decode cX11_knot 4 = .ok (.ifCond .eq 11, 3) := by decide +kernel
theorem dX11_knot_7 : decode cX11_knot 7 = .ok (.aload_n 0, 1) := by decide +kernel
theorem dX11_knot_8 : decode cX11_knot 8 = .ok (.iload_n 1, 1) := by decide +kernel
theorem dX11_knot_9 : decode cX11_knot 9 = .ok (.invokevirtual 217, 3) := by decide +kernel
theorem dX11_knot_12 : decode cX11_knot 12 = .ok (.ifCond .ne 5, 3) := by decide +kernel
theorem dX11_knot_15 : decode cX11_knot 15 = .ok (.iconst (-1), 1) := by decide +kernel
theorem dX11_knot_16 : decode cX11_knot 16 = .ok (.ireturn, 1) := by decide +kernel
theorem dX11_knot_17 : decode cX11_knot 17 = .ok (.aload_n 0, 1) := by decide +kernel
theorem dX11_knot_18 : decode cX11_knot 18 = .ok (.aload_n 0, 1) := by decide +kernel
theorem dX11_knot_19 : decode cX11_knot 19 = .ok (.getfield 75, 3) := by decide +kernel
theorem dX11_knot_22 : decode cX11_knot 22 = .ok (.iload_n 1, 1) := by decide +kernel
theorem dX11_knot_23 : decode cX11_knot 23 = .ok (.aaload, 1) := by decide +kernel
theorem dX11_knot_24 : decode cX11_knot 24 = .ok (.aload_n 0, 1) := by decide +kernel
theorem dX11_knot_25 : decode cX11_knot 25 = .ok (.getfield 86, 3) := by decide +kernel
theorem dX11_knot_28 : decode cX11_knot 28 = .ok (.iconst 0, 1) := by decide +kernel
theorem dX11_knot_29 : decode cX11_knot 29 = .ok (.aaload, 1) := by decide +kernel
theorem dX11_knot_30 : decode cX11_knot 30 = .ok (.invokevirtual 391, 3) := by decide +kernel
theorem dX11_knot_33 : decode cX11_knot 33 = .ok (.aload_n 0, 1) := by decide +kernel
theorem dX11_knot_34 : decode cX11_knot 34 = .ok (.getfield 86, 3) := by decide +kernel
theorem dX11_knot_37 : decode cX11_knot 37 = .ok (.iconst 0, 1) := by decide +kernel
