theorem dX12_in_0 : decode cX12_in 0 = .ok (.iload_n 0, 1) := by decide +kernel
theorem dX12_in_1 : decode cX12_in 1 = .ok (.iload_n 1, 1) := by decide +kernel
theorem dX12_in_2 : decode cX12_in 2 = .ok (.if_icmp .lt 12, 3) := by decide +kernel
theorem dX12_in_5 : decode cX12_in 5 = .ok (.iload_n 0, 1) := by decide +kernel
theorem dX12_in_6 : decode cX12_in 6 = .ok (.iload_n 2, 1) := by decide +kernel
theorem dX12_in_7 : decode cX12_in 7 = .ok (.if_icmp .gt 7, 3) := by decide +kernel
theorem dX12_in_10 : decode cX12_in 10 = .ok (.iconst 1, 1) := by decide +kernel
theorem dX12_in_11 : decode cX12_in 11 = .ok (.goto 4, 3) := by decide +kernel
theorem dX12_in_14 : decode cX12_in 14 = .ok (.iconst 0, 1) := by decide +kernel
theorem dX12_in_15 : decode cX12_in 15 = .ok (.ireturn, 1) := by decide +kernel
theorem dX12_has_0 : decode cX12_has 0 = .ok (.iload_n 0, 1) := by decide +kernel
theorem dX12_has_1 : decode cX12_has 1 = .ok (.iload_n 1, 1) := by decide +kernel
theorem dX12_has_2 : decode cX12_has 2 = .ok (.ishr, 1) := by decide +kernel
theorem dX12_has_3 : decode cX12_has 3 = .ok (.iconst 1, 1) := by decide +kernel
theorem dX12_has_4 : decode cX12_has 4 = .ok (.iand, 1) := by decide +kernel
theorem dX12_has_5 : decode cX12_has 5 = .ok (.iconst 1, 1) := by decide +kernel
theorem dX12_has_6 : decode cX12_has 6 = .ok (.if_icmp .ne 7, 3) := by decide +kernel
theorem dX12_has_9 : decode cX12_has 9 = .ok (.iconst 1, 1) := by decide +kernel
theorem dX12_has_10 : decode cX12_has 10 = .ok (.goto 4, 3) := by decide +kernel
theorem dX12_has_13 : decode cX12_has 13 = .ok (.iconst 0, 1) := by decide +kernel
theorem dX12_has_14 : decode cX12_has 14 = .ok (.ireturn, 1) := by decide +kernel
theorem dX12_init_0 : decode cX12_init 0 = .ok (.aload_n 0, 1) := by decide +kernel
theorem dX12_init_1 : decode cX12_init 1 = .ok (.invokespecial 3, 3) := by decide +kernel
theorem dX12_init_4 : decode cX12_init 4 = .ok (.aload_n 0, 1) := by decide +kernel
theorem dX12_init_5 : decode cX12_init 5 = .ok (.sipush 240, 3) := by decide +kernel
theorem dX12_init_8 : decode cX12_init 8 = .ok (.newarray .int, 2) := by decide +kernel
theorem dX12_init_10 : decode cX12_init 10 = .ok (.putfield 9, 3) := by decide +kernel
theorem dX12_init_13 : decode cX12_init 13 = .ok (.aload_n 0, 1) := by decide +kernel
theorem dX12_init_14 : decode cX12_init 14 = .ok (.sipush 2600, 3) := by decide +kernel
theorem dX12_init_17 : decode cX12_init 17 = .ok (.newarray .int, 2) := by decide +kernel
theorem dX12_init_19 : decode cX12_init 19 = .ok (.putfield 13, 3) := by decide +kernel
theorem dX12_init_22 : decode cX12_init 22 = .ok (.aload_n 0, 1) := by decide +kernel
theorem dX12_init_23 : decode cX12_init 23 = .ok (.sipush 2600, 3) := by decide +kernel
theorem dX12_init_26 : decode cX12_init 26 = .ok (.newarray .int, 2) := by decide +kernel
theorem dX12_init_28 : decode cX12_init 28 = .ok (.putfield 16, 3) := by decide +kernel
theorem dX12_init_31 : decode cX12_init 31 = .ok (.aload_n 0, 1) := by decide +kernel
theorem dX12_init_32 : decode cX12_init 32 = .ok (.iconst 5, 1) := by decide +kernel
theorem dX12_init_33 : decode cX12_init 33 = .ok (.newarray .int, 2) := by decide +kernel
theorem dX12_init_35 : decode cX12_init 35 = .ok (.putfield 19, 3) := by decide +kernel
theorem dX12_init_38 : decode cX12_init 38 = .ok (.aload_n 0, 1) := by decide +kernel
theorem dX12_init_39 : decode cX12_init 39 = .ok (.iconst 5, 1) := by decide +kernel
theorem dX12_init_40 : decode cX12_init 40 = .ok (.newarray .int, 2) := by decide +kernel
theorem dX12_init_42 : decode cX12_init 42 = .ok (.putfield 22, 3) := by decide +kernel
theorem dX12_init_45 : decode cX12_init 45 = .ok (.aload_n 0, 1) := by decide +kernel
theorem dX12_init_46 : decode cX12_init 46 = .ok (.sipush 700, 3) := by decide +kernel
theorem dX12_init_49 : decode cX12_init 49 = .ok (.newarray .int, 2) := by decide +kernel
theorem dX12_init_51 : decode cX12_init 51 = .ok (.putfield 25, 3) := by decide +kernel
theorem dX12_init_54 : decode cX12_init 54 = .ok (.aload_n 0, 1) := by decide +kernel
theorem dX12_init_55 : decode cX12_init 55 = .ok (.sipush 700, 3) := by decide +kernel
theorem dX12_init_58 : decode cX12_init 58 = .ok (.newarray .int, 2) := by decide +kernel
theorem dX12_init_60 : decode cX12_init 60 = .ok (.putfield 28, 3) := by decide +kernel
theorem dX12_init_63 : decode cX12_init 63 = .ok (.aload_n 0, 1) := by decide +kernel
theorem dX12_init_64 : decode cX12_init 64 = .ok (.sipush 700, 3) := by decide +kernel
theorem dX12_init_67 : decode cX12_init 67 = .ok (.newarray .int, 2) := by decide +kernel
theorem dX12_init_69 : decode cX12_init 69 = .ok (.putfield 31, 3) := by decide +kernel
theorem dX12_init_72 : decode cX12_init 72 = .ok (.aload_n 0, 1) := by decide +kernel
theorem dX12_init_73 : decode cX12_init 73 = .ok (.bipush 6, 2) := by decide +kernel
theorem dX12_init_75 : decode cX12_init 75 = .ok (.newarray .int, 2) := by decide +kernel
theorem dX12_init_77 : decode cX12_init 77 = .ok (.putfield 34, 3) := by decide +kernel
theorem dX12_init_80 : decode cX12_init 80 = .ok (.aload_n 0, 1) := by decide +kernel
theorem dX12_init_81 : decode cX12_init 81 = .ok (.bipush 80, 2) := by decide +kernel
theorem dX12_init_83 : decode cX12_init 83 = .ok (.newarray .int, 2) := by decide +kernel
theorem dX12_init_85 : decode cX12_init 85 = .ok (.putfield 37, 3) := by decide +kernel
theorem dX12_init_88 : decode cX12_init 88 = .ok (.aload_n 0, 1) := by decide +kernel
theorem dX12_init_89 : decode cX12_init 89 = .ok (.iconst 3, 1) := by decide +kernel
theorem dX12_init_90 : decode cX12_init 90 = .ok (.newarray .int, 2) := by decide +kernel
theorem dX12_init_92 : decode cX12_init 92 = .ok (.putfield 40, 3) := by decide +kernel
theorem dX12_init_95 : decode cX12_init 95 = .ok (.aload_n 0, 1) := by decide +kernel
theorem dX12_init_96 : decode cX12_init 96 = .ok (.bipush 21, 2) := by decide +kernel
theorem dX12_init_98 : decode cX12_init 98 = .ok (.newarray .int, 2) := by decide +kernel
theorem dX12_init_100 : decode cX12_init 100 = .ok (.putfield 43, 3) := by decide +kernel
theorem dX12_init_103 : decode cX12_init 103 = .ok (.aload_n 0, 1) := by decide +kernel
theorem dX12_init_104 : decode cX12_init 104 = .ok (.iconst 3, 1) := by decide +kernel
theorem dX12_init_105 : decode cX12_init 105 = .ok (.newarray .int, 2) := by decide +kernel
theorem dX12_init_107 : decode cX12_init 107 = .ok (.putfield 46, 3) := by decide +kernel
theorem dX12_init_110 : decode cX12_init 110 = .ok (.aload_n 0, 1) := by decide +kernel
theorem dX12_init_111 : decode cX12_init 111 = .ok (.bipush 21, 2) := by decide +kernel
theorem dX12_init_113 : decode cX12_init 113 = .ok (.newarray .int, 2) := by decide +kernel
theorem dX12_init_115 : decode cX12_init 115 = .ok (.putfield 49, 3) := by decide +kernel
theorem dX12_init_118 : decode cX12_init 118 = .ok (.aload_n 0, 1) := by decide +kernel
theorem dX12_init_119 : decode cX12_init 119 = .ok (.sipush 336, 3) := by decide +kernel
theorem dX12_init_122 : decode cX12_init 122 = .ok (.newarray .int, 2) := by decide +kernel
theorem dX12_init_124 : decode cX12_init 124 = .ok (.putfield 52, 3) := by decide +kernel
theorem dX12_init_127 : decode cX12_init 127 = .ok (.aload_n 0, 1) := by decide +kernel
theorem dX12_init_128 : decode cX12_init 128 = .ok (.bipush 7, 2) := by decide +kernel
theorem dX12_init_130 : decode cX12_init 130 = .ok (.newarray .int, 2) := by decide +kernel
theorem dX12_init_132 : decode cX12_init 132 = .ok (.putfield 55, 3) := by decide +kernel
theorem dX12_init_135 : decode cX12_init 135 = .ok (.aload_n 0, 1) := by decide +kernel
theorem dX12_init_136 : decode cX12_init 136 = .ok (.sipush 398, 3) := by decide +kernel
theorem dX12_init_139 : decode cX12_init 139 = .ok (.newarray .int, 2) := by decide +kernel
theorem dX12_init_141 : decode cX12_init 141 = .ok (.putfield 58, 3) := by decide +kernel
theorem dX12_init_144 : decode cX12_init 144 = .ok (.aload_n 0, 1) := by decide +kernel
theorem dX12_init_145 : decode cX12_init 145 = .ok (.iconst 5, 1) := by decide +kernel
theorem dX12_init_146 : decode cX12_init 146 = .ok (.newarray .int, 2) := by decide +kernel
theorem dX12_init_148 : decode cX12_init 148 = .ok (.putfield 61, 3) := by decide +kernel
theorem dX12_init_151 : decode cX12_init 151 = .ok (.aload_n 0, 1) := by decide +kernel
theorem dX12_init_152 : decode cX12_init 152 = .ok (.iconst (-1), 1) := by decide +kernel
theorem dX12_init_153 : decode cX12_init 153 = .ok (.putfield 64, 3) := by decide +kernel
theorem dX12_init_156 : decode cX12_init 156 = .ok (.aload_n 0, 1) := by decide +kernel
theorem dX12_init_157 : decode cX12_init 157 = .ok (.bipush 88, 2) := by decide +kernel
theorem dX12_init_159 : decode cX12_init 159 = .ok (.newarray .int, 2) := by decide +kernel
theorem dX12_init_161 : decode cX12_init 161 = .ok (.putfield 68, 3) := by decide +kernel
theorem dX12_init_164 : decode cX12_init 164 = .ok (.aload_n 0, 1) := by decide +kernel
theorem dX12_init_165 : decode cX12_init 165 = .ok (.bipush 88, 2) := by decide +kernel
theorem dX12_init_167 : decode cX12_init 167 = .ok (.newarray .int, 2) := by decide +kernel
theorem dX12_init_169 : decode cX12_init 169 = .ok (.putfield 71, 3) := by decide +kernel
theorem dX12_init_172 : decode cX12_init 172 = .ok (.aload_n 0, 1) := by decide +kernel
theorem dX12_init_173 : decode cX12_init 173 = .ok (.bipush 88, 2) := by decide +kernel
theorem dX12_init_175 : decode cX12_init 175 = .ok (.newarray .boolean, 2) := by decide +kernel
theorem dX12_init_177 : decode cX12_init 177 = .ok (.putfield 74, 3) := by decide +kernel
theorem dX12_init_180 : decode cX12_init 180 = .ok (.aload_n 0, 1) := by decide +kernel
theorem dX12_init_181 : decode cX12_init 181 = .ok (.sipush 15920, 3) := by decide +kernel
theorem dX12_init_184 : decode cX12_init 184 = .ok (.newarray .int, 2) := by decide +kernel
theorem dX12_init_186 : decode cX12_init 186 = .ok (.putfield 78, 3) := by decide +kernel
theorem dX12_init_189 : decode cX12_init 189 = .ok (.aload_n 0, 1) := by decide +kernel
theorem dX12_init_190 : decode cX12_init 190 = .ok (.bipush 7, 2) := by decide +kernel
theorem dX12_init_192 : decode cX12_init 192 = .ok (.newarray .int, 2) := by decide +kernel
theorem dX12_init_194 : decode cX12_init 194 = .ok (.putfield 81, 3) := by decide +kernel
theorem dX12_init_197 : decode cX12_init 197 = .ok (.aload_n 0, 1) := by decide +kernel
theorem dX12_init_198 : decode cX12_init 198 = .ok (.bipush 48, 2) := by decide +kernel
theorem dX12_init_200 : decode cX12_init 200 = .ok (.newarray .int, 2) := by decide +kernel
theorem dX12_init_202 : decode cX12_init 202 = .ok (.putfield 84, 3) := by decide +kernel
theorem dX12_init_205 : decode cX12_init 205 = .ok (.aload_n 0, 1) := by decide +kernel
theorem dX12_init_206 : decode cX12_init 206 = .ok (.sipush 5040, 3) := by decide +kernel
theorem dX12_init_209 : decode cX12_init 209 = .ok (.newarray .int, 2) := by decide +kernel
theorem dX12_init_211 : decode cX12_init 211 = .ok (.putfield 87, 3) := by decide +kernel
theorem dX12_init_214 : decode cX12_init 214 = .ok (.aload_n 0, 1) := by decide +kernel
theorem dX12_init_215 : decode cX12_init 215 = .ok (.sipush 5040, 3) := by decide +kernel
theorem dX12_init_218 : decode cX12_init 218 = .ok (.newarray .int, 2) := by decide +kernel
theorem dX12_init_220 : decode cX12_init 220 = .ok (.putfield 90, 3) := by decide +kernel
theorem dX12_init_223 : decode cX12_init 223 = .ok (.aload_n 0, 1) := by decide +kernel
theorem dX12_init_224 : decode cX12_init 224 = .ok (.bipush 7, 2) := by decide +kernel
theorem dX12_init_226 : decode cX12_init 226 = .ok (.newarray .int, 2) := by decide +kernel
theorem dX12_init_228 : decode cX12_init 228 = .ok (.putfield 93, 3) := by decide +kernel
theorem dX12_init_231 : decode cX12_init 231 = .ok (.aload_n 0, 1) := by decide +kernel
theorem dX12_init_232 : decode cX12_init 232 = .ok (.sipush 217, 3) := by decide +kernel
theorem dX12_init_235 : decode cX12_init 235 = .ok (.newarray .int, 2) := by decide +kernel
theorem dX12_init_237 : decode cX12_init 237 = .ok (.putfield 96, 3) := by decide +kernel
theorem dX12_init_240 : decode cX12_init 240 = .ok (.aload_n 0, 1) := by decide +kernel
theorem dX12_init_241 : decode cX12_init 241 = .ok (.bipush 10, 2) := by decide +kernel
theorem dX12_init_243 : decode cX12_init 243 = .ok (.newarray .int, 2) := by decide +kernel
theorem dX12_init_245 : decode cX12_init 245 = .ok (.putfield 99, 3) := by decide +kernel
theorem dX12_init_248 : decode cX12_init 248 = .ok (.aload_n 0, 1) := by decide +kernel
theorem dX12_init_249 : decode cX12_init 249 = .ok (.bipush 10, 2) := by decide +kernel
theorem dX12_init_251 : decode cX12_init 251 = .ok (.newarray .int, 2) := by decide +kernel
theorem dX12_init_253 : decode cX12_init 253 = .ok (.putfield 102, 3) := by decide +kernel
theorem dX12_init_256 : decode cX12_init 256 = .ok (.aload_n 0, 1) := by decide +kernel
theorem dX12_init_257 : decode cX12_init 257 = .ok (.bipush 10, 2) := by decide +kernel
theorem dX12_init_259 : decode cX12_init 259 = .ok (.newarray .int, 2) := by decide +kernel
theorem dX12_init_261 : decode cX12_init 261 = .ok (.putfield 105, 3) := by decide +kernel
theorem dX12_init_264 : decode cX12_init 264 = .ok (.aload_n 0, 1) := by decide +kernel
theorem dX12_init_265 : decode cX12_init 265 = .ok (.bipush 10, 2) := by decide +kernel
theorem dX12_init_267 : decode cX12_init 267 = .ok (.newarray .boolean, 2) := by decide +kernel
theorem dX12_init_269 : decode cX12_init 269 = .ok (.putfield 108, 3) := by decide +kernel
theorem dX12_init_272 : decode cX12_init 272 = .ok (.aload_n 0, 1) := by decide +kernel
theorem dX12_init_273 : decode cX12_init 273 = .ok (.sipush 398, 3) := by decide +kernel
theorem dX12_init_276 : decode cX12_init 276 = .ok (.newarray .int, 2) := by decide +kernel
theorem dX12_init_278 : decode cX12_init 278 = .ok (.putfield 111, 3) := by decide +kernel
theorem dX12_init_281 : decode cX12_init 281 = .ok (.return_, 1) := by decide +kernel
theorem dX12_thrown_0 : decode cX12_thrown 0 = .ok (.aload_n 0, 1) := by decide +kernel
theorem dX12_thrown_1 : decode cX12_thrown 1 = .ok (.getfield 114, 3) := by decide +kernel
theorem dX12_thrown_4 : decode cX12_thrown 4 = .ok (.ireturn, 1) := by decide +kernel
theorem dX12_byteOf_0 : decode cX12_byteOf 0 = .ok (.iload 5, 2) := by decide +kernel
theorem dX12_byteOf_2 : decode cX12_byteOf 2 = .ok (.iconst 4, 1) := by decide +kernel
theorem dX12_byteOf_3 : decode cX12_byteOf 3 = .ok (.if_icmp .ge 7, 3) := by decide +kernel
theorem dX12_byteOf_6 : decode cX12_byteOf 6 = .ok (.iload_n 0, 1) := by decide +kernel
theorem dX12_byteOf_7 : decode cX12_byteOf 7 = .ok (.goto 38, 3) := by decide +kernel
theorem dX12_byteOf_10 : decode cX12_byteOf 10 = .ok (.iload 5, 2) := by decide +kernel
theorem dX12_byteOf_12 : decode cX12_byteOf 12 = .ok (.bipush 8, 2) := by decide +kernel
theorem dX12_byteOf_14 : decode cX12_byteOf 14 = .ok (.if_icmp .ge 7, 3) := by decide +kernel
theorem dX12_byteOf_17 : decode cX12_byteOf 17 = .ok (.iload_n 1, 1) := by decide +kernel
theorem dX12_byteOf_18 : decode cX12_byteOf 18 = .ok (.goto 27, 3) := by decide +kernel
theorem dX12_byteOf_21 : decode cX12_byteOf 21 = .ok (.iload 5, 2) := by decide +kernel
theorem dX12_byteOf_23 : decode cX12_byteOf 23 = .ok (.bipush 12, 2) := by decide +kernel
theorem dX12_byteOf_25 : decode cX12_byteOf 25 = .ok (.if_icmp .ge 7, 3) := by decide +kernel
theorem dX12_byteOf_28 : decode cX12_byteOf 28 = .ok (.iload_n 2, 1) := by decide +kernel
theorem dX12_byteOf_29 : decode cX12_byteOf 29 = .ok (.goto 16, 3) := by decide +kernel
theorem dX12_byteOf_32 : decode cX12_byteOf 32 = .ok (.iload 5, 2) := by decide +kernel
theorem dX12_byteOf_34 : decode cX12_byteOf 34 = .ok (.bipush 16, 2) := by decide +kernel
theorem dX12_byteOf_36 : decode cX12_byteOf 36 = .ok (.if_icmp .ge 7, 3) := by decide +kernel
theorem dX12_byteOf_39 : decode cX12_byteOf 39 = .ok (.iload_n 3, 1) := by decide +kernel
theorem dX12_byteOf_40 : decode cX12_byteOf 40 = .ok (.goto 5, 3) := by decide +kernel
theorem dX12_byteOf_43 : decode cX12_byteOf 43 = .ok (.iload 4, 2) := by decide +kernel
theorem dX12_byteOf_45 : decode cX12_byteOf 45 = .ok (.istore 6, 2) := by decide +kernel
theorem dX12_byteOf_47 : decode cX12_byteOf 47 = .ok (.iload 6, 2) := by decide +kernel
theorem dX12_byteOf_49 : decode cX12_byteOf 49 = .ok (.bipush 24, 2) := by decide +kernel
theorem dX12_byteOf_51 : decode cX12_byteOf 51 = .ok (.bipush 8, 2) := by decide +kernel
theorem dX12_byteOf_53 : decode cX12_byteOf 53 = .ok (.iload 5, 2) := by decide +kernel
theorem dX12_byteOf_55 : decode cX12_byteOf 55 = .ok (.iconst 4, 1) := by decide +kernel
theorem dX12_byteOf_56 : decode cX12_byteOf 56 = .ok (.irem, 1) := by decide +kernel
theorem dX12_byteOf_57 : decode cX12_byteOf 57 = .ok (.imul, 1) := by decide +kernel
theorem dX12_byteOf_58 : decode cX12_byteOf 58 = .ok (.isub, 1) := by decide +kernel
theorem dX12_byteOf_59 : decode cX12_byteOf 59 = .ok (.ishr, 1) := by decide +kernel
theorem dX12_byteOf_60 : decode cX12_byteOf 60 = .ok (.sipush 255, 3) := by decide +kernel
theorem dX12_byteOf_63 : decode cX12_byteOf 63 = .ok (.iand, 1) := by decide +kernel
theorem dX12_byteOf_64 : decode cX12_byteOf 64 = .ok (.ireturn, 1) := by decide +kernel
theorem dX12_feed_0 : decode cX12_feed 0 = .ok (.iconst 0, 1) := by decide +kernel
theorem dX12_feed_1 : decode cX12_feed 1 = .ok (.istore 6, 2) := by decide +kernel
theorem dX12_feed_3 : decode cX12_feed 3 = .ok (.iconst 0, 1) := by decide +kernel
theorem dX12_feed_4 : decode cX12_feed 4 = .ok (.istore 7, 2) := by decide +kernel
theorem dX12_feed_6 : decode cX12_feed 6 = .ok (.iload 7, 2) := by decide +kernel
theorem dX12_feed_8 : decode cX12_feed 8 = .ok (.bipush 20, 2) := by decide +kernel
theorem dX12_feed_10 : decode cX12_feed 10 = .ok (.if_icmp .ge 34, 3) := by decide +kernel
theorem dX12_feed_13 : decode cX12_feed 13 = .ok (.iload 6, 2) := by decide +kernel
theorem dX12_feed_15 : decode cX12_feed 15 = .ok (.iload_n 1, 1) := by decide +kernel
theorem dX12_feed_16 : decode cX12_feed 16 = .ok (.iload_n 2, 1) := by decide +kernel
theorem dX12_feed_17 : decode cX12_feed 17 = .ok (.iload_n 3, 1) := by decide +kernel
theorem dX12_feed_18 : decode cX12_feed 18 = .ok (.iload 4, 2) := by decide +kernel
theorem dX12_feed_20 : decode cX12_feed 20 = .ok (.iload 5, 2) := by decide +kernel
theorem dX12_feed_22 : decode cX12_feed 22 = .ok (.iload 7, 2) := by decide +kernel
theorem dX12_feed_24 : decode cX12_feed 24 = .ok (.invokestatic 117, 3) := by decide +kernel
theorem dX12_feed_27 : decode cX12_feed 27 = .ok (.ifCond .eq 7, 3) := by decide +kernel
theorem dX12_feed_30 : decode cX12_feed 30 = .ok (.iconst 1, 1) := by decide +kernel
theorem dX12_feed_31 : decode cX12_feed 31 = .ok (.goto 4, 3) := by decide +kernel
theorem dX12_feed_34 : decode cX12_feed 34 = .ok (.iconst 0, 1) := by decide +kernel
theorem dX12_feed_35 : decode cX12_feed 35 = .ok (.iadd, 1) := by decide +kernel
theorem dX12_feed_36 : decode cX12_feed 36 = .ok (.istore 6, 2) := by decide +kernel
theorem dX12_feed_38 : decode cX12_feed 38 = .ok (.iinc 7 1, 3) := by decide +kernel
theorem dX12_feed_41 : decode cX12_feed 41 = .ok (.goto (-35), 3) := by decide +kernel
theorem dX12_feed_44 : decode cX12_feed 44 = .ok (.aload_n 0, 1) := by decide +kernel
theorem dX12_feed_45 : decode cX12_feed 45 = .ok (.getfield 121, 3) := by decide +kernel
theorem dX12_feed_48 : decode cX12_feed 48 = .ok (.iload 6, 2) := by decide +kernel
theorem dX12_feed_50 : decode cX12_feed 50 = .ok (.iadd, 1) := by decide +kernel
theorem dX12_feed_51 : decode cX12_feed 51 = .ok (.sipush 240, 3) := by decide +kernel
theorem dX12_feed_54 : decode cX12_feed 54 = .ok (.if_icmp .le 5, 3) := by decide +kernel
theorem dX12_feed_57 : decode cX12_feed 57 = .ok (.iconst (-1), 1) := by decide +kernel
theorem dX12_feed_58 : decode cX12_feed 58 = .ok (.ireturn, 1) := by decide +kernel
theorem dX12_feed_59 : decode cX12_feed 59 = .ok (.iconst 0, 1) := by decide +kernel
theorem dX12_feed_60 : decode cX12_feed 60 = .ok (.istore 7, 2) := by decide +kernel
theorem dX12_feed_62 : decode cX12_feed 62 = .ok (.iload 7, 2) := by decide +kernel
theorem dX12_feed_64 : decode cX12_feed 64 = .ok (.bipush 20, 2) := by decide +kernel
theorem dX12_feed_66 : decode cX12_feed 66 = .ok (.if_icmp .ge 49, 3) := by decide +kernel
theorem dX12_feed_69 : decode cX12_feed 69 = .ok (.iload_n 1, 1) := by decide +kernel
theorem dX12_feed_70 : decode cX12_feed 70 = .ok (.iload_n 2, 1) := by decide +kernel
theorem dX12_feed_71 : decode cX12_feed 71 = .ok (.iload_n 3, 1) := by decide +kernel
theorem dX12_feed_72 : decode cX12_feed 72 = .ok (.iload 4, 2) := by decide +kernel
theorem dX12_feed_74 : decode cX12_feed 74 = .ok (.iload 5, 2) := by decide +kernel
theorem dX12_feed_76 : decode cX12_feed 76 = .ok (.iload 7, 2) := by decide +kernel
theorem dX12_feed_78 : decode cX12_feed 78 = .ok (.invokestatic 117, 3) := by decide +kernel
theorem dX12_feed_81 : decode cX12_feed 81 = .ok (.istore 8, 2) := by decide +kernel
theorem dX12_feed_83 : decode cX12_feed 83 = .ok (.iload 8, 2) := by decide +kernel
theorem dX12_feed_85 : decode cX12_feed 85 = .ok (.ifCond .eq 24, 3) := by decide +kernel
theorem dX12_feed_88 : decode cX12_feed 88 = .ok (.aload_n 0, 1) := by decide +kernel
theorem dX12_feed_89 : decode cX12_feed 89 = .ok (.getfield 9, 3) := by decide +kernel
theorem dX12_feed_92 : decode cX12_feed 92 = .ok (.aload_n 0, 1) := by decide +kernel
theorem dX12_feed_93 : decode cX12_feed 93 = .ok (.getfield 121, 3) := by decide +kernel
theorem dX12_feed_96 : decode cX12_feed 96 = .ok (.iload 8, 2) := by decide +kernel
theorem dX12_feed_98 : decode cX12_feed 98 = .ok (.iastore, 1) := by decide +kernel
theorem dX12_feed_99 : decode cX12_feed 99 = .ok (.aload_n 0, 1) := by decide +kernel
theorem dX12_feed_100 : decode cX12_feed 100 = .ok (.dup, 1) := by decide +kernel
theorem dX12_feed_101 : decode cX12_feed 101 = .ok (.getfield 121, 3) := by decide +kernel
theorem dX12_feed_104 : decode cX12_feed 104 = .ok (.iconst 1, 1) := by decide +kernel
theorem dX12_feed_105 : decode cX12_feed 105 = .ok (.iadd, 1) := by decide +kernel
theorem dX12_feed_106 : decode cX12_feed 106 = .ok (.putfield 121, 3) := by decide +kernel
theorem dX12_feed_109 : decode cX12_feed 109 = .ok (.iinc 7 1, 3) := by decide +kernel
theorem dX12_feed_112 : decode cX12_feed 112 = .ok (.goto (-50), 3) := by decide +kernel
theorem dX12_feed_115 : decode cX12_feed 115 = .ok (.aload_n 0, 1) := by decide +kernel
theorem dX12_feed_116 : decode cX12_feed 116 = .ok (.getfield 121, 3) := by decide +kernel
theorem dX12_feed_119 : decode cX12_feed 119 = .ok (.ireturn, 1) := by decide +kernel
theorem dX12_end_0 : decode cX12_end 0 = .ok (.iload_n 1, 1) := by decide +kernel
theorem dX12_end_1 : decode cX12_end 1 = .ok (.ifCond .lt 11, 3) := by decide +kernel
theorem dX12_end_4 : decode cX12_end 4 = .ok (.iload_n 1, 1) := by decide +kernel
theorem dX12_end_5 : decode cX12_end 5 = .ok (.aload_n 0, 1) := by decide +kernel
theorem dX12_end_6 : decode cX12_end 6 = .ok (.getfield 121, 3) := by decide +kernel
theorem dX12_end_9 : decode cX12_end 9 = .ok (.if_icmp .le 5, 3) := by decide +kernel
theorem dX12_end_12 : decode cX12_end 12 = .ok (.iconst 0, 1) := by decide +kernel
theorem dX12_end_13 : decode cX12_end 13 = .ok (.ireturn, 1) := by decide +kernel
theorem dX12_end_14 : decode cX12_end 14 = .ok (.aload_n 0, 1) := by decide +kernel
theorem dX12_end_15 : decode cX12_end 15 = .ok (.iload_n 1, 1) := by decide +kernel
theorem dX12_end_16 : decode cX12_end 16 = .ok (.putfield 121, 3) := by decide +kernel
theorem dX12_end_19 : decode cX12_end 19 = .ok (.iconst 1, 1) := by decide +kernel
theorem dX12_end_20 : decode cX12_end 20 = .ok (.ireturn, 1) := by decide +kernel
theorem dX12_here_0 : decode cX12_here 0 = .ok (.aload_n 0, 1) := by decide +kernel
theorem dX12_here_1 : decode cX12_here 1 = .ok (.getfield 124, 3) := by decide +kernel
theorem dX12_here_4 : decode cX12_here 4 = .ok (.aload_n 0, 1) := by decide +kernel
theorem dX12_here_5 : decode cX12_here 5 = .ok (.getfield 121, 3) := by decide +kernel
theorem dX12_here_8 : decode cX12_here 8 = .ok (.if_icmp .ge 15, 3) := by decide +kernel
theorem dX12_here_11 : decode cX12_here 11 = .ok (.aload_n 0, 1) := by decide +kernel
theorem dX12_here_12 : decode cX12_here 12 = .ok (.getfield 9, 3) := by decide +kernel
theorem dX12_here_15 : decode cX12_here 15 = .ok (.aload_n 0, 1) := by decide +kernel
theorem dX12_here_16 : decode cX12_here 16 = .ok (.getfield 124, 3) := by decide +kernel
theorem dX12_here_19 : decode cX12_here 19 = .ok (.iaload, 1) := by decide +kernel
theorem dX12_here_20 : decode cX12_here 20 = .ok (.goto 4, 3) := by decide +kernel
theorem dX12_here_23 : decode cX12_here 23 = .ok (.iconst (-1), 1) := by decide +kernel
theorem dX12_here_24 : decode cX12_here 24 = .ok (.ireturn, 1) := by decide +kernel
theorem dX12_look_0 : decode cX12_look 0 = .ok (.aload_n 0, 1) := by decide +kernel
theorem dX12_look_1 : decode cX12_look 1 = .ok (.invokevirtual 127, 3) := by decide +kernel
theorem dX12_look_4 : decode cX12_look 4 = .ok (.bipush 32, 2) := by decide +kernel
theorem dX12_look_6 : decode cX12_look 6 = .ok (.if_icmp .ne 16, 3) := by decide +kernel
theorem dX12_look_9 : decode cX12_look 9 = .ok (.aload_n 0, 1) := by decide +kernel
theorem dX12_look_10 : decode cX12_look 10 = .ok (.dup, 1) := by decide +kernel
theorem dX12_look_11 : decode cX12_look 11 = .ok (.getfield 124, 3) := by decide +kernel
theorem dX12_look_14 : decode cX12_look 14 = .ok (.iconst 1, 1) := by decide +kernel
theorem dX12_look_15 : decode cX12_look 15 = .ok (.iadd, 1) := by decide +kernel
theorem dX12_look_16 : decode cX12_look 16 = .ok (.putfield 124, 3) := by decide +kernel
theorem dX12_look_19 : decode cX12_look 19 = .ok (.goto (-19), 3) := by decide +kernel
theorem dX12_look_22 : decode cX12_look 22 = .ok (.aload_n 0, 1) := by decide +kernel
theorem dX12_look_23 : decode cX12_look 23 = .ok (.invokevirtual 127, 3) := by decide +kernel
theorem dX12_look_26 : decode cX12_look 26 = .ok (.ireturn, 1) := by decide +kernel
theorem dX12_bad_0 : decode cX12_bad 0 = .ok (.aload_n 0, 1) := by decide +kernel
theorem dX12_bad_1 : decode cX12_bad 1 = .ok (.aload_n 0, 1) := by decide +kernel
theorem dX12_bad_2 : decode cX12_bad 2 = .ok (.getfield 131, 3) := by decide +kernel
theorem dX12_bad_5 : decode cX12_bad 5 = .ok (.iconst (-1), 1) := by decide +kernel
theorem dX12_bad_6 : decode cX12_bad 6 = .ok (.if_icmp .ne 10, 3) := by decide +kernel
theorem dX12_bad_9 : decode cX12_bad 9 = .ok (.aload_n 0, 1) := by decide +kernel
theorem dX12_bad_10 : decode cX12_bad 10 = .ok (.getfield 124, 3) := by decide +kernel
theorem dX12_bad_13 : decode cX12_bad 13 = .ok (.goto 7, 3) := by decide +kernel
theorem dX12_bad_16 : decode cX12_bad 16 = .ok (.aload_n 0, 1) := by decide +kernel
theorem dX12_bad_17 : decode cX12_bad 17 = .ok (.getfield 131, 3) := by decide +kernel
theorem dX12_bad_20 : decode cX12_bad 20 = .ok (.putfield 131, 3) := by decide +kernel
theorem dX12_bad_23 : decode cX12_bad 23 = .ok (.return_, 1) := by decide +kernel
theorem dX12_isDigit_0 : decode cX12_isDigit 0 = .ok (.iload_n 0, 1) := by decide +kernel
theorem dX12_isDigit_1 : decode cX12_isDigit 1 = .ok (.bipush 48, 2) := by decide +kernel
theorem dX12_isDigit_3 : decode cX12_isDigit 3 = .ok (.if_icmp .lt 13, 3) := by decide +kernel
theorem dX12_isDigit_6 : decode cX12_isDigit 6 = .ok (.iload_n 0, 1) := by decide +kernel
theorem dX12_isDigit_7 : decode cX12_isDigit 7 = .ok (.bipush 57, 2) := by decide +kernel
theorem dX12_isDigit_9 : decode cX12_isDigit 9 = .ok (.if_icmp .gt 7, 3) := by decide +kernel
theorem dX12_isDigit_12 : decode cX12_isDigit 12 = .ok (.iconst 1, 1) := by decide +kernel
theorem dX12_isDigit_13 : decode cX12_isDigit 13 = .ok (.goto 4, 3) := by decide +kernel
theorem dX12_isDigit_16 : decode cX12_isDigit 16 = .ok (.iconst 0, 1) := by decide +kernel
theorem dX12_isDigit_17 : decode cX12_isDigit 17 = .ok (.ireturn, 1) := by decide +kernel
theorem dX12_put_0 : decode cX12_put 0 = .ok (.aload_n 0, 1) := by decide +kernel
theorem dX12_put_1 : decode cX12_put 1 = .ok (.getfield 13, 3) := by decide +kernel
theorem dX12_put_4 : decode cX12_put 4 = .ok (.sipush 520, 3) := by decide +kernel
theorem dX12_put_7 : decode cX12_put 7 = .ok (.aload_n 0, 1) := by decide +kernel
theorem dX12_put_8 : decode cX12_put 8 = .ok (.getfield 134, 3) := by decide +kernel
theorem dX12_put_11 : decode cX12_put 11 = .ok (.imul, 1) := by decide +kernel
theorem dX12_put_12 : decode cX12_put 12 = .ok (.aload_n 0, 1) := by decide +kernel
theorem dX12_put_13 : decode cX12_put 13 = .ok (.getfield 19, 3) := by decide +kernel
theorem dX12_put_16 : decode cX12_put 16 = .ok (.aload_n 0, 1) := by decide +kernel
theorem dX12_put_17 : decode cX12_put 17 = .ok (.getfield 134, 3) := by decide +kernel
theorem dX12_put_20 : decode cX12_put 20 = .ok (.iaload, 1) := by decide +kernel
theorem dX12_put_21 : decode cX12_put 21 = .ok (.iadd, 1) := by decide +kernel
theorem dX12_put_22 : decode cX12_put 22 = .ok (.iload_n 1, 1) := by decide +kernel
theorem dX12_put_23 : decode cX12_put 23 = .ok (.iastore, 1) := by decide +kernel
theorem dX12_put_24 : decode cX12_put 24 = .ok (.aload_n 0, 1) := by decide +kernel
theorem dX12_put_25 : decode cX12_put 25 = .ok (.getfield 16, 3) := by decide +kernel
theorem dX12_put_28 : decode cX12_put 28 = .ok (.sipush 520, 3) := by decide +kernel
theorem dX12_put_31 : decode cX12_put 31 = .ok (.aload_n 0, 1) := by decide +kernel
theorem dX12_put_32 : decode cX12_put 32 = .ok (.getfield 134, 3) := by decide +kernel
theorem dX12_put_35 : decode cX12_put 35 = .ok (.imul, 1) := by decide +kernel
theorem dX12_put_36 : decode cX12_put 36 = .ok (.aload_n 0, 1) := by decide +kernel
theorem dX12_put_37 : decode cX12_put 37 = .ok (.getfield 19, 3) := by decide +kernel
theorem dX12_put_40 : decode cX12_put 40 = .ok (.aload_n 0, 1) := by decide +kernel
theorem dX12_put_41 : decode cX12_put 41 = .ok (.getfield 134, 3) := by decide +kernel
theorem dX12_put_44 : decode cX12_put 44 = .ok (.iaload, 1) := by decide +kernel
theorem dX12_put_45 : decode cX12_put 45 = .ok (.iadd, 1) := by decide +kernel
theorem dX12_put_46 : decode cX12_put 46 = .ok (.iload_n 2, 1) := by decide +kernel
theorem dX12_put_47 : decode cX12_put 47 = .ok (.iastore, 1) := by decide +kernel
theorem dX12_put_48 : decode cX12_put 48 = .ok (.aload_n 0, 1) := by decide +kernel
theorem dX12_put_49 : decode cX12_put 49 = .ok (.getfield 19, 3) := by decide +kernel
theorem dX12_put_52 : decode cX12_put 52 = .ok (.aload_n 0, 1) := by decide +kernel
theorem dX12_put_53 : decode cX12_put 53 = .ok (.getfield 134, 3) := by decide +kernel
theorem dX12_put_56 : decode cX12_put 56 = .ok (.dup2, 1) := by decide +kernel
theorem dX12_put_57 : decode cX12_put 57 = .ok (.iaload, 1) := by decide +kernel
theorem dX12_put_58 : decode cX12_put 58 = .ok (.iconst 1, 1) := by decide +kernel
theorem dX12_put_59 : decode cX12_put 59 = .ok (.iadd, 1) := by decide +kernel
theorem dX12_put_60 : decode cX12_put 60 = .ok (.iastore, 1) := by decide +kernel
theorem dX12_put_61 : decode cX12_put 61 = .ok (.return_, 1) := by decide +kernel
theorem dX12_letterOf_0 : decode cX12_letterOf 0 = .ok (.iload_n 0, 1) := by decide +kernel
theorem dX12_letterOf_1 : decode cX12_letterOf 1 = .ok (.bipush 116, 2) := by decide +kernel
theorem dX12_letterOf_3 : decode cX12_letterOf 3 = .ok (.if_icmp .ne 7, 3) := by decide +kernel
theorem dX12_letterOf_6 : decode cX12_letterOf 6 = .ok (.iconst 0, 1) := by decide +kernel
theorem dX12_letterOf_7 : decode cX12_letterOf 7 = .ok (.goto 54, 3) := by decide +kernel
theorem dX12_letterOf_10 : decode cX12_letterOf 10 = .ok (.iload_n 0, 1) := by decide +kernel
theorem dX12_letterOf_11 : decode cX12_letterOf 11 = .ok (.bipush 115, 2) := by decide +kernel
theorem dX12_letterOf_13 : decode cX12_letterOf 13 = .ok (.if_icmp .ne 7, 3) := by decide +kernel
theorem dX12_letterOf_16 : decode cX12_letterOf 16 = .ok (.iconst 1, 1) := by decide +kernel
theorem dX12_letterOf_17 : decode cX12_letterOf 17 = .ok (.goto 44, 3) := by decide +kernel
theorem dX12_letterOf_20 : decode cX12_letterOf 20 = .ok (.iload_n 0, 1) := by decide +kernel
theorem dX12_letterOf_21 : decode cX12_letterOf 21 = .ok (.bipush 117, 2) := by decide +kernel
theorem dX12_letterOf_23 : decode cX12_letterOf 23 = .ok (.if_icmp .ne 7, 3) := by decide +kernel
theorem dX12_letterOf_26 : decode cX12_letterOf 26 = .ok (.iconst 2, 1) := by decide +kernel
theorem dX12_letterOf_27 : decode cX12_letterOf 27 = .ok (.goto 34, 3) := by decide +kernel
theorem dX12_letterOf_30 : decode cX12_letterOf 30 = .ok (.iload_n 0, 1) := by decide +kernel
theorem dX12_letterOf_31 : decode cX12_letterOf 31 = .ok (.bipush 110, 2) := by decide +kernel
theorem dX12_letterOf_33 : decode cX12_letterOf 33 = .ok (.if_icmp .ne 7, 3) := by decide +kernel
theorem dX12_letterOf_36 : decode cX12_letterOf 36 = .ok (.iconst 3, 1) := by decide +kernel
theorem dX12_letterOf_37 : decode cX12_letterOf 37 = .ok (.goto 24, 3) := by decide +kernel
theorem dX12_letterOf_40 : decode cX12_letterOf 40 = .ok (.iload_n 0, 1) := by decide +kernel
theorem dX12_letterOf_41 : decode cX12_letterOf 41 = .ok (.bipush 104, 2) := by decide +kernel
theorem dX12_letterOf_43 : decode cX12_letterOf 43 = .ok (.if_icmp .ne 7, 3) := by decide +kernel
theorem dX12_letterOf_46 : decode cX12_letterOf 46 = .ok (.iconst 4, 1) := by decide +kernel
theorem dX12_letterOf_47 : decode cX12_letterOf 47 = .ok (.goto 14, 3) := by decide +kernel
theorem dX12_letterOf_50 : decode cX12_letterOf 50 = .ok (.iload_n 0, 1) := by decide +kernel
theorem dX12_letterOf_51 : decode cX12_letterOf 51 = .ok (.bipush 98, 2) := by decide +kernel
theorem dX12_letterOf_53 : decode cX12_letterOf 53 = .ok (.if_icmp .ne 7, 3) := by decide +kernel
theorem dX12_letterOf_56 : decode cX12_letterOf 56 = .ok (.iconst 5, 1) := by decide +kernel
theorem dX12_letterOf_57 : decode cX12_letterOf 57 = .ok (.goto 4, 3) := by decide +kernel
theorem dX12_letterOf_60 : decode cX12_letterOf 60 = .ok (.iconst (-1), 1) := by decide +kernel
theorem dX12_letterOf_61 : decode cX12_letterOf 61 = .ok (.ireturn, 1) := by decide +kernel
theorem dX12_opens_0 : decode cX12_opens 0 = .ok (.aload_n 0, 1) := by decide +kernel
theorem dX12_opens_1 : decode cX12_opens 1 = .ok (.getfield 137, 3) := by decide +kernel
theorem dX12_opens_4 : decode cX12_opens 4 = .ok (.bipush 6, 2) := by decide +kernel
theorem dX12_opens_6 : decode cX12_opens 6 = .ok (.if_icmp .ne 7, 3) := by decide +kernel
theorem dX12_opens_9 : decode cX12_opens 9 = .ok (.aload_n 0, 1) := by decide +kernel
theorem dX12_opens_10 : decode cX12_opens 10 = .ok (.invokevirtual 140, 3) := by decide +kernel
theorem dX12_opens_13 : decode cX12_opens 13 = .ok (.aload_n 0, 1) := by decide +kernel
theorem dX12_opens_14 : decode cX12_opens 14 = .ok (.dup, 1) := by decide +kernel
theorem dX12_opens_15 : decode cX12_opens 15 = .ok (.getfield 137, 3) := by decide +kernel
theorem dX12_opens_18 : decode cX12_opens 18 = .ok (.iconst 1, 1) := by decide +kernel
theorem dX12_opens_19 : decode cX12_opens 19 = .ok (.iadd, 1) := by decide +kernel
theorem dX12_opens_20 : decode cX12_opens 20 = .ok (.putfield 137, 3) := by decide +kernel
theorem dX12_opens_23 : decode cX12_opens 23 = .ok (.aload_n 0, 1) := by decide +kernel
theorem dX12_opens_24 : decode cX12_opens 24 = .ok (.dup, 1) := by decide +kernel
theorem dX12_opens_25 : decode cX12_opens 25 = .ok (.getfield 124, 3) := by decide +kernel
theorem dX12_opens_28 : decode cX12_opens 28 = .ok (.iconst 1, 1) := by decide +kernel
theorem dX12_opens_29 : decode cX12_opens 29 = .ok (.iadd, 1) := by decide +kernel
theorem dX12_opens_30 : decode cX12_opens 30 = .ok (.putfield 124, 3) := by decide +kernel
theorem dX12_opens_33 : decode cX12_opens 33 = .ok (.return_, 1) := by decide +kernel
theorem dX12_closes_0 : decode cX12_closes 0 = .ok (.aload_n 0, 1) := by decide +kernel
theorem dX12_closes_1 : decode cX12_closes 1 = .ok (.getfield 131, 3) := by decide +kernel
theorem dX12_closes_4 : decode cX12_closes 4 = .ok (.iconst (-1), 1) := by decide +kernel
theorem dX12_closes_5 : decode cX12_closes 5 = .ok (.if_icmp .ne 15, 3) := by decide +kernel
theorem dX12_closes_8 : decode cX12_closes 8 = .ok (.aload_n 0, 1) := by decide +kernel
theorem dX12_closes_9 : decode cX12_closes 9 = .ok (.invokevirtual 143, 3) := by decide +kernel
theorem dX12_closes_12 : decode cX12_closes 12 = .ok (.iload_n 1, 1) := by decide +kernel
theorem dX12_closes_13 : decode cX12_closes 13 = .ok (.if_icmp .eq 7, 3) := by decide +kernel
theorem dX12_closes_16 : decode cX12_closes 16 = .ok (.aload_n 0, 1) := by decide +kernel
theorem dX12_closes_17 : decode cX12_closes 17 = .ok (.invokevirtual 140, 3) := by decide +kernel
theorem dX12_closes_20 : decode cX12_closes 20 = .ok (.aload_n 0, 1) := by decide +kernel
theorem dX12_closes_21 : decode cX12_closes 21 = .ok (.dup, 1) := by decide +kernel
theorem dX12_closes_22 : decode cX12_closes 22 = .ok (.getfield 124, 3) := by decide +kernel
theorem dX12_closes_25 : decode cX12_closes 25 = .ok (.iconst 1, 1) := by decide +kernel
theorem dX12_closes_26 : decode cX12_closes 26 = .ok (.iadd, 1) := by decide +kernel
theorem dX12_closes_27 : decode cX12_closes 27 = .ok (.putfield 124, 3) := by decide +kernel
theorem dX12_closes_30 : decode cX12_closes 30 = .ok (.aload_n 0, 1) := by decide +kernel
theorem dX12_closes_31 : decode cX12_closes 31 = .ok (.dup, 1) := by decide +kernel
theorem dX12_closes_32 : decode cX12_closes 32 = .ok (.getfield 137, 3) := by decide +kernel
theorem dX12_closes_35 : decode cX12_closes 35 = .ok (.iconst 1, 1) := by decide +kernel
theorem dX12_closes_36 : decode cX12_closes 36 = .ok (.isub, 1) := by decide +kernel
theorem dX12_closes_37 : decode cX12_closes 37 = .ok (.putfield 137, 3) := by decide +kernel
theorem dX12_closes_40 : decode cX12_closes 40 = .ok (.return_, 1) := by decide +kernel
theorem dX12_plainNumber_0 : decode cX12_plainNumber 0 = .ok (.iconst 0, 1) := by decide +kernel
theorem dX12_plainNumber_1 : decode cX12_plainNumber 1 = .ok (.istore_n 1, 1) := by decide +kernel
theorem dX12_plainNumber_2 : decode cX12_plainNumber 2 = .ok (.iconst 0, 1) := by decide +kernel
theorem dX12_plainNumber_3 : decode cX12_plainNumber 3 = .ok (.istore_n 2, 1) := by decide +kernel
theorem dX12_plainNumber_4 : decode cX12_plainNumber 4 = .ok (.iload_n 2, 1) := by decide +kernel
theorem dX12_plainNumber_5 : decode cX12_plainNumber 5 = .ok (.iconst 4, 1) := by decide +kernel
theorem dX12_plainNumber_6 : decode cX12_plainNumber 6 = .ok (.if_icmp .ge 42, 3) := by decide +kernel
theorem dX12_plainNumber_9 : decode cX12_plainNumber 9 = .ok (.aload_n 0, 1) := by decide +kernel
theorem dX12_plainNumber_10 : decode cX12_plainNumber 10 = .ok (.invokevirtual 127, 3) := by decide +kernel
theorem dX12_plainNumber_13 : decode cX12_plainNumber 13 = .ok (.invokestatic 146, 3) := by decide +kernel
theorem dX12_plainNumber_16 : decode cX12_plainNumber 16 = .ok (.ifCond .eq 32, 3) := by decide +kernel
theorem dX12_plainNumber_19 : decode cX12_plainNumber 19 = .ok (.bipush 10, 2) := by decide +kernel
theorem dX12_plainNumber_21 : decode cX12_plainNumber 21 = .ok (.iload_n 1, 1) := by decide +kernel
theorem dX12_plainNumber_22 : decode cX12_plainNumber 22 = .ok (.imul, 1) := by decide +kernel
theorem dX12_plainNumber_23 : decode cX12_plainNumber 23 = .ok (.aload_n 0, 1) := by decide +kernel
theorem dX12_plainNumber_24 : decode cX12_plainNumber 24 = .ok (.invokevirtual 127, 3) := by decide +kernel
theorem dX12_plainNumber_27 : decode cX12_plainNumber 27 = .ok (.iadd, 1) := by decide +kernel
theorem dX12_plainNumber_28 : decode cX12_plainNumber 28 = .ok (.bipush 48, 2) := by decide +kernel
theorem dX12_plainNumber_30 : decode cX12_plainNumber 30 = .ok (.isub, 1) := by decide +kernel
theorem dX12_plainNumber_31 : decode cX12_plainNumber 31 = .ok (.istore_n 1, 1) := by decide +kernel
theorem dX12_plainNumber_32 : decode cX12_plainNumber 32 = .ok (.aload_n 0, 1) := by decide +kernel
theorem dX12_plainNumber_33 : decode cX12_plainNumber 33 = .ok (.dup, 1) := by decide +kernel
theorem dX12_plainNumber_34 : decode cX12_plainNumber 34 = .ok (.getfield 124, 3) := by decide +kernel
theorem dX12_plainNumber_37 : decode cX12_plainNumber 37 = .ok (.iconst 1, 1) := by decide +kernel
theorem dX12_plainNumber_38 : decode cX12_plainNumber 38 = .ok (.iadd, 1) := by decide +kernel
theorem dX12_plainNumber_39 : decode cX12_plainNumber 39 = .ok (.putfield 124, 3) := by decide +kernel
theorem dX12_plainNumber_42 : decode cX12_plainNumber 42 = .ok (.iinc 2 1, 3) := by decide +kernel
theorem dX12_plainNumber_45 : decode cX12_plainNumber 45 = .ok (.goto (-41), 3) := by decide +kernel
theorem dX12_plainNumber_48 : decode cX12_plainNumber 48 = .ok (.aload_n 0, 1) := by decide +kernel
theorem dX12_plainNumber_49 : decode cX12_plainNumber 49 = .ok (.invokevirtual 127, 3) := by decide +kernel
theorem dX12_plainNumber_52 : decode cX12_plainNumber 52 = .ok (.invokestatic 146, 3) := by decide +kernel
theorem dX12_plainNumber_55 : decode cX12_plainNumber 55 = .ok (.ifCond .eq 7, 3) := by decide +kernel
theorem dX12_plainNumber_58 : decode cX12_plainNumber 58 = .ok (.aload_n 0, 1) := by decide +kernel
theorem dX12_plainNumber_59 : decode cX12_plainNumber 59 = .ok (.invokevirtual 140, 3) := by decide +kernel
theorem dX12_plainNumber_62 : decode cX12_plainNumber 62 = .ok (.iload_n 1, 1) := by decide +kernel
theorem dX12_plainNumber_63 : decode cX12_plainNumber 63 = .ok (.ireturn, 1) := by decide +kernel
theorem dX12_atom_0 : decode cX12_atom 0 = .ok (.aload_n 0, 1) := by decide +kernel
theorem dX12_atom_1 : decode cX12_atom 1 = .ok (.invokevirtual 143, 3) := by decide +kernel
theorem dX12_atom_4 : decode cX12_atom 4 = .ok (.istore_n 1, 1) := by decide +kernel
theorem dX12_atom_5 : decode cX12_atom 5 = .ok (.iload_n 1, 1) := by decide +kernel
theorem dX12_atom_6 : decode cX12_atom 6 = .ok (.invokestatic 146, 3) := by decide +kernel
theorem dX12_atom_9 : decode cX12_atom 9 = .ok (.ifCond .eq 15, 3) := by decide +kernel
theorem dX12_atom_12 : decode cX12_atom 12 = .ok (.aload_n 0, 1) := by decide +kernel
theorem dX12_atom_13 : decode cX12_atom 13 = .ok (.iconst 0, 1) := by decide +kernel
theorem dX12_atom_14 : decode cX12_atom 14 = .ok (.aload_n 0, 1) := by decide +kernel
theorem dX12_atom_15 : decode cX12_atom 15 = .ok (.invokevirtual 150, 3) := by decide +kernel
theorem dX12_atom_18 : decode cX12_atom 18 = .ok (.invokevirtual 153, 3) := by decide +kernel
theorem dX12_atom_21 : decode cX12_atom 21 = .ok (.goto 68, 3) := by decide +kernel
theorem dX12_atom_24 : decode cX12_atom 24 = .ok (.iload_n 1, 1) := by decide +kernel
theorem dX12_atom_25 : decode cX12_atom 25 = .ok (.invokestatic 157, 3) := by decide +kernel
theorem dX12_atom_28 : decode cX12_atom 28 = .ok (.iconst (-1), 1) := by decide +kernel
theorem dX12_atom_29 : decode cX12_atom 29 = .ok (.if_icmp .eq 25, 3) := by decide +kernel
theorem dX12_atom_32 : decode cX12_atom 32 = .ok (.aload_n 0, 1) := by decide +kernel
theorem dX12_atom_33 : decode cX12_atom 33 = .ok (.dup, 1) := by decide +kernel
theorem dX12_atom_34 : decode cX12_atom 34 = .ok (.getfield 124, 3) := by decide +kernel
theorem dX12_atom_37 : decode cX12_atom 37 = .ok (.iconst 1, 1) := by decide +kernel
theorem dX12_atom_38 : decode cX12_atom 38 = .ok (.iadd, 1) := by decide +kernel
theorem dX12_atom_39 : decode cX12_atom 39 = .ok (.putfield 124, 3) := by decide +kernel
theorem dX12_atom_42 : decode cX12_atom 42 = .ok (.aload_n 0, 1) := by decide +kernel
theorem dX12_atom_43 : decode cX12_atom 43 = .ok (.iconst 1, 1) := by decide +kernel
theorem dX12_atom_44 : decode cX12_atom 44 = .ok (.iload_n 1, 1) := by decide +kernel
theorem dX12_atom_45 : decode cX12_atom 45 = .ok (.invokestatic 157, 3) := by decide +kernel
theorem dX12_atom_48 : decode cX12_atom 48 = .ok (.invokevirtual 153, 3) := by decide +kernel
theorem dX12_atom_51 : decode cX12_atom 51 = .ok (.goto 38, 3) := by decide +kernel
theorem dX12_atom_54 : decode cX12_atom 54 = .ok (.iload_n 1, 1) := by decide +kernel
theorem dX12_atom_55 : decode cX12_atom 55 = .ok (.bipush 91, 2) := by decide +kernel
theorem dX12_atom_57 : decode cX12_atom 57 = .ok (.if_icmp .ne 28, 3) := by decide +kernel
theorem dX12_atom_60 : decode cX12_atom 60 = .ok (.aload_n 0, 1) := by decide +kernel
theorem dX12_atom_61 : decode cX12_atom 61 = .ok (.invokevirtual 161, 3) := by decide +kernel
theorem dX12_atom_64 : decode cX12_atom 64 = .ok (.aload_n 0, 1) := by decide +kernel
theorem dX12_atom_65 : decode cX12_atom 65 = .ok (.getfield 131, 3) := by decide +kernel
theorem dX12_atom_68 : decode cX12_atom 68 = .ok (.iconst (-1), 1) := by decide +kernel
theorem dX12_atom_69 : decode cX12_atom 69 = .ok (.if_icmp .ne 20, 3) := by decide +kernel
theorem dX12_atom_72 : decode cX12_atom 72 = .ok (.aload_n 0, 1) := by decide +kernel
theorem dX12_atom_73 : decode cX12_atom 73 = .ok (.invokevirtual 164, 3) := by decide +kernel
theorem dX12_atom_76 : decode cX12_atom 76 = .ok (.aload_n 0, 1) := by decide +kernel
theorem dX12_atom_77 : decode cX12_atom 77 = .ok (.bipush 93, 2) := by decide +kernel
theorem dX12_atom_79 : decode cX12_atom 79 = .ok (.invokevirtual 167, 3) := by decide +kernel
theorem dX12_atom_82 : decode cX12_atom 82 = .ok (.goto 7, 3) := by decide +kernel
theorem dX12_atom_85 : decode cX12_atom 85 = .ok (.aload_n 0, 1) := by decide +kernel
theorem dX12_atom_86 : decode cX12_atom 86 = .ok (.invokevirtual 140, 3) := by decide +kernel
theorem dX12_atom_89 : decode cX12_atom 89 = .ok (.return_, 1) := by decide +kernel
theorem dX12_term_0 : decode cX12_term 0 = .ok (.aload_n 0, 1) := by decide +kernel
theorem dX12_term_1 : decode cX12_term 1 = .ok (.invokevirtual 171, 3) := by decide +kernel
theorem dX12_term_4 : decode cX12_term 4 = .ok (.aload_n 0, 1) := by decide +kernel
theorem dX12_term_5 : decode cX12_term 5 = .ok (.getfield 131, 3) := by decide +kernel
theorem dX12_term_8 : decode cX12_term 8 = .ok (.iconst (-1), 1) := by decide +kernel
theorem dX12_term_9 : decode cX12_term 9 = .ok (.if_icmp .ne 10, 3) := by decide +kernel
theorem dX12_term_12 : decode cX12_term 12 = .ok (.aload_n 0, 1) := by decide +kernel
theorem dX12_term_13 : decode cX12_term 13 = .ok (.invokevirtual 143, 3) := by decide +kernel
theorem dX12_term_16 : decode cX12_term 16 = .ok (.goto 4, 3) := by decide +kernel
theorem dX12_term_19 : decode cX12_term 19 = .ok (.iconst (-1), 1) := by decide +kernel
theorem dX12_term_20 : decode cX12_term 20 = .ok (.istore_n 1, 1) := by decide +kernel
theorem dX12_term_21 : decode cX12_term 21 = .ok (.iload_n 1, 1) := by decide +kernel
theorem dX12_term_22 : decode cX12_term 22 = .ok (.bipush 42, 2) := by decide +kernel
theorem dX12_term_24 : decode cX12_term 24 = .ok (.if_icmp .eq 9, 3) := by decide +kernel
theorem dX12_term_27 : decode cX12_term 27 = .ok (.iload_n 1, 1) := by decide +kernel
theorem dX12_term_28 : decode cX12_term 28 = .ok (.bipush 47, 2) := by decide +kernel
theorem dX12_term_30 : decode cX12_term 30 = .ok (.if_icmp .ne 53, 3) := by decide +kernel
theorem dX12_term_33 : decode cX12_term 33 = .ok (.aload_n 0, 1) := by decide +kernel
theorem dX12_term_34 : decode cX12_term 34 = .ok (.dup, 1) := by decide +kernel
theorem dX12_term_35 : decode cX12_term 35 = .ok (.getfield 124, 3) := by decide +kernel
theorem dX12_term_38 : decode cX12_term 38 = .ok (.iconst 1, 1) := by decide +kernel
theorem dX12_term_39 : decode cX12_term 39 = .ok (.iadd, 1) := by decide +kernel
theorem dX12_term_40 : decode cX12_term 40 = .ok (.putfield 124, 3) := by decide +kernel
theorem dX12_term_43 : decode cX12_term 43 = .ok (.aload_n 0, 1) := by decide +kernel
theorem dX12_term_44 : decode cX12_term 44 = .ok (.invokevirtual 171, 3) := by decide +kernel
theorem dX12_term_47 : decode cX12_term 47 = .ok (.aload_n 0, 1) := by decide +kernel
theorem dX12_term_48 : decode cX12_term 48 = .ok (.iload_n 1, 1) := by decide +kernel
theorem dX12_term_49 : decode cX12_term 49 = .ok (.bipush 42, 2) := by decide +kernel
theorem dX12_term_51 : decode cX12_term 51 = .ok (.if_icmp .ne 7, 3) := by decide +kernel
theorem dX12_term_54 : decode cX12_term 54 = .ok (.iconst 4, 1) := by decide +kernel
theorem dX12_term_55 : decode cX12_term 55 = .ok (.goto 4, 3) := by decide +kernel
theorem dX12_term_58 : decode cX12_term 58 = .ok (.iconst 5, 1) := by decide +kernel
theorem dX12_term_59 : decode cX12_term 59 = .ok (.iconst 0, 1) := by decide +kernel
theorem dX12_term_60 : decode cX12_term 60 = .ok (.invokevirtual 153, 3) := by decide +kernel
theorem dX12_term_63 : decode cX12_term 63 = .ok (.aload_n 0, 1) := by decide +kernel
theorem dX12_term_64 : decode cX12_term 64 = .ok (.getfield 131, 3) := by decide +kernel
theorem dX12_term_67 : decode cX12_term 67 = .ok (.iconst (-1), 1) := by decide +kernel
theorem dX12_term_68 : decode cX12_term 68 = .ok (.if_icmp .ne 10, 3) := by decide +kernel
theorem dX12_term_71 : decode cX12_term 71 = .ok (.aload_n 0, 1) := by decide +kernel
theorem dX12_term_72 : decode cX12_term 72 = .ok (.invokevirtual 143, 3) := by decide +kernel
theorem dX12_term_75 : decode cX12_term 75 = .ok (.goto 4, 3) := by decide +kernel
theorem dX12_term_78 : decode cX12_term 78 = .ok (.iconst (-1), 1) := by decide +kernel
theorem dX12_term_79 : decode cX12_term 79 = .ok (.istore_n 1, 1) := by decide +kernel
theorem dX12_term_80 : decode cX12_term 80 = .ok (.goto (-59), 3) := by decide +kernel
theorem dX12_term_83 : decode cX12_term 83 = .ok (.return_, 1) := by decide +kernel
theorem dX12_sum_0 : decode cX12_sum 0 = .ok (.aload_n 0, 1) := by decide +kernel
theorem dX12_sum_1 : decode cX12_sum 1 = .ok (.invokevirtual 174, 3) := by decide +kernel
theorem dX12_sum_4 : decode cX12_sum 4 = .ok (.aload_n 0, 1) := by decide +kernel
theorem dX12_sum_5 : decode cX12_sum 5 = .ok (.getfield 131, 3) := by decide +kernel
theorem dX12_sum_8 : decode cX12_sum 8 = .ok (.iconst (-1), 1) := by decide +kernel
theorem dX12_sum_9 : decode cX12_sum 9 = .ok (.if_icmp .ne 10, 3) := by decide +kernel
theorem dX12_sum_12 : decode cX12_sum 12 = .ok (.aload_n 0, 1) := by decide +kernel
theorem dX12_sum_13 : decode cX12_sum 13 = .ok (.invokevirtual 143, 3) := by decide +kernel
theorem dX12_sum_16 : decode cX12_sum 16 = .ok (.goto 4, 3) := by decide +kernel
theorem dX12_sum_19 : decode cX12_sum 19 = .ok (.iconst (-1), 1) := by decide +kernel
theorem dX12_sum_20 : decode cX12_sum 20 = .ok (.istore_n 1, 1) := by decide +kernel
theorem dX12_sum_21 : decode cX12_sum 21 = .ok (.iload_n 1, 1) := by decide +kernel
theorem dX12_sum_22 : decode cX12_sum 22 = .ok (.bipush 43, 2) := by decide +kernel
theorem dX12_sum_24 : decode cX12_sum 24 = .ok (.if_icmp .eq 9, 3) := by decide +kernel
theorem dX12_sum_27 : decode cX12_sum 27 = .ok (.iload_n 1, 1) := by decide +kernel
theorem dX12_sum_28 : decode cX12_sum 28 = .ok (.bipush 45, 2) := by decide +kernel
theorem dX12_sum_30 : decode cX12_sum 30 = .ok (.if_icmp .ne 53, 3) := by decide +kernel
theorem dX12_sum_33 : decode cX12_sum 33 = .ok (.aload_n 0, 1) := by decide +kernel
theorem dX12_sum_34 : decode cX12_sum 34 = .ok (.dup, 1) := by decide +kernel
theorem dX12_sum_35 : decode cX12_sum 35 = .ok (.getfield 124, 3) := by decide +kernel
theorem dX12_sum_38 : decode cX12_sum 38 = .ok (.iconst 1, 1) := by decide +kernel
theorem dX12_sum_39 : decode cX12_sum 39 = .ok (.iadd, 1) := by decide +kernel
theorem dX12_sum_40 : decode cX12_sum 40 = .ok (.putfield 124, 3) := by decide +kernel
theorem dX12_sum_43 : decode cX12_sum 43 = .ok (.aload_n 0, 1) := by decide +kernel
theorem dX12_sum_44 : decode cX12_sum 44 = .ok (.invokevirtual 174, 3) := by decide +kernel
theorem dX12_sum_47 : decode cX12_sum 47 = .ok (.aload_n 0, 1) := by decide +kernel
theorem dX12_sum_48 : decode cX12_sum 48 = .ok (.iload_n 1, 1) := by decide +kernel
theorem dX12_sum_49 : decode cX12_sum 49 = .ok (.bipush 43, 2) := by decide +kernel
theorem dX12_sum_51 : decode cX12_sum 51 = .ok (.if_icmp .ne 7, 3) := by decide +kernel
theorem dX12_sum_54 : decode cX12_sum 54 = .ok (.iconst 2, 1) := by decide +kernel
theorem dX12_sum_55 : decode cX12_sum 55 = .ok (.goto 4, 3) := by decide +kernel
theorem dX12_sum_58 : decode cX12_sum 58 = .ok (.iconst 3, 1) := by decide +kernel
theorem dX12_sum_59 : decode cX12_sum 59 = .ok (.iconst 0, 1) := by decide +kernel
theorem dX12_sum_60 : decode cX12_sum 60 = .ok (.invokevirtual 153, 3) := by decide +kernel
theorem dX12_sum_63 : decode cX12_sum 63 = .ok (.aload_n 0, 1) := by decide +kernel
theorem dX12_sum_64 : decode cX12_sum 64 = .ok (.getfield 131, 3) := by decide +kernel
theorem dX12_sum_67 : decode cX12_sum 67 = .ok (.iconst (-1), 1) := by decide +kernel
theorem dX12_sum_68 : decode cX12_sum 68 = .ok (.if_icmp .ne 10, 3) := by decide +kernel
theorem dX12_sum_71 : decode cX12_sum 71 = .ok (.aload_n 0, 1) := by decide +kernel
theorem dX12_sum_72 : decode cX12_sum 72 = .ok (.invokevirtual 143, 3) := by decide +kernel
theorem dX12_sum_75 : decode cX12_sum 75 = .ok (.goto 4, 3) := by decide +kernel
theorem dX12_sum_78 : decode cX12_sum 78 = .ok (.iconst (-1), 1) := by decide +kernel
theorem dX12_sum_79 : decode cX12_sum 79 = .ok (.istore_n 1, 1) := by decide +kernel
theorem dX12_sum_80 : decode cX12_sum 80 = .ok (.goto (-59), 3) := by decide +kernel
theorem dX12_sum_83 : decode cX12_sum 83 = .ok (.return_, 1) := by decide +kernel
theorem dX12_isSign_0 : decode cX12_isSign 0 = .ok (.iload_n 0, 1) := by decide +kernel
theorem dX12_isSign_1 : decode cX12_isSign 1 = .ok (.bipush 61, 2) := by decide +kernel
theorem dX12_isSign_3 : decode cX12_isSign 3 = .ok (.if_icmp .eq 15, 3) := by decide +kernel
theorem dX12_isSign_6 : decode cX12_isSign 6 = .ok (.iload_n 0, 1) := by decide +kernel
theorem dX12_isSign_7 : decode cX12_isSign 7 = .ok (.bipush 60, 2) := by decide +kernel
theorem dX12_isSign_9 : decode cX12_isSign 9 = .ok (.if_icmp .eq 9, 3) := by decide +kernel
theorem dX12_isSign_12 : decode cX12_isSign 12 = .ok (.iload_n 0, 1) := by decide +kernel
theorem dX12_isSign_13 : decode cX12_isSign 13 = .ok (.bipush 62, 2) := by decide +kernel
theorem dX12_isSign_15 : decode cX12_isSign 15 = .ok (.if_icmp .ne 7, 3) := by decide +kernel
theorem dX12_isSign_18 : decode cX12_isSign 18 = .ok (.iconst 1, 1) := by decide +kernel
theorem dX12_isSign_19 : decode cX12_isSign 19 = .ok (.goto 4, 3) := by decide +kernel
theorem dX12_isSign_22 : decode cX12_isSign 22 = .ok (.iconst 0, 1) := by decide +kernel
theorem dX12_isSign_23 : decode cX12_isSign 23 = .ok (.ireturn, 1) := by decide +kernel
theorem dX12_compare_0 : decode cX12_compare 0 = .ok (.aload_n 0, 1) := by decide +kernel
theorem dX12_compare_1 : decode cX12_compare 1 = .ok (.getfield 131, 3) := by decide +kernel
theorem dX12_compare_4 : decode cX12_compare 4 = .ok (.iconst (-1), 1) := by decide +kernel
theorem dX12_compare_5 : decode cX12_compare 5 = .ok (.if_icmp .ne 10, 3) := by decide +kernel
theorem dX12_compare_8 : decode cX12_compare 8 = .ok (.aload_n 0, 1) := by decide +kernel
theorem dX12_compare_9 : decode cX12_compare 9 = .ok (.invokevirtual 143, 3) := by decide +kernel
theorem dX12_compare_12 : decode cX12_compare 12 = .ok (.goto 4, 3) := by decide +kernel
theorem dX12_compare_15 : decode cX12_compare 15 = .ok (.iconst (-1), 1) := by decide +kernel
theorem dX12_compare_16 : decode cX12_compare 16 = .ok (.istore_n 1, 1) := by decide +kernel
theorem dX12_compare_17 : decode cX12_compare 17 = .ok (.iload_n 1, 1) := by decide +kernel
theorem dX12_compare_18 : decode cX12_compare 18 = .ok (.invokestatic 177, 3) := by decide +kernel
theorem dX12_compare_21 : decode cX12_compare 21 = .ok (.ifCond .ne 8, 3) := by decide +kernel
theorem dX12_compare_24 : decode cX12_compare 24 = .ok (.aload_n 0, 1) := by decide +kernel
theorem dX12_compare_25 : decode cX12_compare 25 = .ok (.invokevirtual 140, 3) := by decide +kernel
theorem dX12_compare_28 : decode cX12_compare 28 = .ok (.return_, 1) := by decide +kernel
theorem dX12_compare_29 : decode cX12_compare 29 = .ok (.aload_n 0, 1) := by decide +kernel
theorem dX12_compare_30 : decode cX12_compare 30 = .ok (.dup, 1) := by decide +kernel
theorem dX12_compare_31 : decode cX12_compare 31 = .ok (.getfield 124, 3) := by decide +kernel
theorem dX12_compare_34 : decode cX12_compare 34 = .ok (.iconst 1, 1) := by decide +kernel
theorem dX12_compare_35 : decode cX12_compare 35 = .ok (.iadd, 1) := by decide +kernel
theorem dX12_compare_36 : decode cX12_compare 36 = .ok (.putfield 124, 3) := by decide +kernel
theorem dX12_compare_39 : decode cX12_compare 39 = .ok (.aload_n 0, 1) := by decide +kernel
theorem dX12_compare_40 : decode cX12_compare 40 = .ok (.invokevirtual 164, 3) := by decide +kernel
theorem dX12_compare_43 : decode cX12_compare 43 = .ok (.aload_n 0, 1) := by decide +kernel
theorem dX12_compare_44 : decode cX12_compare 44 = .ok (.iload_n 1, 1) := by decide +kernel
theorem dX12_compare_45 : decode cX12_compare 45 = .ok (.bipush 61, 2) := by decide +kernel
theorem dX12_compare_47 : decode cX12_compare 47 = .ok (.if_icmp .ne 8, 3) := by decide +kernel
theorem dX12_compare_50 : decode cX12_compare 50 = .ok (.bipush 6, 2) := by decide +kernel
theorem dX12_compare_52 : decode cX12_compare 52 = .ok (.goto 16, 3) := by decide +kernel
theorem dX12_compare_55 : decode cX12_compare 55 = .ok (.iload_n 1, 1) := by decide +kernel
theorem dX12_compare_56 : decode cX12_compare 56 = .ok (.bipush 60, 2) := by decide +kernel
theorem dX12_compare_58 : decode cX12_compare 58 = .ok (.if_icmp .ne 8, 3) := by decide +kernel
theorem dX12_compare_61 : decode cX12_compare 61 = .ok (.bipush 7, 2) := by decide +kernel
theorem dX12_compare_63 : decode cX12_compare 63 = .ok (.goto 5, 3) := by decide +kernel
theorem dX12_compare_66 : decode cX12_compare 66 = .ok (.bipush 8, 2) := by decide +kernel
theorem dX12_compare_68 : decode cX12_compare 68 = .ok (.iconst 0, 1) := by decide +kernel
theorem dX12_compare_69 : decode cX12_compare 69 = .ok (.invokevirtual 153, 3) := by decide +kernel
theorem dX12_compare_72 : decode cX12_compare 72 = .ok (.return_, 1) := by decide +kernel
theorem dX12_unit_0 : decode cX12_unit 0 = .ok (.aload_n 0, 1) := by decide +kernel
theorem dX12_unit_1 : decode cX12_unit 1 = .ok (.invokevirtual 143, 3) := by decide +kernel
theorem dX12_unit_4 : decode cX12_unit 4 = .ok (.istore_n 1, 1) := by decide +kernel
theorem dX12_unit_5 : decode cX12_unit 5 = .ok (.iload_n 1, 1) := by decide +kernel
theorem dX12_unit_6 : decode cX12_unit 6 = .ok (.bipush 33, 2) := by decide +kernel
theorem dX12_unit_8 : decode cX12_unit 8 = .ok (.if_icmp .ne 39, 3) := by decide +kernel
theorem dX12_unit_11 : decode cX12_unit 11 = .ok (.aload_n 0, 1) := by decide +kernel
theorem dX12_unit_12 : decode cX12_unit 12 = .ok (.invokevirtual 161, 3) := by decide +kernel
theorem dX12_unit_15 : decode cX12_unit 15 = .ok (.aload_n 0, 1) := by decide +kernel
theorem dX12_unit_16 : decode cX12_unit 16 = .ok (.getfield 131, 3) := by decide +kernel
theorem dX12_unit_19 : decode cX12_unit 19 = .ok (.iconst (-1), 1) := by decide +kernel
theorem dX12_unit_20 : decode cX12_unit 20 = .ok (.if_icmp .ne 74, 3) := by decide +kernel
theorem dX12_unit_23 : decode cX12_unit 23 = .ok (.aload_n 0, 1) := by decide +kernel
theorem dX12_unit_24 : decode cX12_unit 24 = .ok (.invokevirtual 180, 3) := by decide +kernel
theorem dX12_unit_27 : decode cX12_unit 27 = .ok (.aload_n 0, 1) := by decide +kernel
theorem dX12_unit_28 : decode cX12_unit 28 = .ok (.bipush 9, 2) := by decide +kernel
theorem dX12_unit_30 : decode cX12_unit 30 = .ok (.iconst 0, 1) := by decide +kernel
theorem dX12_unit_31 : decode cX12_unit 31 = .ok (.invokevirtual 153, 3) := by decide +kernel
theorem dX12_unit_34 : decode cX12_unit 34 = .ok (.aload_n 0, 1) := by decide +kernel
theorem dX12_unit_35 : decode cX12_unit 35 = .ok (.dup, 1) := by decide +kernel
theorem dX12_unit_36 : decode cX12_unit 36 = .ok (.getfield 137, 3) := by decide +kernel
theorem dX12_unit_39 : decode cX12_unit 39 = .ok (.iconst 1, 1) := by decide +kernel
theorem dX12_unit_40 : decode cX12_unit 40 = .ok (.isub, 1) := by decide +kernel
theorem dX12_unit_41 : decode cX12_unit 41 = .ok (.putfield 137, 3) := by decide +kernel
theorem dX12_unit_44 : decode cX12_unit 44 = .ok (.goto 50, 3) := by decide +kernel
theorem dX12_unit_47 : decode cX12_unit 47 = .ok (.iload_n 1, 1) := by decide +kernel
theorem dX12_unit_48 : decode cX12_unit 48 = .ok (.bipush 40, 2) := by decide +kernel
theorem dX12_unit_50 : decode cX12_unit 50 = .ok (.if_icmp .ne 28, 3) := by decide +kernel
theorem dX12_unit_53 : decode cX12_unit 53 = .ok (.aload_n 0, 1) := by decide +kernel
theorem dX12_unit_54 : decode cX12_unit 54 = .ok (.invokevirtual 161, 3) := by decide +kernel
theorem dX12_unit_57 : decode cX12_unit 57 = .ok (.aload_n 0, 1) := by decide +kernel
theorem dX12_unit_58 : decode cX12_unit 58 = .ok (.getfield 131, 3) := by decide +kernel
theorem dX12_unit_61 : decode cX12_unit 61 = .ok (.iconst (-1), 1) := by decide +kernel
theorem dX12_unit_62 : decode cX12_unit 62 = .ok (.if_icmp .ne 32, 3) := by decide +kernel
theorem dX12_unit_65 : decode cX12_unit 65 = .ok (.aload_n 0, 1) := by decide +kernel
theorem dX12_unit_66 : decode cX12_unit 66 = .ok (.invokevirtual 183, 3) := by decide +kernel
theorem dX12_unit_69 : decode cX12_unit 69 = .ok (.aload_n 0, 1) := by decide +kernel
theorem dX12_unit_70 : decode cX12_unit 70 = .ok (.bipush 41, 2) := by decide +kernel
theorem dX12_unit_72 : decode cX12_unit 72 = .ok (.invokevirtual 167, 3) := by decide +kernel
theorem dX12_unit_75 : decode cX12_unit 75 = .ok (.goto 19, 3) := by decide +kernel
theorem dX12_unit_78 : decode cX12_unit 78 = .ok (.aload_n 0, 1) := by decide +kernel
theorem dX12_unit_79 : decode cX12_unit 79 = .ok (.invokevirtual 164, 3) := by decide +kernel
theorem dX12_unit_82 : decode cX12_unit 82 = .ok (.aload_n 0, 1) := by decide +kernel
theorem dX12_unit_83 : decode cX12_unit 83 = .ok (.getfield 131, 3) := by decide +kernel
theorem dX12_unit_86 : decode cX12_unit 86 = .ok (.iconst (-1), 1) := by decide +kernel
theorem dX12_unit_87 : decode cX12_unit 87 = .ok (.if_icmp .ne 7, 3) := by decide +kernel
theorem dX12_unit_90 : decode cX12_unit 90 = .ok (.aload_n 0, 1) := by decide +kernel
theorem dX12_unit_91 : decode cX12_unit 91 = .ok (.invokevirtual 186, 3) := by decide +kernel
theorem dX12_unit_94 : decode cX12_unit 94 = .ok (.return_, 1) := by decide +kernel
theorem dX12_goOnAnd_0 : decode cX12_goOnAnd 0 = .ok (.aload_n 0, 1) := by decide +kernel
theorem dX12_goOnAnd_1 : decode cX12_goOnAnd 1 = .ok (.getfield 131, 3) := by decide +kernel
theorem dX12_goOnAnd_4 : decode cX12_goOnAnd 4 = .ok (.iconst (-1), 1) := by decide +kernel
theorem dX12_goOnAnd_5 : decode cX12_goOnAnd 5 = .ok (.if_icmp .ne 36, 3) := by decide +kernel
theorem dX12_goOnAnd_8 : decode cX12_goOnAnd 8 = .ok (.aload_n 0, 1) := by decide +kernel
theorem dX12_goOnAnd_9 : decode cX12_goOnAnd 9 = .ok (.invokevirtual 143, 3) := by decide +kernel
theorem dX12_goOnAnd_12 : decode cX12_goOnAnd 12 = .ok (.bipush 38, 2) := by decide +kernel
theorem dX12_goOnAnd_14 : decode cX12_goOnAnd 14 = .ok (.if_icmp .ne 27, 3) := by decide +kernel
theorem dX12_goOnAnd_17 : decode cX12_goOnAnd 17 = .ok (.aload_n 0, 1) := by decide +kernel
theorem dX12_goOnAnd_18 : decode cX12_goOnAnd 18 = .ok (.dup, 1) := by decide +kernel
theorem dX12_goOnAnd_19 : decode cX12_goOnAnd 19 = .ok (.getfield 124, 3) := by decide +kernel
theorem dX12_goOnAnd_22 : decode cX12_goOnAnd 22 = .ok (.iconst 1, 1) := by decide +kernel
theorem dX12_goOnAnd_23 : decode cX12_goOnAnd 23 = .ok (.iadd, 1) := by decide +kernel
theorem dX12_goOnAnd_24 : decode cX12_goOnAnd 24 = .ok (.putfield 124, 3) := by decide +kernel
theorem dX12_goOnAnd_27 : decode cX12_goOnAnd 27 = .ok (.aload_n 0, 1) := by decide +kernel
theorem dX12_goOnAnd_28 : decode cX12_goOnAnd 28 = .ok (.invokevirtual 180, 3) := by decide +kernel
theorem dX12_goOnAnd_31 : decode cX12_goOnAnd 31 = .ok (.aload_n 0, 1) := by decide +kernel
theorem dX12_goOnAnd_32 : decode cX12_goOnAnd 32 = .ok (.bipush 10, 2) := by decide +kernel
theorem dX12_goOnAnd_34 : decode cX12_goOnAnd 34 = .ok (.iconst 0, 1) := by decide +kernel
theorem dX12_goOnAnd_35 : decode cX12_goOnAnd 35 = .ok (.invokevirtual 153, 3) := by decide +kernel
theorem dX12_goOnAnd_38 : decode cX12_goOnAnd 38 = .ok (.goto (-38), 3) := by decide +kernel
theorem dX12_goOnAnd_41 : decode cX12_goOnAnd 41 = .ok (.return_, 1) := by decide +kernel
theorem dX12_goOnOr_0 : decode cX12_goOnOr 0 = .ok (.aload_n 0, 1) := by decide +kernel
theorem dX12_goOnOr_1 : decode cX12_goOnOr 1 = .ok (.getfield 131, 3) := by decide +kernel
theorem dX12_goOnOr_4 : decode cX12_goOnOr 4 = .ok (.iconst (-1), 1) := by decide +kernel
theorem dX12_goOnOr_5 : decode cX12_goOnOr 5 = .ok (.if_icmp .ne 40, 3) := by decide +kernel
theorem dX12_goOnOr_8 : decode cX12_goOnOr 8 = .ok (.aload_n 0, 1) := by decide +kernel
theorem dX12_goOnOr_9 : decode cX12_goOnOr 9 = .ok (.invokevirtual 143, 3) := by decide +kernel
theorem dX12_goOnOr_12 : decode cX12_goOnOr 12 = .ok (.bipush 124, 2) := by decide +kernel
theorem dX12_goOnOr_14 : decode cX12_goOnOr 14 = .ok (.if_icmp .ne 31, 3) := by decide +kernel
theorem dX12_goOnOr_17 : decode cX12_goOnOr 17 = .ok (.aload_n 0, 1) := by decide +kernel
theorem dX12_goOnOr_18 : decode cX12_goOnOr 18 = .ok (.dup, 1) := by decide +kernel
theorem dX12_goOnOr_19 : decode cX12_goOnOr 19 = .ok (.getfield 124, 3) := by decide +kernel
theorem dX12_goOnOr_22 : decode cX12_goOnOr 22 = .ok (.iconst 1, 1) := by decide +kernel
theorem dX12_goOnOr_23 : decode cX12_goOnOr 23 = .ok (.iadd, 1) := by decide +kernel
theorem dX12_goOnOr_24 : decode cX12_goOnOr 24 = .ok (.putfield 124, 3) := by decide +kernel
theorem dX12_goOnOr_27 : decode cX12_goOnOr 27 = .ok (.aload_n 0, 1) := by decide +kernel
theorem dX12_goOnOr_28 : decode cX12_goOnOr 28 = .ok (.invokevirtual 180, 3) := by decide +kernel
theorem dX12_goOnOr_31 : decode cX12_goOnOr 31 = .ok (.aload_n 0, 1) := by decide +kernel
theorem dX12_goOnOr_32 : decode cX12_goOnOr 32 = .ok (.invokevirtual 189, 3) := by decide +kernel
theorem dX12_goOnOr_35 : decode cX12_goOnOr 35 = .ok (.aload_n 0, 1) := by decide +kernel
theorem dX12_goOnOr_36 : decode cX12_goOnOr 36 = .ok (.bipush 11, 2) := by decide +kernel
theorem dX12_goOnOr_38 : decode cX12_goOnOr 38 = .ok (.iconst 0, 1) := by decide +kernel
theorem dX12_goOnOr_39 : decode cX12_goOnOr 39 = .ok (.invokevirtual 153, 3) := by decide +kernel
theorem dX12_goOnOr_42 : decode cX12_goOnOr 42 = .ok (.goto (-42), 3) := by decide +kernel
theorem dX12_goOnOr_45 : decode cX12_goOnOr 45 = .ok (.return_, 1) := by decide +kernel
theorem dX12_condition_0 : decode cX12_condition 0 = .ok (.aload_n 0, 1) := by decide +kernel
theorem dX12_condition_1 : decode cX12_condition 1 = .ok (.invokevirtual 180, 3) := by decide +kernel
theorem dX12_condition_4 : decode cX12_condition 4 = .ok (.aload_n 0, 1) := by decide +kernel
theorem dX12_condition_5 : decode cX12_condition 5 = .ok (.invokevirtual 189, 3) := by decide +kernel
theorem dX12_condition_8 : decode cX12_condition 8 = .ok (.aload_n 0, 1) := by decide +kernel
theorem dX12_condition_9 : decode cX12_condition 9 = .ok (.invokevirtual 192, 3) := by decide +kernel
theorem dX12_condition_12 : decode cX12_condition 12 = .ok (.return_, 1) := by decide +kernel
theorem dX12_clause_0 : decode cX12_clause 0 = .ok (.sipush 140, 3) := by decide +kernel
theorem dX12_clause_3 : decode cX12_clause 3 = .ok (.aload_n 0, 1) := by decide +kernel
theorem dX12_clause_4 : decode cX12_clause 4 = .ok (.getfield 134, 3) := by decide +kernel
theorem dX12_clause_7 : decode cX12_clause 7 = .ok (.imul, 1) := by decide +kernel
theorem dX12_clause_8 : decode cX12_clause 8 = .ok (.aload_n 0, 1) := by decide +kernel
theorem dX12_clause_9 : decode cX12_clause 9 = .ok (.getfield 22, 3) := by decide +kernel
theorem dX12_clause_12 : decode cX12_clause 12 = .ok (.aload_n 0, 1) := by decide +kernel
theorem dX12_clause_13 : decode cX12_clause 13 = .ok (.getfield 134, 3) := by decide +kernel
theorem dX12_clause_16 : decode cX12_clause 16 = .ok (.iaload, 1) := by decide +kernel
theorem dX12_clause_17 : decode cX12_clause 17 = .ok (.iadd, 1) := by decide +kernel
theorem dX12_clause_18 : decode cX12_clause 18 = .ok (.istore_n 1, 1) := by decide +kernel
theorem dX12_clause_19 : decode cX12_clause 19 = .ok (.aload_n 0, 1) := by decide +kernel
theorem dX12_clause_20 : decode cX12_clause 20 = .ok (.getfield 131, 3) := by decide +kernel
theorem dX12_clause_23 : decode cX12_clause 23 = .ok (.iconst (-1), 1) := by decide +kernel
theorem dX12_clause_24 : decode cX12_clause 24 = .ok (.if_icmp .ne 16, 3) := by decide +kernel
theorem dX12_clause_27 : decode cX12_clause 27 = .ok (.aload_n 0, 1) := by decide +kernel
theorem dX12_clause_28 : decode cX12_clause 28 = .ok (.invokevirtual 143, 3) := by decide +kernel
theorem dX12_clause_31 : decode cX12_clause 31 = .ok (.bipush 121, 2) := by decide +kernel
theorem dX12_clause_33 : decode cX12_clause 33 = .ok (.if_icmp .eq 7, 3) := by decide +kernel
theorem dX12_clause_36 : decode cX12_clause 36 = .ok (.aload_n 0, 1) := by decide +kernel
theorem dX12_clause_37 : decode cX12_clause 37 = .ok (.invokevirtual 140, 3) := by decide +kernel
theorem dX12_clause_40 : decode cX12_clause 40 = .ok (.aload_n 0, 1) := by decide +kernel
theorem dX12_clause_41 : decode cX12_clause 41 = .ok (.dup, 1) := by decide +kernel
theorem dX12_clause_42 : decode cX12_clause 42 = .ok (.getfield 124, 3) := by decide +kernel
theorem dX12_clause_45 : decode cX12_clause 45 = .ok (.iconst 1, 1) := by decide +kernel
theorem dX12_clause_46 : decode cX12_clause 46 = .ok (.iadd, 1) := by decide +kernel
theorem dX12_clause_47 : decode cX12_clause 47 = .ok (.putfield 124, 3) := by decide +kernel
theorem dX12_clause_50 : decode cX12_clause 50 = .ok (.aload_n 0, 1) := by decide +kernel
theorem dX12_clause_51 : decode cX12_clause 51 = .ok (.getfield 131, 3) := by decide +kernel
theorem dX12_clause_54 : decode cX12_clause 54 = .ok (.iconst (-1), 1) := by decide +kernel
theorem dX12_clause_55 : decode cX12_clause 55 = .ok (.if_icmp .ne 16, 3) := by decide +kernel
theorem dX12_clause_58 : decode cX12_clause 58 = .ok (.aload_n 0, 1) := by decide +kernel
theorem dX12_clause_59 : decode cX12_clause 59 = .ok (.invokevirtual 143, 3) := by decide +kernel
theorem dX12_clause_62 : decode cX12_clause 62 = .ok (.bipush 58, 2) := by decide +kernel
theorem dX12_clause_64 : decode cX12_clause 64 = .ok (.if_icmp .eq 7, 3) := by decide +kernel
theorem dX12_clause_67 : decode cX12_clause 67 = .ok (.aload_n 0, 1) := by decide +kernel
theorem dX12_clause_68 : decode cX12_clause 68 = .ok (.invokevirtual 140, 3) := by decide +kernel
theorem dX12_clause_71 : decode cX12_clause 71 = .ok (.aload_n 0, 1) := by decide +kernel
theorem dX12_clause_72 : decode cX12_clause 72 = .ok (.dup, 1) := by decide +kernel
theorem dX12_clause_73 : decode cX12_clause 73 = .ok (.getfield 124, 3) := by decide +kernel
theorem dX12_clause_76 : decode cX12_clause 76 = .ok (.iconst 1, 1) := by decide +kernel
theorem dX12_clause_77 : decode cX12_clause 77 = .ok (.iadd, 1) := by decide +kernel
theorem dX12_clause_78 : decode cX12_clause 78 = .ok (.putfield 124, 3) := by decide +kernel
theorem dX12_clause_81 : decode cX12_clause 81 = .ok (.aload_n 0, 1) := by decide +kernel
theorem dX12_clause_82 : decode cX12_clause 82 = .ok (.getfield 131, 3) := by decide +kernel
theorem dX12_clause_85 : decode cX12_clause 85 = .ok (.iconst (-1), 1) := by decide +kernel
theorem dX12_clause_86 : decode cX12_clause 86 = .ok (.if_icmp .eq 4, 3) := by decide +kernel
theorem dX12_clause_89 : decode cX12_clause 89 = .ok (.return_, 1) := by decide +kernel
theorem dX12_clause_90 : decode cX12_clause 90 = .ok (.aload_n 0, 1) := by decide +kernel
theorem dX12_clause_91 : decode cX12_clause 91 = .ok (.getfield 25, 3) := by decide +kernel
theorem dX12_clause_94 : decode cX12_clause 94 = .ok (.iload_n 1, 1) := by decide +kernel
theorem dX12_clause_95 : decode cX12_clause 95 = .ok (.aload_n 0, 1) := by decide +kernel
theorem dX12_clause_96 : decode cX12_clause 96 = .ok (.getfield 19, 3) := by decide +kernel
theorem dX12_clause_99 : decode cX12_clause 99 = .ok (.aload_n 0, 1) := by decide +kernel
theorem dX12_clause_100 : decode cX12_clause 100 = .ok (.getfield 134, 3) := by decide +kernel
theorem dX12_clause_103 : decode cX12_clause 103 = .ok (.iaload, 1) := by decide +kernel
theorem dX12_clause_104 : decode cX12_clause 104 = .ok (.iastore, 1) := by decide +kernel
theorem dX12_clause_105 : decode cX12_clause 105 = .ok (.aload_n 0, 1) := by decide +kernel
theorem dX12_clause_106 : decode cX12_clause 106 = .ok (.invokevirtual 143, 3) := by decide +kernel
theorem dX12_clause_109 : decode cX12_clause 109 = .ok (.bipush 33, 2) := by decide +kernel
theorem dX12_clause_111 : decode cX12_clause 111 = .ok (.if_icmp .eq 12, 3) := by decide +kernel
theorem dX12_clause_114 : decode cX12_clause 114 = .ok (.aload_n 0, 1) := by decide +kernel
theorem dX12_clause_115 : decode cX12_clause 115 = .ok (.invokevirtual 143, 3) := by decide +kernel
theorem dX12_clause_118 : decode cX12_clause 118 = .ok (.bipush 40, 2) := by decide +kernel
theorem dX12_clause_120 : decode cX12_clause 120 = .ok (.if_icmp .ne 7, 3) := by decide +kernel
theorem dX12_clause_123 : decode cX12_clause 123 = .ok (.iconst 1, 1) := by decide +kernel
theorem dX12_clause_124 : decode cX12_clause 124 = .ok (.goto 4, 3) := by decide +kernel
theorem dX12_clause_127 : decode cX12_clause 127 = .ok (.iconst 0, 1) := by decide +kernel
theorem dX12_clause_128 : decode cX12_clause 128 = .ok (.istore_n 2, 1) := by decide +kernel
theorem dX12_clause_129 : decode cX12_clause 129 = .ok (.iload_n 2, 1) := by decide +kernel
theorem dX12_clause_130 : decode cX12_clause 130 = .ok (.ifCond .eq 10, 3) := by decide +kernel
theorem dX12_clause_133 : decode cX12_clause 133 = .ok (.aload_n 0, 1) := by decide +kernel
theorem dX12_clause_134 : decode cX12_clause 134 = .ok (.invokevirtual 183, 3) := by decide +kernel
theorem dX12_clause_137 : decode cX12_clause 137 = .ok (.goto 47, 3) := by decide +kernel
theorem dX12_clause_140 : decode cX12_clause 140 = .ok (.aload_n 0, 1) := by decide +kernel
theorem dX12_clause_141 : decode cX12_clause 141 = .ok (.invokevirtual 164, 3) := by decide +kernel
theorem dX12_clause_144 : decode cX12_clause 144 = .ok (.aload_n 0, 1) := by decide +kernel
theorem dX12_clause_145 : decode cX12_clause 145 = .ok (.getfield 131, 3) := by decide +kernel
theorem dX12_clause_148 : decode cX12_clause 148 = .ok (.iconst (-1), 1) := by decide +kernel
theorem dX12_clause_149 : decode cX12_clause 149 = .ok (.if_icmp .ne 17, 3) := by decide +kernel
theorem dX12_clause_152 : decode cX12_clause 152 = .ok (.aload_n 0, 1) := by decide +kernel
theorem dX12_clause_153 : decode cX12_clause 153 = .ok (.invokevirtual 143, 3) := by decide +kernel
theorem dX12_clause_156 : decode cX12_clause 156 = .ok (.invokestatic 177, 3) := by decide +kernel
theorem dX12_clause_159 : decode cX12_clause 159 = .ok (.ifCond .eq 7, 3) := by decide +kernel
theorem dX12_clause_162 : decode cX12_clause 162 = .ok (.iconst 1, 1) := by decide +kernel
theorem dX12_clause_163 : decode cX12_clause 163 = .ok (.goto 4, 3) := by decide +kernel
theorem dX12_clause_166 : decode cX12_clause 166 = .ok (.iconst 0, 1) := by decide +kernel
theorem dX12_clause_167 : decode cX12_clause 167 = .ok (.istore_n 2, 1) := by decide +kernel
theorem dX12_clause_168 : decode cX12_clause 168 = .ok (.iload_n 2, 1) := by decide +kernel
theorem dX12_clause_169 : decode cX12_clause 169 = .ok (.ifCond .eq 15, 3) := by decide +kernel
theorem dX12_clause_172 : decode cX12_clause 172 = .ok (.aload_n 0, 1) := by decide +kernel
theorem dX12_clause_173 : decode cX12_clause 173 = .ok (.invokevirtual 186, 3) := by decide +kernel
theorem dX12_clause_176 : decode cX12_clause 176 = .ok (.aload_n 0, 1) := by decide +kernel
theorem dX12_clause_177 : decode cX12_clause 177 = .ok (.invokevirtual 189, 3) := by decide +kernel
theorem dX12_clause_180 : decode cX12_clause 180 = .ok (.aload_n 0, 1) := by decide +kernel
theorem dX12_clause_181 : decode cX12_clause 181 = .ok (.invokevirtual 192, 3) := by decide +kernel
theorem dX12_clause_184 : decode cX12_clause 184 = .ok (.aload_n 0, 1) := by decide +kernel
theorem dX12_clause_185 : decode cX12_clause 185 = .ok (.getfield 28, 3) := by decide +kernel
theorem dX12_clause_188 : decode cX12_clause 188 = .ok (.iload_n 1, 1) := by decide +kernel
theorem dX12_clause_189 : decode cX12_clause 189 = .ok (.aload_n 0, 1) := by decide +kernel
theorem dX12_clause_190 : decode cX12_clause 190 = .ok (.getfield 25, 3) := by decide +kernel
theorem dX12_clause_193 : decode cX12_clause 193 = .ok (.iload_n 1, 1) := by decide +kernel
theorem dX12_clause_194 : decode cX12_clause 194 = .ok (.iaload, 1) := by decide +kernel
theorem dX12_clause_195 : decode cX12_clause 195 = .ok (.iastore, 1) := by decide +kernel
theorem dX12_clause_196 : decode cX12_clause 196 = .ok (.iload_n 2, 1) := by decide +kernel
theorem dX12_clause_197 : decode cX12_clause 197 = .ok (.ifCond .eq 54, 3) := by decide +kernel
theorem dX12_clause_200 : decode cX12_clause 200 = .ok (.aload_n 0, 1) := by decide +kernel
theorem dX12_clause_201 : decode cX12_clause 201 = .ok (.getfield 131, 3) := by decide +kernel
theorem dX12_clause_204 : decode cX12_clause 204 = .ok (.iconst (-1), 1) := by decide +kernel
theorem dX12_clause_205 : decode cX12_clause 205 = .ok (.if_icmp .ne 46, 3) := by decide +kernel
theorem dX12_clause_208 : decode cX12_clause 208 = .ok (.aload_n 0, 1) := by decide +kernel
theorem dX12_clause_209 : decode cX12_clause 209 = .ok (.invokevirtual 143, 3) := by decide +kernel
theorem dX12_clause_212 : decode cX12_clause 212 = .ok (.bipush 63, 2) := by decide +kernel
theorem dX12_clause_214 : decode cX12_clause 214 = .ok (.if_icmp .eq 8, 3) := by decide +kernel
theorem dX12_clause_217 : decode cX12_clause 217 = .ok (.aload_n 0, 1) := by decide +kernel
theorem dX12_clause_218 : decode cX12_clause 218 = .ok (.invokevirtual 140, 3) := by decide +kernel
theorem dX12_clause_221 : decode cX12_clause 221 = .ok (.return_, 1) := by decide +kernel
theorem dX12_clause_222 : decode cX12_clause 222 = .ok (.aload_n 0, 1) := by decide +kernel
theorem dX12_clause_223 : decode cX12_clause 223 = .ok (.dup, 1) := by decide +kernel
theorem dX12_clause_224 : decode cX12_clause 224 = .ok (.getfield 124, 3) := by decide +kernel
theorem dX12_clause_227 : decode cX12_clause 227 = .ok (.iconst 1, 1) := by decide +kernel
theorem dX12_clause_228 : decode cX12_clause 228 = .ok (.iadd, 1) := by decide +kernel
theorem dX12_clause_229 : decode cX12_clause 229 = .ok (.putfield 124, 3) := by decide +kernel
theorem dX12_clause_232 : decode cX12_clause 232 = .ok (.aload_n 0, 1) := by decide +kernel
theorem dX12_clause_233 : decode cX12_clause 233 = .ok (.getfield 28, 3) := by decide +kernel
theorem dX12_clause_236 : decode cX12_clause 236 = .ok (.iload_n 1, 1) := by decide +kernel
theorem dX12_clause_237 : decode cX12_clause 237 = .ok (.aload_n 0, 1) := by decide +kernel
theorem dX12_clause_238 : decode cX12_clause 238 = .ok (.getfield 19, 3) := by decide +kernel
theorem dX12_clause_241 : decode cX12_clause 241 = .ok (.aload_n 0, 1) := by decide +kernel
theorem dX12_clause_242 : decode cX12_clause 242 = .ok (.getfield 134, 3) := by decide +kernel
theorem dX12_clause_245 : decode cX12_clause 245 = .ok (.iaload, 1) := by decide +kernel
theorem dX12_clause_246 : decode cX12_clause 246 = .ok (.iastore, 1) := by decide +kernel
theorem dX12_clause_247 : decode cX12_clause 247 = .ok (.aload_n 0, 1) := by decide +kernel
theorem dX12_clause_248 : decode cX12_clause 248 = .ok (.invokevirtual 164, 3) := by decide +kernel
theorem dX12_clause_251 : decode cX12_clause 251 = .ok (.aload_n 0, 1) := by decide +kernel
theorem dX12_clause_252 : decode cX12_clause 252 = .ok (.getfield 31, 3) := by decide +kernel
theorem dX12_clause_255 : decode cX12_clause 255 = .ok (.iload_n 1, 1) := by decide +kernel
theorem dX12_clause_256 : decode cX12_clause 256 = .ok (.aload_n 0, 1) := by decide +kernel
theorem dX12_clause_257 : decode cX12_clause 257 = .ok (.getfield 19, 3) := by decide +kernel
theorem dX12_clause_260 : decode cX12_clause 260 = .ok (.aload_n 0, 1) := by decide +kernel
theorem dX12_clause_261 : decode cX12_clause 261 = .ok (.getfield 134, 3) := by decide +kernel
theorem dX12_clause_264 : decode cX12_clause 264 = .ok (.iaload, 1) := by decide +kernel
theorem dX12_clause_265 : decode cX12_clause 265 = .ok (.iastore, 1) := by decide +kernel
theorem dX12_clause_266 : decode cX12_clause 266 = .ok (.aload_n 0, 1) := by decide +kernel
theorem dX12_clause_267 : decode cX12_clause 267 = .ok (.getfield 22, 3) := by decide +kernel
theorem dX12_clause_270 : decode cX12_clause 270 = .ok (.aload_n 0, 1) := by decide +kernel
theorem dX12_clause_271 : decode cX12_clause 271 = .ok (.getfield 134, 3) := by decide +kernel
theorem dX12_clause_274 : decode cX12_clause 274 = .ok (.dup2, 1) := by decide +kernel
theorem dX12_clause_275 : decode cX12_clause 275 = .ok (.iaload, 1) := by decide +kernel
theorem dX12_clause_276 : decode cX12_clause 276 = .ok (.iconst 1, 1) := by decide +kernel
theorem dX12_clause_277 : decode cX12_clause 277 = .ok (.iadd, 1) := by decide +kernel
theorem dX12_clause_278 : decode cX12_clause 278 = .ok (.iastore, 1) := by decide +kernel
theorem dX12_clause_279 : decode cX12_clause 279 = .ok (.return_, 1) := by decide +kernel
theorem dX12_open_0 : decode cX12_open 0 = .ok (.aload_n 0, 1) := by decide +kernel
theorem dX12_open_1 : decode cX12_open 1 = .ok (.iload_n 1, 1) := by decide +kernel
theorem dX12_open_2 : decode cX12_open 2 = .ok (.putfield 134, 3) := by decide +kernel
theorem dX12_open_5 : decode cX12_open 5 = .ok (.aload_n 0, 1) := by decide +kernel
theorem dX12_open_6 : decode cX12_open 6 = .ok (.iconst 0, 1) := by decide +kernel
theorem dX12_open_7 : decode cX12_open 7 = .ok (.putfield 124, 3) := by decide +kernel
theorem dX12_open_10 : decode cX12_open 10 = .ok (.aload_n 0, 1) := by decide +kernel
theorem dX12_open_11 : decode cX12_open 11 = .ok (.iconst (-1), 1) := by decide +kernel
theorem dX12_open_12 : decode cX12_open 12 = .ok (.putfield 131, 3) := by decide +kernel
theorem dX12_open_15 : decode cX12_open 15 = .ok (.aload_n 0, 1) := by decide +kernel
theorem dX12_open_16 : decode cX12_open 16 = .ok (.iconst 0, 1) := by decide +kernel
theorem dX12_open_17 : decode cX12_open 17 = .ok (.putfield 137, 3) := by decide +kernel
theorem dX12_open_20 : decode cX12_open 20 = .ok (.aload_n 0, 1) := by decide +kernel
theorem dX12_open_21 : decode cX12_open 21 = .ok (.getfield 19, 3) := by decide +kernel
theorem dX12_open_24 : decode cX12_open 24 = .ok (.iload_n 1, 1) := by decide +kernel
theorem dX12_open_25 : decode cX12_open 25 = .ok (.iconst 0, 1) := by decide +kernel
theorem dX12_open_26 : decode cX12_open 26 = .ok (.iastore, 1) := by decide +kernel
theorem dX12_open_27 : decode cX12_open 27 = .ok (.aload_n 0, 1) := by decide +kernel
theorem dX12_open_28 : decode cX12_open 28 = .ok (.getfield 22, 3) := by decide +kernel
theorem dX12_open_31 : decode cX12_open 31 = .ok (.iload_n 1, 1) := by decide +kernel
theorem dX12_open_32 : decode cX12_open 32 = .ok (.iconst 0, 1) := by decide +kernel
theorem dX12_open_33 : decode cX12_open 33 = .ok (.iastore, 1) := by decide +kernel
theorem dX12_open_34 : decode cX12_open 34 = .ok (.return_, 1) := by decide +kernel
theorem dX12_atEnd_0 : decode cX12_atEnd 0 = .ok (.aload_n 0, 1) := by decide +kernel
theorem dX12_atEnd_1 : decode cX12_atEnd 1 = .ok (.getfield 131, 3) := by decide +kernel
theorem dX12_atEnd_4 : decode cX12_atEnd 4 = .ok (.iconst (-1), 1) := by decide +kernel
theorem dX12_atEnd_5 : decode cX12_atEnd 5 = .ok (.if_icmp .ne 15, 3) := by decide +kernel
theorem dX12_atEnd_8 : decode cX12_atEnd 8 = .ok (.aload_n 0, 1) := by decide +kernel
theorem dX12_atEnd_9 : decode cX12_atEnd 9 = .ok (.invokevirtual 143, 3) := by decide +kernel
theorem dX12_atEnd_12 : decode cX12_atEnd 12 = .ok (.iconst (-1), 1) := by decide +kernel
theorem dX12_atEnd_13 : decode cX12_atEnd 13 = .ok (.if_icmp .eq 7, 3) := by decide +kernel
theorem dX12_atEnd_16 : decode cX12_atEnd 16 = .ok (.aload_n 0, 1) := by decide +kernel
theorem dX12_atEnd_17 : decode cX12_atEnd 17 = .ok (.invokevirtual 140, 3) := by decide +kernel
theorem dX12_atEnd_20 : decode cX12_atEnd 20 = .ok (.aload_n 0, 1) := by decide +kernel
theorem dX12_atEnd_21 : decode cX12_atEnd 21 = .ok (.getfield 131, 3) := by decide +kernel
theorem dX12_atEnd_24 : decode cX12_atEnd 24 = .ok (.ireturn, 1) := by decide +kernel
theorem dX12_readLaw_0 : decode cX12_readLaw 0 = .ok (.aload_n 0, 1) := by decide +kernel
theorem dX12_readLaw_1 : decode cX12_readLaw 1 = .ok (.iload_n 1, 1) := by decide +kernel
theorem dX12_readLaw_2 : decode cX12_readLaw 2 = .ok (.invokevirtual 195, 3) := by decide +kernel
theorem dX12_readLaw_5 : decode cX12_readLaw 5 = .ok (.aload_n 0, 1) := by decide +kernel
theorem dX12_readLaw_6 : decode cX12_readLaw 6 = .ok (.invokevirtual 198, 3) := by decide +kernel
theorem dX12_readLaw_9 : decode cX12_readLaw 9 = .ok (.aload_n 0, 1) := by decide +kernel
theorem dX12_readLaw_10 : decode cX12_readLaw 10 = .ok (.getfield 131, 3) := by decide +kernel
theorem dX12_readLaw_13 : decode cX12_readLaw 13 = .ok (.iconst (-1), 1) := by decide +kernel
theorem dX12_readLaw_14 : decode cX12_readLaw 14 = .ok (.if_icmp .ne 29, 3) := by decide +kernel
theorem dX12_readLaw_17 : decode cX12_readLaw 17 = .ok (.aload_n 0, 1) := by decide +kernel
theorem dX12_readLaw_18 : decode cX12_readLaw 18 = .ok (.invokevirtual 143, 3) := by decide +kernel
theorem dX12_readLaw_21 : decode cX12_readLaw 21 = .ok (.bipush 59, 2) := by decide +kernel
theorem dX12_readLaw_23 : decode cX12_readLaw 23 = .ok (.if_icmp .ne 20, 3) := by decide +kernel
theorem dX12_readLaw_26 : decode cX12_readLaw 26 = .ok (.aload_n 0, 1) := by decide +kernel
theorem dX12_readLaw_27 : decode cX12_readLaw 27 = .ok (.dup, 1) := by decide +kernel
theorem dX12_readLaw_28 : decode cX12_readLaw 28 = .ok (.getfield 124, 3) := by decide +kernel
theorem dX12_readLaw_31 : decode cX12_readLaw 31 = .ok (.iconst 1, 1) := by decide +kernel
theorem dX12_readLaw_32 : decode cX12_readLaw 32 = .ok (.iadd, 1) := by decide +kernel
theorem dX12_readLaw_33 : decode cX12_readLaw 33 = .ok (.putfield 124, 3) := by decide +kernel
theorem dX12_readLaw_36 : decode cX12_readLaw 36 = .ok (.aload_n 0, 1) := by decide +kernel
theorem dX12_readLaw_37 : decode cX12_readLaw 37 = .ok (.invokevirtual 198, 3) := by decide +kernel
theorem dX12_readLaw_40 : decode cX12_readLaw 40 = .ok (.goto (-31), 3) := by decide +kernel
theorem dX12_readLaw_43 : decode cX12_readLaw 43 = .ok (.aload_n 0, 1) := by decide +kernel
theorem dX12_readLaw_44 : decode cX12_readLaw 44 = .ok (.invokevirtual 201, 3) := by decide +kernel
theorem dX12_readLaw_47 : decode cX12_readLaw 47 = .ok (.ireturn, 1) := by decide +kernel
theorem dX12_bounded_0 : decode cX12_bounded 0 = .ok (.ldc2_w 204, 3) := by decide +kernel
theorem dX12_bounded_3 : decode cX12_bounded 3 = .ok (.ldc2_w 206, 3) := by decide +kernel
theorem dX12_bounded_6 : decode cX12_bounded 6 = .ok (.lload_n 0, 1) := by decide +kernel
theorem dX12_bounded_7 : decode cX12_bounded 7 = .ok (.invokestatic 208, 3) := by decide +kernel
theorem dX12_bounded_10 : decode cX12_bounded 10 = .ok (.invokestatic 214, 3) := by decide +kernel
theorem dX12_bounded_13 : decode cX12_bounded 13 = .ok (.l2i, 1) := by decide +kernel
theorem dX12_bounded_14 : decode cX12_bounded 14 = .ok (.ireturn, 1) := by decide +kernel
theorem dX12_worked_0 : decode cX12_worked 0 = .ok (.iload_n 0, 1) := by decide +kernel
theorem dX12_worked_1 : decode cX12_worked 1 = .ok (.tableswitch 143 2 10 #[51, 58, 65, 72, 89, 101, 113, 143, 125], 51) := by decide +kernel
theorem dX12_worked_52 : decode cX12_worked 52 = .ok (.lload_n 1, 1) := by decide +kernel
theorem dX12_worked_53 : decode cX12_worked 53 = .ok (.lload_n 3, 1) := by decide +kernel
theorem dX12_worked_54 : decode cX12_worked 54 = .ok (.ladd, 1) := by decide +kernel
theorem dX12_worked_55 : decode cX12_worked 55 = .ok (.invokestatic 217, 3) := by decide +kernel
theorem dX12_worked_58 : decode cX12_worked 58 = .ok (.ireturn, 1) := by decide +kernel
theorem dX12_worked_59 : decode cX12_worked 59 = .ok (.lload_n 1, 1) := by decide +kernel
theorem dX12_worked_60 : decode cX12_worked 60 = .ok (.lload_n 3, 1) := by decide +kernel
theorem dX12_worked_61 : decode cX12_worked 61 = .ok (.lsub, 1) := by decide +kernel
theorem dX12_worked_62 : decode cX12_worked 62 = .ok (.invokestatic 217, 3) := by decide +kernel
theorem dX12_worked_65 : decode cX12_worked 65 = .ok (.ireturn, 1) := by decide +kernel
theorem dX12_worked_66 : decode cX12_worked 66 = .ok (.lload_n 1, 1) := by decide +kernel
theorem dX12_worked_67 : decode cX12_worked 67 = .ok (.lload_n 3, 1) := by decide +kernel
theorem dX12_worked_68 : decode cX12_worked 68 = .ok (.lmul, 1) := by decide +kernel
theorem dX12_worked_69 : decode cX12_worked 69 = .ok (.invokestatic 217, 3) := by decide +kernel
theorem dX12_worked_72 : decode cX12_worked 72 = .ok (.ireturn, 1) := by decide +kernel
theorem dX12_worked_73 : decode cX12_worked 73 = .ok (.lload_n 3, 1) := by decide +kernel
theorem dX12_worked_74 : decode cX12_worked 74 = .ok (.lconst 0, 1) := by decide +kernel
theorem dX12_worked_75 : decode cX12_worked 75 = .ok (.lcmp, 1) := by decide +kernel
theorem dX12_worked_76 : decode cX12_worked 76 = .ok (.ifCond .ne 7, 3) := by decide +kernel
theorem dX12_worked_79 : decode cX12_worked 79 = .ok (.iconst 0, 1) := by decide +kernel
theorem dX12_worked_80 : decode cX12_worked 80 = .ok (.goto 9, 3) := by decide +kernel
theorem dX12_worked_83 : decode cX12_worked 83 = .ok (.lload_n 1, 1) := by decide +kernel
theorem dX12_worked_84 : decode cX12_worked 84 = .ok (.lload_n 3, 1) := by decide +kernel
theorem dX12_worked_85 : decode cX12_worked 85 = .ok (.ldiv, 1) := by decide +kernel
theorem dX12_worked_86 : decode cX12_worked 86 = .ok (.invokestatic 217, 3) := by decide +kernel
theorem dX12_worked_89 : decode cX12_worked 89 = .ok (.ireturn, 1) := by decide +kernel
theorem dX12_worked_90 : decode cX12_worked 90 = .ok (.lload_n 1, 1) := by decide +kernel
theorem dX12_worked_91 : decode cX12_worked 91 = .ok (.lload_n 3, 1) := by decide +kernel
theorem dX12_worked_92 : decode cX12_worked 92 = .ok (.lcmp, 1) := by decide +kernel
theorem dX12_worked_93 : decode cX12_worked 93 = .ok (.ifCond .ne 7, 3) := by decide +kernel
theorem dX12_worked_96 : decode cX12_worked 96 = .ok (.iconst 1, 1) := by decide +kernel
theorem dX12_worked_97 : decode cX12_worked 97 = .ok (.goto 4, 3) := by decide +kernel
theorem dX12_worked_100 : decode cX12_worked 100 = .ok (.iconst 0, 1) := by decide +kernel
theorem dX12_worked_101 : decode cX12_worked 101 = .ok (.ireturn, 1) := by decide +kernel
theorem dX12_worked_102 : decode cX12_worked 102 = .ok (.lload_n 1, 1) := by decide +kernel
theorem dX12_worked_103 : decode cX12_worked 103 = .ok (.lload_n 3, 1) := by decide +kernel
theorem dX12_worked_104 : decode cX12_worked 104 = .ok (.lcmp, 1) := by decide +kernel
theorem dX12_worked_105 : decode cX12_worked 105 = .ok (.ifCond .ge 7, 3) := by decide +kernel
theorem dX12_worked_108 : decode cX12_worked 108 = .ok (.iconst 1, 1) := by decide +kernel
theorem dX12_worked_109 : decode cX12_worked 109 = .ok (.goto 4, 3) := by decide +kernel
theorem dX12_worked_112 : decode cX12_worked 112 = .ok (.iconst 0, 1) := by decide +kernel
theorem dX12_worked_113 : decode cX12_worked 113 = .ok (.ireturn, 1) := by decide +kernel
theorem dX12_worked_114 : decode cX12_worked 114 = .ok (.lload_n 1, 1) := by decide +kernel
theorem dX12_worked_115 : decode cX12_worked 115 = .ok (.lload_n 3, 1) := by decide +kernel
theorem dX12_worked_116 : decode cX12_worked 116 = .ok (.lcmp, 1) := by decide +kernel
theorem dX12_worked_117 : decode cX12_worked 117 = .ok (.ifCond .le 7, 3) := by decide +kernel
theorem dX12_worked_120 : decode cX12_worked 120 = .ok (.iconst 1, 1) := by decide +kernel
theorem dX12_worked_121 : decode cX12_worked 121 = .ok (.goto 4, 3) := by decide +kernel
theorem dX12_worked_124 : decode cX12_worked 124 = .ok (.iconst 0, 1) := by decide +kernel
theorem dX12_worked_125 : decode cX12_worked 125 = .ok (.ireturn, 1) := by decide +kernel
theorem dX12_worked_126 : decode cX12_worked 126 = .ok (.lload_n 1, 1) := by decide +kernel
theorem dX12_worked_127 : decode cX12_worked 127 = .ok (.lconst 0, 1) := by decide +kernel
theorem dX12_worked_128 : decode cX12_worked 128 = .ok (.lcmp, 1) := by decide +kernel
theorem dX12_worked_129 : decode cX12_worked 129 = .ok (.ifCond .eq 13, 3) := by decide +kernel
theorem dX12_worked_132 : decode cX12_worked 132 = .ok (.lload_n 3, 1) := by decide +kernel
theorem dX12_worked_133 : decode cX12_worked 133 = .ok (.lconst 0, 1) := by decide +kernel
theorem dX12_worked_134 : decode cX12_worked 134 = .ok (.lcmp, 1) := by decide +kernel
theorem dX12_worked_135 : decode cX12_worked 135 = .ok (.ifCond .eq 7, 3) := by decide +kernel
theorem dX12_worked_138 : decode cX12_worked 138 = .ok (.iconst 1, 1) := by decide +kernel
theorem dX12_worked_139 : decode cX12_worked 139 = .ok (.goto 4, 3) := by decide +kernel
theorem dX12_worked_142 : decode cX12_worked 142 = .ok (.iconst 0, 1) := by decide +kernel
theorem dX12_worked_143 : decode cX12_worked 143 = .ok (.ireturn, 1) := by decide +kernel
theorem dX12_worked_144 : decode cX12_worked 144 = .ok (.lload_n 1, 1) := by decide +kernel
theorem dX12_worked_145 : decode cX12_worked 145 = .ok (.lconst 0, 1) := by decide +kernel
theorem dX12_worked_146 : decode cX12_worked 146 = .ok (.lcmp, 1) := by decide +kernel
theorem dX12_worked_147 : decode cX12_worked 147 = .ok (.ifCond .ne 9, 3) := by decide +kernel
theorem dX12_worked_150 : decode cX12_worked 150 = .ok (.lload_n 3, 1) := by decide +kernel
theorem dX12_worked_151 : decode cX12_worked 151 = .ok (.lconst 0, 1) := by decide +kernel
theorem dX12_worked_152 : decode cX12_worked 152 = .ok (.lcmp, 1) := by decide +kernel
theorem dX12_worked_153 : decode cX12_worked 153 = .ok (.ifCond .eq 7, 3) := by decide +kernel
theorem dX12_worked_156 : decode cX12_worked 156 = .ok (.iconst 1, 1) := by decide +kernel
theorem dX12_worked_157 : decode cX12_worked 157 = .ok (.goto 4, 3) := by decide +kernel
theorem dX12_worked_160 : decode cX12_worked 160 = .ok (.iconst 0, 1) := by decide +kernel
theorem dX12_worked_161 : decode cX12_worked 161 = .ok (.ireturn, 1) := by decide +kernel
theorem dX12_workOut_0 : decode cX12_workOut 0 = .ok (.iconst 0, 1) := by decide +kernel
theorem dX12_workOut_1 : decode cX12_workOut 1 = .ok (.istore 4, 2) := by decide +kernel
theorem dX12_workOut_3 : decode cX12_workOut 3 = .ok (.sipush 520, 3) := by decide +kernel
theorem dX12_workOut_6 : decode cX12_workOut 6 = .ok (.iload_n 1, 1) := by decide +kernel
theorem dX12_workOut_7 : decode cX12_workOut 7 = .ok (.imul, 1) := by decide +kernel
theorem dX12_workOut_8 : decode cX12_workOut 8 = .ok (.iload_n 2, 1) := by decide +kernel
theorem dX12_workOut_9 : decode cX12_workOut 9 = .ok (.iadd, 1) := by decide +kernel
theorem dX12_workOut_10 : decode cX12_workOut 10 = .ok (.istore 5, 2) := by decide +kernel
theorem dX12_workOut_12 : decode cX12_workOut 12 = .ok (.iload 5, 2) := by decide +kernel
theorem dX12_workOut_14 : decode cX12_workOut 14 = .ok (.sipush 520, 3) := by decide +kernel
theorem dX12_workOut_17 : decode cX12_workOut 17 = .ok (.iload_n 1, 1) := by decide +kernel
theorem dX12_workOut_18 : decode cX12_workOut 18 = .ok (.imul, 1) := by decide +kernel
theorem dX12_workOut_19 : decode cX12_workOut 19 = .ok (.iload_n 3, 1) := by decide +kernel
theorem dX12_workOut_20 : decode cX12_workOut 20 = .ok (.iadd, 1) := by decide +kernel
theorem dX12_workOut_21 : decode cX12_workOut 21 = .ok (.if_icmp .ge 150, 3) := by decide +kernel
theorem dX12_workOut_24 : decode cX12_workOut 24 = .ok (.aload_n 0, 1) := by decide +kernel
theorem dX12_workOut_25 : decode cX12_workOut 25 = .ok (.getfield 13, 3) := by decide +kernel
theorem dX12_workOut_28 : decode cX12_workOut 28 = .ok (.iload 5, 2) := by decide +kernel
theorem dX12_workOut_30 : decode cX12_workOut 30 = .ok (.iaload, 1) := by decide +kernel
theorem dX12_workOut_31 : decode cX12_workOut 31 = .ok (.ifCond .eq 14, 3) := by decide +kernel
theorem dX12_workOut_34 : decode cX12_workOut 34 = .ok (.aload_n 0, 1) := by decide +kernel
theorem dX12_workOut_35 : decode cX12_workOut 35 = .ok (.getfield 13, 3) := by decide +kernel
theorem dX12_workOut_38 : decode cX12_workOut 38 = .ok (.iload 5, 2) := by decide +kernel
theorem dX12_workOut_40 : decode cX12_workOut 40 = .ok (.iaload, 1) := by decide +kernel
theorem dX12_workOut_41 : decode cX12_workOut 41 = .ok (.iconst 1, 1) := by decide +kernel
theorem dX12_workOut_42 : decode cX12_workOut 42 = .ok (.if_icmp .ne 48, 3) := by decide +kernel
theorem dX12_workOut_45 : decode cX12_workOut 45 = .ok (.aload_n 0, 1) := by decide +kernel
theorem dX12_workOut_46 : decode cX12_workOut 46 = .ok (.getfield 37, 3) := by decide +kernel
theorem dX12_workOut_49 : decode cX12_workOut 49 = .ok (.iload 4, 2) := by decide +kernel
theorem dX12_workOut_51 : decode cX12_workOut 51 = .ok (.aload_n 0, 1) := by decide +kernel
theorem dX12_workOut_52 : decode cX12_workOut 52 = .ok (.getfield 13, 3) := by decide +kernel
theorem dX12_workOut_55 : decode cX12_workOut 55 = .ok (.iload 5, 2) := by decide +kernel
theorem dX12_workOut_57 : decode cX12_workOut 57 = .ok (.iaload, 1) := by decide +kernel
theorem dX12_workOut_58 : decode cX12_workOut 58 = .ok (.ifCond .ne 13, 3) := by decide +kernel
theorem dX12_workOut_61 : decode cX12_workOut 61 = .ok (.aload_n 0, 1) := by decide +kernel
theorem dX12_workOut_62 : decode cX12_workOut 62 = .ok (.getfield 16, 3) := by decide +kernel
theorem dX12_workOut_65 : decode cX12_workOut 65 = .ok (.iload 5, 2) := by decide +kernel
theorem dX12_workOut_67 : decode cX12_workOut 67 = .ok (.iaload, 1) := by decide +kernel
theorem dX12_workOut_68 : decode cX12_workOut 68 = .ok (.goto 15, 3) := by decide +kernel
theorem dX12_workOut_71 : decode cX12_workOut 71 = .ok (.aload_n 0, 1) := by decide +kernel
theorem dX12_workOut_72 : decode cX12_workOut 72 = .ok (.getfield 34, 3) := by decide +kernel
theorem dX12_workOut_75 : decode cX12_workOut 75 = .ok (.aload_n 0, 1) := by decide +kernel
theorem dX12_workOut_76 : decode cX12_workOut 76 = .ok (.getfield 16, 3) := by decide +kernel
theorem dX12_workOut_79 : decode cX12_workOut 79 = .ok (.iload 5, 2) := by decide +kernel
theorem dX12_workOut_81 : decode cX12_workOut 81 = .ok (.iaload, 1) := by decide +kernel
theorem dX12_workOut_82 : decode cX12_workOut 82 = .ok (.iaload, 1) := by decide +kernel
theorem dX12_workOut_83 : decode cX12_workOut 83 = .ok (.iastore, 1) := by decide +kernel
theorem dX12_workOut_84 : decode cX12_workOut 84 = .ok (.iinc 4 1, 3) := by decide +kernel
theorem dX12_workOut_87 : decode cX12_workOut 87 = .ok (.goto 78, 3) := by decide +kernel
theorem dX12_workOut_90 : decode cX12_workOut 90 = .ok (.aload_n 0, 1) := by decide +kernel
theorem dX12_workOut_91 : decode cX12_workOut 91 = .ok (.getfield 13, 3) := by decide +kernel
theorem dX12_workOut_94 : decode cX12_workOut 94 = .ok (.iload 5, 2) := by decide +kernel
theorem dX12_workOut_96 : decode cX12_workOut 96 = .ok (.iaload, 1) := by decide +kernel
theorem dX12_workOut_97 : decode cX12_workOut 97 = .ok (.bipush 9, 2) := by decide +kernel
theorem dX12_workOut_99 : decode cX12_workOut 99 = .ok (.if_icmp .ne 26, 3) := by decide +kernel
theorem dX12_workOut_102 : decode cX12_workOut 102 = .ok (.aload_n 0, 1) := by decide +kernel
theorem dX12_workOut_103 : decode cX12_workOut 103 = .ok (.getfield 37, 3) := by decide +kernel
theorem dX12_workOut_106 : decode cX12_workOut 106 = .ok (.iload 4, 2) := by decide +kernel
theorem dX12_workOut_108 : decode cX12_workOut 108 = .ok (.iconst 1, 1) := by decide +kernel
theorem dX12_workOut_109 : decode cX12_workOut 109 = .ok (.isub, 1) := by decide +kernel
theorem dX12_workOut_110 : decode cX12_workOut 110 = .ok (.iconst 1, 1) := by decide +kernel
theorem dX12_workOut_111 : decode cX12_workOut 111 = .ok (.aload_n 0, 1) := by decide +kernel
theorem dX12_workOut_112 : decode cX12_workOut 112 = .ok (.getfield 37, 3) := by decide +kernel
theorem dX12_workOut_115 : decode cX12_workOut 115 = .ok (.iload 4, 2) := by decide +kernel
theorem dX12_workOut_117 : decode cX12_workOut 117 = .ok (.iconst 1, 1) := by decide +kernel
theorem dX12_workOut_118 : decode cX12_workOut 118 = .ok (.isub, 1) := by decide +kernel
theorem dX12_workOut_119 : decode cX12_workOut 119 = .ok (.iaload, 1) := by decide +kernel
theorem dX12_workOut_120 : decode cX12_workOut 120 = .ok (.isub, 1) := by decide +kernel
theorem dX12_workOut_121 : decode cX12_workOut 121 = .ok (.iastore, 1) := by decide +kernel
theorem dX12_workOut_122 : decode cX12_workOut 122 = .ok (.goto 43, 3) := by decide +kernel
theorem dX12_workOut_125 : decode cX12_workOut 125 = .ok (.iinc 4 (-1), 3) := by decide +kernel
theorem dX12_workOut_128 : decode cX12_workOut 128 = .ok (.aload_n 0, 1) := by decide +kernel
theorem dX12_workOut_129 : decode cX12_workOut 129 = .ok (.getfield 37, 3) := by decide +kernel
theorem dX12_workOut_132 : decode cX12_workOut 132 = .ok (.iload 4, 2) := by decide +kernel
theorem dX12_workOut_134 : decode cX12_workOut 134 = .ok (.iconst 1, 1) := by decide +kernel
theorem dX12_workOut_135 : decode cX12_workOut 135 = .ok (.isub, 1) := by decide +kernel
theorem dX12_workOut_136 : decode cX12_workOut 136 = .ok (.aload_n 0, 1) := by decide +kernel
theorem dX12_workOut_137 : decode cX12_workOut 137 = .ok (.getfield 13, 3) := by decide +kernel
theorem dX12_workOut_140 : decode cX12_workOut 140 = .ok (.iload 5, 2) := by decide +kernel
theorem dX12_workOut_142 : decode cX12_workOut 142 = .ok (.iaload, 1) := by decide +kernel
theorem dX12_workOut_143 : decode cX12_workOut 143 = .ok (.aload_n 0, 1) := by decide +kernel
theorem dX12_workOut_144 : decode cX12_workOut 144 = .ok (.getfield 37, 3) := by decide +kernel
theorem dX12_workOut_147 : decode cX12_workOut 147 = .ok (.iload 4, 2) := by decide +kernel
theorem dX12_workOut_149 : decode cX12_workOut 149 = .ok (.iconst 1, 1) := by decide +kernel
theorem dX12_workOut_150 : decode cX12_workOut 150 = .ok (.isub, 1) := by decide +kernel
theorem dX12_workOut_151 : decode cX12_workOut 151 = .ok (.iaload, 1) := by decide +kernel
theorem dX12_workOut_152 : decode cX12_workOut 152 = .ok (.i2l, 1) := by decide +kernel
theorem dX12_workOut_153 : decode cX12_workOut 153 = .ok (.aload_n 0, 1) := by decide +kernel
theorem dX12_workOut_154 : decode cX12_workOut 154 = .ok (.getfield 37, 3) := by decide +kernel
theorem dX12_workOut_157 : decode cX12_workOut 157 = .ok (.iload 4, 2) := by decide +kernel
theorem dX12_workOut_159 : decode cX12_workOut 159 = .ok (.iaload, 1) := by decide +kernel
theorem dX12_workOut_160 : decode cX12_workOut 160 = .ok (.i2l, 1) := by decide +kernel
theorem dX12_workOut_161 : decode cX12_workOut 161 = .ok (.invokestatic 221, 3) := by decide +kernel
theorem dX12_workOut_164 : decode cX12_workOut 164 = .ok (.iastore, 1) := by decide +kernel
theorem dX12_workOut_165 : decode cX12_workOut 165 = .ok (.iinc 5 1, 3) := by decide +kernel
theorem dX12_workOut_168 : decode cX12_workOut 168 = .ok (.goto (-156), 3) := by decide +kernel
theorem dX12_workOut_171 : decode cX12_workOut 171 = .ok (.aload_n 0, 1) := by decide +kernel
theorem dX12_workOut_172 : decode cX12_workOut 172 = .ok (.getfield 37, 3) := by decide +kernel
theorem dX12_workOut_175 : decode cX12_workOut 175 = .ok (.iconst 0, 1) := by decide +kernel
theorem dX12_workOut_176 : decode cX12_workOut 176 = .ok (.iaload, 1) := by decide +kernel
theorem dX12_workOut_177 : decode cX12_workOut 177 = .ok (.ireturn, 1) := by decide +kernel
theorem dX12_worthOf_0 : decode cX12_worthOf 0 = .ok (.sipush 140, 3) := by decide +kernel
theorem dX12_worthOf_3 : decode cX12_worthOf 3 = .ok (.iload_n 1, 1) := by decide +kernel
theorem dX12_worthOf_4 : decode cX12_worthOf 4 = .ok (.imul, 1) := by decide +kernel
theorem dX12_worthOf_5 : decode cX12_worthOf 5 = .ok (.istore_n 2, 1) := by decide +kernel
theorem dX12_worthOf_6 : decode cX12_worthOf 6 = .ok (.iload_n 2, 1) := by decide +kernel
theorem dX12_worthOf_7 : decode cX12_worthOf 7 = .ok (.sipush 140, 3) := by decide +kernel
theorem dX12_worthOf_10 : decode cX12_worthOf 10 = .ok (.iload_n 1, 1) := by decide +kernel
theorem dX12_worthOf_11 : decode cX12_worthOf 11 = .ok (.imul, 1) := by decide +kernel
theorem dX12_worthOf_12 : decode cX12_worthOf 12 = .ok (.aload_n 0, 1) := by decide +kernel
theorem dX12_worthOf_13 : decode cX12_worthOf 13 = .ok (.getfield 22, 3) := by decide +kernel
theorem dX12_worthOf_16 : decode cX12_worthOf 16 = .ok (.iload_n 1, 1) := by decide +kernel
theorem dX12_worthOf_17 : decode cX12_worthOf 17 = .ok (.iaload, 1) := by decide +kernel
theorem dX12_worthOf_18 : decode cX12_worthOf 18 = .ok (.iadd, 1) := by decide +kernel
theorem dX12_worthOf_19 : decode cX12_worthOf 19 = .ok (.if_icmp .ge 62, 3) := by decide +kernel
theorem dX12_worthOf_22 : decode cX12_worthOf 22 = .ok (.aload_n 0, 1) := by decide +kernel
theorem dX12_worthOf_23 : decode cX12_worthOf 23 = .ok (.getfield 25, 3) := by decide +kernel
theorem dX12_worthOf_26 : decode cX12_worthOf 26 = .ok (.iload_n 2, 1) := by decide +kernel
theorem dX12_worthOf_27 : decode cX12_worthOf 27 = .ok (.iaload, 1) := by decide +kernel
theorem dX12_worthOf_28 : decode cX12_worthOf 28 = .ok (.aload_n 0, 1) := by decide +kernel
theorem dX12_worthOf_29 : decode cX12_worthOf 29 = .ok (.getfield 28, 3) := by decide +kernel
theorem dX12_worthOf_32 : decode cX12_worthOf 32 = .ok (.iload_n 2, 1) := by decide +kernel
theorem dX12_worthOf_33 : decode cX12_worthOf 33 = .ok (.iaload, 1) := by decide +kernel
theorem dX12_worthOf_34 : decode cX12_worthOf 34 = .ok (.if_icmp .eq 23, 3) := by decide +kernel
theorem dX12_worthOf_37 : decode cX12_worthOf 37 = .ok (.aload_n 0, 1) := by decide +kernel
theorem dX12_worthOf_38 : decode cX12_worthOf 38 = .ok (.iload_n 1, 1) := by decide +kernel
theorem dX12_worthOf_39 : decode cX12_worthOf 39 = .ok (.aload_n 0, 1) := by decide +kernel
theorem dX12_worthOf_40 : decode cX12_worthOf 40 = .ok (.getfield 25, 3) := by decide +kernel
theorem dX12_worthOf_43 : decode cX12_worthOf 43 = .ok (.iload_n 2, 1) := by decide +kernel
theorem dX12_worthOf_44 : decode cX12_worthOf 44 = .ok (.iaload, 1) := by decide +kernel
theorem dX12_worthOf_45 : decode cX12_worthOf 45 = .ok (.aload_n 0, 1) := by decide +kernel
theorem dX12_worthOf_46 : decode cX12_worthOf 46 = .ok (.getfield 28, 3) := by decide +kernel
theorem dX12_worthOf_49 : decode cX12_worthOf 49 = .ok (.iload_n 2, 1) := by decide +kernel
theorem dX12_worthOf_50 : decode cX12_worthOf 50 = .ok (.iaload, 1) := by decide +kernel
theorem dX12_worthOf_51 : decode cX12_worthOf 51 = .ok (.invokevirtual 225, 3) := by decide +kernel
theorem dX12_worthOf_54 : decode cX12_worthOf 54 = .ok (.ifCond .eq 21, 3) := by decide +kernel
theorem dX12_worthOf_57 : decode cX12_worthOf 57 = .ok (.aload_n 0, 1) := by decide +kernel
theorem dX12_worthOf_58 : decode cX12_worthOf 58 = .ok (.iload_n 1, 1) := by decide +kernel
theorem dX12_worthOf_59 : decode cX12_worthOf 59 = .ok (.aload_n 0, 1) := by decide +kernel
theorem dX12_worthOf_60 : decode cX12_worthOf 60 = .ok (.getfield 28, 3) := by decide +kernel
theorem dX12_worthOf_63 : decode cX12_worthOf 63 = .ok (.iload_n 2, 1) := by decide +kernel
theorem dX12_worthOf_64 : decode cX12_worthOf 64 = .ok (.iaload, 1) := by decide +kernel
theorem dX12_worthOf_65 : decode cX12_worthOf 65 = .ok (.aload_n 0, 1) := by decide +kernel
theorem dX12_worthOf_66 : decode cX12_worthOf 66 = .ok (.getfield 31, 3) := by decide +kernel
theorem dX12_worthOf_69 : decode cX12_worthOf 69 = .ok (.iload_n 2, 1) := by decide +kernel
theorem dX12_worthOf_70 : decode cX12_worthOf 70 = .ok (.iaload, 1) := by decide +kernel
theorem dX12_worthOf_71 : decode cX12_worthOf 71 = .ok (.invokevirtual 225, 3) := by decide +kernel
theorem dX12_worthOf_74 : decode cX12_worthOf 74 = .ok (.ireturn, 1) := by decide +kernel
theorem dX12_worthOf_75 : decode cX12_worthOf 75 = .ok (.iinc 2 1, 3) := by decide +kernel
theorem dX12_worthOf_78 : decode cX12_worthOf 78 = .ok (.goto (-72), 3) := by decide +kernel
theorem dX12_worthOf_81 : decode cX12_worthOf 81 = .ok (.iconst 0, 1) := by decide +kernel
theorem dX12_worthOf_82 : decode cX12_worthOf 82 = .ok (.ireturn, 1) := by decide +kernel
theorem dX12_number_0 : decode cX12_number 0 = .ok (.aload_n 0, 1) := by decide +kernel
theorem dX12_number_1 : decode cX12_number 1 = .ok (.invokevirtual 143, 3) := by decide +kernel
theorem dX12_number_4 : decode cX12_number 4 = .ok (.invokestatic 146, 3) := by decide +kernel
theorem dX12_number_7 : decode cX12_number 7 = .ok (.ifCond .ne 9, 3) := by decide +kernel
theorem dX12_number_10 : decode cX12_number 10 = .ok (.aload_n 0, 1) := by decide +kernel
theorem dX12_number_11 : decode cX12_number 11 = .ok (.invokevirtual 140, 3) := by decide +kernel
theorem dX12_number_14 : decode cX12_number 14 = .ok (.iload_n 1, 1) := by decide +kernel
theorem dX12_number_15 : decode cX12_number 15 = .ok (.ireturn, 1) := by decide +kernel
theorem dX12_number_16 : decode cX12_number 16 = .ok (.aload_n 0, 1) := by decide +kernel
theorem dX12_number_17 : decode cX12_number 17 = .ok (.invokevirtual 127, 3) := by decide +kernel
theorem dX12_number_20 : decode cX12_number 20 = .ok (.bipush 48, 2) := by decide +kernel
theorem dX12_number_22 : decode cX12_number 22 = .ok (.isub, 1) := by decide +kernel
theorem dX12_number_23 : decode cX12_number 23 = .ok (.istore_n 3, 1) := by decide +kernel
theorem dX12_number_24 : decode cX12_number 24 = .ok (.aload_n 0, 1) := by decide +kernel
theorem dX12_number_25 : decode cX12_number 25 = .ok (.dup, 1) := by decide +kernel
theorem dX12_number_26 : decode cX12_number 26 = .ok (.getfield 124, 3) := by decide +kernel
theorem dX12_number_29 : decode cX12_number 29 = .ok (.iconst 1, 1) := by decide +kernel
theorem dX12_number_30 : decode cX12_number 30 = .ok (.iadd, 1) := by decide +kernel
theorem dX12_number_31 : decode cX12_number 31 = .ok (.putfield 124, 3) := by decide +kernel
theorem dX12_number_34 : decode cX12_number 34 = .ok (.aload_n 0, 1) := by decide +kernel
theorem dX12_number_35 : decode cX12_number 35 = .ok (.invokevirtual 127, 3) := by decide +kernel
theorem dX12_number_38 : decode cX12_number 38 = .ok (.invokestatic 146, 3) := by decide +kernel
theorem dX12_number_41 : decode cX12_number 41 = .ok (.ifCond .eq 26, 3) := by decide +kernel
theorem dX12_number_44 : decode cX12_number 44 = .ok (.bipush 10, 2) := by decide +kernel
theorem dX12_number_46 : decode cX12_number 46 = .ok (.iload_n 3, 1) := by decide +kernel
theorem dX12_number_47 : decode cX12_number 47 = .ok (.imul, 1) := by decide +kernel
theorem dX12_number_48 : decode cX12_number 48 = .ok (.aload_n 0, 1) := by decide +kernel
theorem dX12_number_49 : decode cX12_number 49 = .ok (.invokevirtual 127, 3) := by decide +kernel
theorem dX12_number_52 : decode cX12_number 52 = .ok (.iadd, 1) := by decide +kernel
theorem dX12_number_53 : decode cX12_number 53 = .ok (.bipush 48, 2) := by decide +kernel
theorem dX12_number_55 : decode cX12_number 55 = .ok (.isub, 1) := by decide +kernel
theorem dX12_number_56 : decode cX12_number 56 = .ok (.istore_n 3, 1) := by decide +kernel
theorem dX12_number_57 : decode cX12_number 57 = .ok (.aload_n 0, 1) := by decide +kernel
theorem dX12_number_58 : decode cX12_number 58 = .ok (.dup, 1) := by decide +kernel
theorem dX12_number_59 : decode cX12_number 59 = .ok (.getfield 124, 3) := by decide +kernel
theorem dX12_number_62 : decode cX12_number 62 = .ok (.iconst 1, 1) := by decide +kernel
theorem dX12_number_63 : decode cX12_number 63 = .ok (.iadd, 1) := by decide +kernel
theorem dX12_number_64 : decode cX12_number 64 = .ok (.putfield 124, 3) := by decide +kernel
theorem dX12_number_67 : decode cX12_number 67 = .ok (.aload_n 0, 1) := by decide +kernel
theorem dX12_number_68 : decode cX12_number 68 = .ok (.invokevirtual 127, 3) := by decide +kernel
theorem dX12_number_71 : decode cX12_number 71 = .ok (.invokestatic 146, 3) := by decide +kernel
theorem dX12_number_74 : decode cX12_number 74 = .ok (.ifCond .eq 10, 3) := by decide +kernel
theorem dX12_number_77 : decode cX12_number 77 = .ok (.aload_n 0, 1) := by decide +kernel
theorem dX12_number_78 : decode cX12_number 78 = .ok (.invokevirtual 140, 3) := by decide +kernel
theorem dX12_number_81 : decode cX12_number 81 = .ok (.goto 26, 3) := by decide +kernel
theorem dX12_number_84 : decode cX12_number 84 = .ok (.iload_n 3, 1) := by decide +kernel
theorem dX12_number_85 : decode cX12_number 85 = .ok (.iload_n 1, 1) := by decide +kernel
theorem dX12_number_86 : decode cX12_number 86 = .ok (.iload_n 2, 1) := by decide +kernel
theorem dX12_number_87 : decode cX12_number 87 = .ok (.invokestatic 229, 3) := by decide +kernel
theorem dX12_number_90 : decode cX12_number 90 = .ok (.ifCond .ne 17, 3) := by decide +kernel
theorem dX12_number_93 : decode cX12_number 93 = .ok (.aload_n 0, 1) := by decide +kernel
theorem dX12_number_94 : decode cX12_number 94 = .ok (.dup, 1) := by decide +kernel
theorem dX12_number_95 : decode cX12_number 95 = .ok (.getfield 124, 3) := by decide +kernel
theorem dX12_number_98 : decode cX12_number 98 = .ok (.iconst 1, 1) := by decide +kernel
theorem dX12_number_99 : decode cX12_number 99 = .ok (.isub, 1) := by decide +kernel
theorem dX12_number_100 : decode cX12_number 100 = .ok (.putfield 124, 3) := by decide +kernel
theorem dX12_number_103 : decode cX12_number 103 = .ok (.aload_n 0, 1) := by decide +kernel
theorem dX12_number_104 : decode cX12_number 104 = .ok (.invokevirtual 140, 3) := by decide +kernel
theorem dX12_number_107 : decode cX12_number 107 = .ok (.iload_n 3, 1) := by decide +kernel
theorem dX12_number_108 : decode cX12_number 108 = .ok (.ireturn, 1) := by decide +kernel
theorem dX12_itemOf_0 : decode cX12_itemOf 0 = .ok (.iload_n 0, 1) := by decide +kernel
theorem dX12_itemOf_1 : decode cX12_itemOf 1 = .ok (.bipush 115, 2) := by decide +kernel
theorem dX12_itemOf_3 : decode cX12_itemOf 3 = .ok (.if_icmp .ne 35, 3) := by decide +kernel
theorem dX12_itemOf_6 : decode cX12_itemOf 6 = .ok (.iload_n 1, 1) := by decide +kernel
theorem dX12_itemOf_7 : decode cX12_itemOf 7 = .ok (.bipush 116, 2) := by decide +kernel
theorem dX12_itemOf_9 : decode cX12_itemOf 9 = .ok (.if_icmp .ne 7, 3) := by decide +kernel
theorem dX12_itemOf_12 : decode cX12_itemOf 12 = .ok (.iconst 0, 1) := by decide +kernel
theorem dX12_itemOf_13 : decode cX12_itemOf 13 = .ok (.goto 24, 3) := by decide +kernel
theorem dX12_itemOf_16 : decode cX12_itemOf 16 = .ok (.iload_n 1, 1) := by decide +kernel
theorem dX12_itemOf_17 : decode cX12_itemOf 17 = .ok (.bipush 107, 2) := by decide +kernel
theorem dX12_itemOf_19 : decode cX12_itemOf 19 = .ok (.if_icmp .ne 7, 3) := by decide +kernel
theorem dX12_itemOf_22 : decode cX12_itemOf 22 = .ok (.iconst 1, 1) := by decide +kernel
theorem dX12_itemOf_23 : decode cX12_itemOf 23 = .ok (.goto 14, 3) := by decide +kernel
theorem dX12_itemOf_26 : decode cX12_itemOf 26 = .ok (.iload_n 1, 1) := by decide +kernel
theorem dX12_itemOf_27 : decode cX12_itemOf 27 = .ok (.bipush 119, 2) := by decide +kernel
theorem dX12_itemOf_29 : decode cX12_itemOf 29 = .ok (.if_icmp .ne 7, 3) := by decide +kernel
theorem dX12_itemOf_32 : decode cX12_itemOf 32 = .ok (.iconst 2, 1) := by decide +kernel
theorem dX12_itemOf_33 : decode cX12_itemOf 33 = .ok (.goto 4, 3) := by decide +kernel
theorem dX12_itemOf_36 : decode cX12_itemOf 36 = .ok (.iconst (-1), 1) := by decide +kernel
theorem dX12_itemOf_37 : decode cX12_itemOf 37 = .ok (.ireturn, 1) := by decide +kernel
theorem dX12_itemOf_38 : decode cX12_itemOf 38 = .ok (.iload_n 1, 1) := by decide +kernel
theorem dX12_itemOf_39 : decode cX12_itemOf 39 = .ok (.bipush 99, 2) := by decide +kernel
theorem dX12_itemOf_41 : decode cX12_itemOf 41 = .ok (.if_icmp .ne 7, 3) := by decide +kernel
theorem dX12_itemOf_44 : decode cX12_itemOf 44 = .ok (.iconst 0, 1) := by decide +kernel
theorem dX12_itemOf_45 : decode cX12_itemOf 45 = .ok (.goto 24, 3) := by decide +kernel
theorem dX12_itemOf_48 : decode cX12_itemOf 48 = .ok (.iload_n 1, 1) := by decide +kernel
theorem dX12_itemOf_49 : decode cX12_itemOf 49 = .ok (.bipush 108, 2) := by decide +kernel
theorem dX12_itemOf_51 : decode cX12_itemOf 51 = .ok (.if_icmp .ne 7, 3) := by decide +kernel
theorem dX12_itemOf_54 : decode cX12_itemOf 54 = .ok (.iconst 1, 1) := by decide +kernel
theorem dX12_itemOf_55 : decode cX12_itemOf 55 = .ok (.goto 14, 3) := by decide +kernel
theorem dX12_itemOf_58 : decode cX12_itemOf 58 = .ok (.iload_n 1, 1) := by decide +kernel
theorem dX12_itemOf_59 : decode cX12_itemOf 59 = .ok (.bipush 115, 2) := by decide +kernel
theorem dX12_itemOf_61 : decode cX12_itemOf 61 = .ok (.if_icmp .ne 7, 3) := by decide +kernel
theorem dX12_itemOf_64 : decode cX12_itemOf 64 = .ok (.iconst 2, 1) := by decide +kernel
theorem dX12_itemOf_65 : decode cX12_itemOf 65 = .ok (.goto 4, 3) := by decide +kernel
theorem dX12_itemOf_68 : decode cX12_itemOf 68 = .ok (.iconst (-1), 1) := by decide +kernel
theorem dX12_itemOf_69 : decode cX12_itemOf 69 = .ok (.ireturn, 1) := by decide +kernel
theorem dX12_highest_0 : decode cX12_highest 0 = .ok (.iload_n 0, 1) := by decide +kernel
theorem dX12_highest_1 : decode cX12_highest 1 = .ok (.bipush 115, 2) := by decide +kernel
theorem dX12_highest_3 : decode cX12_highest 3 = .ok (.if_icmp .ne 16, 3) := by decide +kernel
theorem dX12_highest_6 : decode cX12_highest 6 = .ok (.iload_n 1, 1) := by decide +kernel
theorem dX12_highest_7 : decode cX12_highest 7 = .ok (.iconst 1, 1) := by decide +kernel
theorem dX12_highest_8 : decode cX12_highest 8 = .ok (.if_icmp .ne 8, 3) := by decide +kernel
theorem dX12_highest_11 : decode cX12_highest 11 = .ok (.bipush 99, 2) := by decide +kernel
theorem dX12_highest_13 : decode cX12_highest 13 = .ok (.goto 5, 3) := by decide +kernel
theorem dX12_highest_16 : decode cX12_highest 16 = .ok (.bipush 9, 2) := by decide +kernel
theorem dX12_highest_18 : decode cX12_highest 18 = .ok (.ireturn, 1) := by decide +kernel
theorem dX12_highest_19 : decode cX12_highest 19 = .ok (.iload_n 1, 1) := by decide +kernel
theorem dX12_highest_20 : decode cX12_highest 20 = .ok (.ifCond .ne 8, 3) := by decide +kernel
theorem dX12_highest_23 : decode cX12_highest 23 = .ok (.bipush 7, 2) := by decide +kernel
theorem dX12_highest_25 : decode cX12_highest 25 = .ok (.goto 15, 3) := by decide +kernel
theorem dX12_highest_28 : decode cX12_highest 28 = .ok (.iload_n 1, 1) := by decide +kernel
theorem dX12_highest_29 : decode cX12_highest 29 = .ok (.iconst 1, 1) := by decide +kernel
theorem dX12_highest_30 : decode cX12_highest 30 = .ok (.if_icmp .ne 8, 3) := by decide +kernel
theorem dX12_highest_33 : decode cX12_highest 33 = .ok (.bipush 99, 2) := by decide +kernel
theorem dX12_highest_35 : decode cX12_highest 35 = .ok (.goto 5, 3) := by decide +kernel
theorem dX12_highest_38 : decode cX12_highest 38 = .ok (.bipush 9, 2) := by decide +kernel
theorem dX12_highest_40 : decode cX12_highest 40 = .ok (.ireturn, 1) := by decide +kernel
theorem dX12_usual_0 : decode cX12_usual 0 = .ok (.iload_n 0, 1) := by decide +kernel
theorem dX12_usual_1 : decode cX12_usual 1 = .ok (.bipush 115, 2) := by decide +kernel
theorem dX12_usual_3 : decode cX12_usual 3 = .ok (.if_icmp .ne 15, 3) := by decide +kernel
theorem dX12_usual_6 : decode cX12_usual 6 = .ok (.iload_n 1, 1) := by decide +kernel
theorem dX12_usual_7 : decode cX12_usual 7 = .ok (.iconst 1, 1) := by decide +kernel
theorem dX12_usual_8 : decode cX12_usual 8 = .ok (.if_icmp .ne 8, 3) := by decide +kernel
theorem dX12_usual_11 : decode cX12_usual 11 = .ok (.bipush 20, 2) := by decide +kernel
theorem dX12_usual_13 : decode cX12_usual 13 = .ok (.goto 4, 3) := by decide +kernel
theorem dX12_usual_16 : decode cX12_usual 16 = .ok (.iconst 2, 1) := by decide +kernel
theorem dX12_usual_17 : decode cX12_usual 17 = .ok (.ireturn, 1) := by decide +kernel
theorem dX12_usual_18 : decode cX12_usual 18 = .ok (.iload_n 1, 1) := by decide +kernel
theorem dX12_usual_19 : decode cX12_usual 19 = .ok (.ifCond .ne 7, 3) := by decide +kernel
theorem dX12_usual_22 : decode cX12_usual 22 = .ok (.iconst 0, 1) := by decide +kernel
theorem dX12_usual_23 : decode cX12_usual 23 = .ok (.goto 14, 3) := by decide +kernel
theorem dX12_usual_26 : decode cX12_usual 26 = .ok (.iload_n 1, 1) := by decide +kernel
theorem dX12_usual_27 : decode cX12_usual 27 = .ok (.iconst 1, 1) := by decide +kernel
theorem dX12_usual_28 : decode cX12_usual 28 = .ok (.if_icmp .ne 8, 3) := by decide +kernel
theorem dX12_usual_31 : decode cX12_usual 31 = .ok (.bipush 30, 2) := by decide +kernel
theorem dX12_usual_33 : decode cX12_usual 33 = .ok (.goto 4, 3) := by decide +kernel
theorem dX12_usual_36 : decode cX12_usual 36 = .ok (.iconst 5, 1) := by decide +kernel
theorem dX12_usual_37 : decode cX12_usual 37 = .ok (.ireturn, 1) := by decide +kernel
theorem dX12_items_0 : decode cX12_items 0 = .ok (.iconst 0, 1) := by decide +kernel
theorem dX12_items_1 : decode cX12_items 1 = .ok (.istore 4, 2) := by decide +kernel
theorem dX12_items_3 : decode cX12_items 3 = .ok (.iload 4, 2) := by decide +kernel
theorem dX12_items_5 : decode cX12_items 5 = .ok (.iconst 3, 1) := by decide +kernel
theorem dX12_items_6 : decode cX12_items 6 = .ok (.if_icmp .ge 21, 3) := by decide +kernel
theorem dX12_items_9 : decode cX12_items 9 = .ok (.aload_n 2, 1) := by decide +kernel
theorem dX12_items_10 : decode cX12_items 10 = .ok (.iload_n 3, 1) := by decide +kernel
theorem dX12_items_11 : decode cX12_items 11 = .ok (.iload 4, 2) := by decide +kernel
theorem dX12_items_13 : decode cX12_items 13 = .ok (.iadd, 1) := by decide +kernel
theorem dX12_items_14 : decode cX12_items 14 = .ok (.iload_n 1, 1) := by decide +kernel
theorem dX12_items_15 : decode cX12_items 15 = .ok (.iload 4, 2) := by decide +kernel
theorem dX12_items_17 : decode cX12_items 17 = .ok (.invokestatic 233, 3) := by decide +kernel
theorem dX12_items_20 : decode cX12_items 20 = .ok (.iastore, 1) := by decide +kernel
theorem dX12_items_21 : decode cX12_items 21 = .ok (.iinc 4 1, 3) := by decide +kernel
theorem dX12_items_24 : decode cX12_items 24 = .ok (.goto (-21), 3) := by decide +kernel
theorem dX12_items_27 : decode cX12_items 27 = .ok (.iconst 0, 1) := by decide +kernel
theorem dX12_items_28 : decode cX12_items 28 = .ok (.istore 4, 2) := by decide +kernel
theorem dX12_items_30 : decode cX12_items 30 = .ok (.iload_n 1, 1) := by decide +kernel
theorem dX12_items_31 : decode cX12_items 31 = .ok (.aload_n 0, 1) := by decide +kernel
theorem dX12_items_32 : decode cX12_items 32 = .ok (.invokevirtual 143, 3) := by decide +kernel
theorem dX12_items_35 : decode cX12_items 35 = .ok (.invokestatic 237, 3) := by decide +kernel
theorem dX12_items_38 : decode cX12_items 38 = .ok (.istore 5, 2) := by decide +kernel
theorem dX12_items_40 : decode cX12_items 40 = .ok (.aload_n 0, 1) := by decide +kernel
theorem dX12_items_41 : decode cX12_items 41 = .ok (.getfield 131, 3) := by decide +kernel
theorem dX12_items_44 : decode cX12_items 44 = .ok (.iconst (-1), 1) := by decide +kernel
theorem dX12_items_45 : decode cX12_items 45 = .ok (.if_icmp .ne 107, 3) := by decide +kernel
theorem dX12_items_48 : decode cX12_items 48 = .ok (.iload 5, 2) := by decide +kernel
theorem dX12_items_50 : decode cX12_items 50 = .ok (.iconst (-1), 1) := by decide +kernel
theorem dX12_items_51 : decode cX12_items 51 = .ok (.if_icmp .eq 101, 3) := by decide +kernel
theorem dX12_items_54 : decode cX12_items 54 = .ok (.iload 4, 2) := by decide +kernel
theorem dX12_items_56 : decode cX12_items 56 = .ok (.iload 5, 2) := by decide +kernel
theorem dX12_items_58 : decode cX12_items 58 = .ok (.invokestatic 240, 3) := by decide +kernel
theorem dX12_items_61 : decode cX12_items 61 = .ok (.ifCond .ne 91, 3) := by decide +kernel
theorem dX12_items_64 : decode cX12_items 64 = .ok (.iload 4, 2) := by decide +kernel
theorem dX12_items_66 : decode cX12_items 66 = .ok (.iconst 1, 1) := by decide +kernel
theorem dX12_items_67 : decode cX12_items 67 = .ok (.iload 5, 2) := by decide +kernel
theorem dX12_items_69 : decode cX12_items 69 = .ok (.ishl, 1) := by decide +kernel
theorem dX12_items_70 : decode cX12_items 70 = .ok (.ior, 1) := by decide +kernel
theorem dX12_items_71 : decode cX12_items 71 = .ok (.istore 4, 2) := by decide +kernel
theorem dX12_items_73 : decode cX12_items 73 = .ok (.aload_n 0, 1) := by decide +kernel
theorem dX12_items_74 : decode cX12_items 74 = .ok (.dup, 1) := by decide +kernel
theorem dX12_items_75 : decode cX12_items 75 = .ok (.getfield 124, 3) := by decide +kernel
theorem dX12_items_78 : decode cX12_items 78 = .ok (.iconst 1, 1) := by decide +kernel
theorem dX12_items_79 : decode cX12_items 79 = .ok (.iadd, 1) := by decide +kernel
theorem dX12_items_80 : decode cX12_items 80 = .ok (.putfield 124, 3) := by decide +kernel
theorem dX12_items_83 : decode cX12_items 83 = .ok (.aload_n 2, 1) := by decide +kernel
theorem dX12_items_84 : decode cX12_items 84 = .ok (.iload_n 3, 1) := by decide +kernel
theorem dX12_items_85 : decode cX12_items 85 = .ok (.iload 5, 2) := by decide +kernel
theorem dX12_items_87 : decode cX12_items 87 = .ok (.iadd, 1) := by decide +kernel
theorem dX12_items_88 : decode cX12_items 88 = .ok (.aload_n 0, 1) := by decide +kernel
theorem dX12_items_89 : decode cX12_items 89 = .ok (.iload_n 1, 1) := by decide +kernel
theorem dX12_items_90 : decode cX12_items 90 = .ok (.bipush 115, 2) := by decide +kernel
theorem dX12_items_92 : decode cX12_items 92 = .ok (.if_icmp .ne 8, 3) := by decide +kernel
theorem dX12_items_95 : decode cX12_items 95 = .ok (.iload 5, 2) := by decide +kernel
theorem dX12_items_97 : decode cX12_items 97 = .ok (.ifCond .eq 15, 3) := by decide +kernel
theorem dX12_items_100 : decode cX12_items 100 = .ok (.iload_n 1, 1) := by decide +kernel
theorem dX12_items_101 : decode cX12_items 101 = .ok (.bipush 100, 2) := by decide +kernel
theorem dX12_items_103 : decode cX12_items 103 = .ok (.if_icmp .ne 13, 3) := by decide +kernel
theorem dX12_items_106 : decode cX12_items 106 = .ok (.iload 5, 2) := by decide +kernel
theorem dX12_items_108 : decode cX12_items 108 = .ok (.iconst 1, 1) := by decide +kernel
theorem dX12_items_109 : decode cX12_items 109 = .ok (.if_icmp .ne 7, 3) := by decide +kernel
theorem dX12_items_112 : decode cX12_items 112 = .ok (.iconst 1, 1) := by decide +kernel
theorem dX12_items_113 : decode cX12_items 113 = .ok (.goto 4, 3) := by decide +kernel
theorem dX12_items_116 : decode cX12_items 116 = .ok (.iconst 0, 1) := by decide +kernel
theorem dX12_items_117 : decode cX12_items 117 = .ok (.iload_n 1, 1) := by decide +kernel
theorem dX12_items_118 : decode cX12_items 118 = .ok (.iload 5, 2) := by decide +kernel
theorem dX12_items_120 : decode cX12_items 120 = .ok (.invokestatic 244, 3) := by decide +kernel
theorem dX12_items_123 : decode cX12_items 123 = .ok (.invokevirtual 247, 3) := by decide +kernel
theorem dX12_items_126 : decode cX12_items 126 = .ok (.iastore, 1) := by decide +kernel
theorem dX12_items_127 : decode cX12_items 127 = .ok (.aload_n 0, 1) := by decide +kernel
theorem dX12_items_128 : decode cX12_items 128 = .ok (.getfield 131, 3) := by decide +kernel
theorem dX12_items_131 : decode cX12_items 131 = .ok (.iconst (-1), 1) := by decide +kernel
theorem dX12_items_132 : decode cX12_items 132 = .ok (.if_icmp .ne 14, 3) := by decide +kernel
theorem dX12_items_135 : decode cX12_items 135 = .ok (.iload_n 1, 1) := by decide +kernel
theorem dX12_items_136 : decode cX12_items 136 = .ok (.aload_n 0, 1) := by decide +kernel
theorem dX12_items_137 : decode cX12_items 137 = .ok (.invokevirtual 143, 3) := by decide +kernel
theorem dX12_items_140 : decode cX12_items 140 = .ok (.invokestatic 237, 3) := by decide +kernel
theorem dX12_items_143 : decode cX12_items 143 = .ok (.goto 4, 3) := by decide +kernel
theorem dX12_items_146 : decode cX12_items 146 = .ok (.iconst (-1), 1) := by decide +kernel
theorem dX12_items_147 : decode cX12_items 147 = .ok (.istore 5, 2) := by decide +kernel
theorem dX12_items_149 : decode cX12_items 149 = .ok (.goto (-109), 3) := by decide +kernel
theorem dX12_items_152 : decode cX12_items 152 = .ok (.return_, 1) := by decide +kernel
theorem dX12_readGreen_0 : decode cX12_readGreen 0 = .ok (.aload_n 0, 1) := by decide +kernel
theorem dX12_readGreen_1 : decode cX12_readGreen 1 = .ok (.iconst 0, 1) := by decide +kernel
theorem dX12_readGreen_2 : decode cX12_readGreen 2 = .ok (.putfield 124, 3) := by decide +kernel
theorem dX12_readGreen_5 : decode cX12_readGreen 5 = .ok (.aload_n 0, 1) := by decide +kernel
theorem dX12_readGreen_6 : decode cX12_readGreen 6 = .ok (.iconst (-1), 1) := by decide +kernel
theorem dX12_readGreen_7 : decode cX12_readGreen 7 = .ok (.putfield 131, 3) := by decide +kernel
theorem dX12_readGreen_10 : decode cX12_readGreen 10 = .ok (.aload_n 0, 1) := by decide +kernel
theorem dX12_readGreen_11 : decode cX12_readGreen 11 = .ok (.iconst 0, 1) := by decide +kernel
theorem dX12_readGreen_12 : decode cX12_readGreen 12 = .ok (.putfield 250, 3) := by decide +kernel
theorem dX12_readGreen_15 : decode cX12_readGreen 15 = .ok (.iconst 0, 1) := by decide +kernel
theorem dX12_readGreen_16 : decode cX12_readGreen 16 = .ok (.istore_n 1, 1) := by decide +kernel
theorem dX12_readGreen_17 : decode cX12_readGreen 17 = .ok (.iconst 0, 1) := by decide +kernel
theorem dX12_readGreen_18 : decode cX12_readGreen 18 = .ok (.istore_n 2, 1) := by decide +kernel
theorem dX12_readGreen_19 : decode cX12_readGreen 19 = .ok (.iload_n 2, 1) := by decide +kernel
theorem dX12_readGreen_20 : decode cX12_readGreen 20 = .ok (.iconst 3, 1) := by decide +kernel
theorem dX12_readGreen_21 : decode cX12_readGreen 21 = .ok (.if_icmp .ge 21, 3) := by decide +kernel
theorem dX12_readGreen_24 : decode cX12_readGreen 24 = .ok (.aload_n 0, 1) := by decide +kernel
theorem dX12_readGreen_25 : decode cX12_readGreen 25 = .ok (.getfield 40, 3) := by decide +kernel
theorem dX12_readGreen_28 : decode cX12_readGreen 28 = .ok (.iload_n 2, 1) := by decide +kernel
theorem dX12_readGreen_29 : decode cX12_readGreen 29 = .ok (.bipush 115, 2) := by decide +kernel
theorem dX12_readGreen_31 : decode cX12_readGreen 31 = .ok (.iload_n 2, 1) := by decide +kernel
theorem dX12_readGreen_32 : decode cX12_readGreen 32 = .ok (.invokestatic 233, 3) := by decide +kernel
theorem dX12_readGreen_35 : decode cX12_readGreen 35 = .ok (.iastore, 1) := by decide +kernel
theorem dX12_readGreen_36 : decode cX12_readGreen 36 = .ok (.iinc 2 1, 3) := by decide +kernel
theorem dX12_readGreen_39 : decode cX12_readGreen 39 = .ok (.goto (-20), 3) := by decide +kernel
theorem dX12_readGreen_42 : decode cX12_readGreen 42 = .ok (.iconst 1, 1) := by decide +kernel
theorem dX12_readGreen_43 : decode cX12_readGreen 43 = .ok (.istore_n 2, 1) := by decide +kernel
theorem dX12_readGreen_44 : decode cX12_readGreen 44 = .ok (.iload_n 2, 1) := by decide +kernel
theorem dX12_readGreen_45 : decode cX12_readGreen 45 = .ok (.ifCond .eq 152, 3) := by decide +kernel
theorem dX12_readGreen_48 : decode cX12_readGreen 48 = .ok (.aload_n 0, 1) := by decide +kernel
theorem dX12_readGreen_49 : decode cX12_readGreen 49 = .ok (.getfield 131, 3) := by decide +kernel
theorem dX12_readGreen_52 : decode cX12_readGreen 52 = .ok (.iconst (-1), 1) := by decide +kernel
theorem dX12_readGreen_53 : decode cX12_readGreen 53 = .ok (.if_icmp .ne 144, 3) := by decide +kernel
theorem dX12_readGreen_56 : decode cX12_readGreen 56 = .ok (.aload_n 0, 1) := by decide +kernel
theorem dX12_readGreen_57 : decode cX12_readGreen 57 = .ok (.invokevirtual 143, 3) := by decide +kernel
theorem dX12_readGreen_60 : decode cX12_readGreen 60 = .ok (.istore_n 3, 1) := by decide +kernel
theorem dX12_readGreen_61 : decode cX12_readGreen 61 = .ok (.iload_n 3, 1) := by decide +kernel
theorem dX12_readGreen_62 : decode cX12_readGreen 62 = .ok (.bipush 115, 2) := by decide +kernel
theorem dX12_readGreen_64 : decode cX12_readGreen 64 = .ok (.if_icmp .ne 32, 3) := by decide +kernel
theorem dX12_readGreen_67 : decode cX12_readGreen 67 = .ok (.iload_n 1, 1) := by decide +kernel
theorem dX12_readGreen_68 : decode cX12_readGreen 68 = .ok (.ifCond .ne 28, 3) := by decide +kernel
theorem dX12_readGreen_71 : decode cX12_readGreen 71 = .ok (.iconst 1, 1) := by decide +kernel
theorem dX12_readGreen_72 : decode cX12_readGreen 72 = .ok (.istore_n 1, 1) := by decide +kernel
theorem dX12_readGreen_73 : decode cX12_readGreen 73 = .ok (.aload_n 0, 1) := by decide +kernel
theorem dX12_readGreen_74 : decode cX12_readGreen 74 = .ok (.dup, 1) := by decide +kernel
theorem dX12_readGreen_75 : decode cX12_readGreen 75 = .ok (.getfield 124, 3) := by decide +kernel
theorem dX12_readGreen_78 : decode cX12_readGreen 78 = .ok (.iconst 1, 1) := by decide +kernel
theorem dX12_readGreen_79 : decode cX12_readGreen 79 = .ok (.iadd, 1) := by decide +kernel
theorem dX12_readGreen_80 : decode cX12_readGreen 80 = .ok (.putfield 124, 3) := by decide +kernel
theorem dX12_readGreen_83 : decode cX12_readGreen 83 = .ok (.aload_n 0, 1) := by decide +kernel
theorem dX12_readGreen_84 : decode cX12_readGreen 84 = .ok (.iload_n 3, 1) := by decide +kernel
theorem dX12_readGreen_85 : decode cX12_readGreen 85 = .ok (.aload_n 0, 1) := by decide +kernel
theorem dX12_readGreen_86 : decode cX12_readGreen 86 = .ok (.getfield 40, 3) := by decide +kernel
theorem dX12_readGreen_89 : decode cX12_readGreen 89 = .ok (.iconst 0, 1) := by decide +kernel
theorem dX12_readGreen_90 : decode cX12_readGreen 90 = .ok (.invokevirtual 253, 3) := by decide +kernel
theorem dX12_readGreen_93 : decode cX12_readGreen 93 = .ok (.goto 60, 3) := by decide +kernel
theorem dX12_readGreen_96 : decode cX12_readGreen 96 = .ok (.iload_n 3, 1) := by decide +kernel
theorem dX12_readGreen_97 : decode cX12_readGreen 97 = .ok (.bipush 100, 2) := by decide +kernel
theorem dX12_readGreen_99 : decode cX12_readGreen 99 = .ok (.if_icmp .ne 50, 3) := by decide +kernel
theorem dX12_readGreen_102 : decode cX12_readGreen 102 = .ok (.aload_n 0, 1) := by decide +kernel
theorem dX12_readGreen_103 : decode cX12_readGreen 103 = .ok (.getfield 250, 3) := by decide +kernel
theorem dX12_readGreen_106 : decode cX12_readGreen 106 = .ok (.bipush 7, 2) := by decide +kernel
theorem dX12_readGreen_108 : decode cX12_readGreen 108 = .ok (.if_icmp .ge 41, 3) := by decide +kernel
theorem dX12_readGreen_111 : decode cX12_readGreen 111 = .ok (.aload_n 0, 1) := by decide +kernel
theorem dX12_readGreen_112 : decode cX12_readGreen 112 = .ok (.dup, 1) := by decide +kernel
theorem dX12_readGreen_113 : decode cX12_readGreen 113 = .ok (.getfield 124, 3) := by decide +kernel
theorem dX12_readGreen_116 : decode cX12_readGreen 116 = .ok (.iconst 1, 1) := by decide +kernel
theorem dX12_readGreen_117 : decode cX12_readGreen 117 = .ok (.iadd, 1) := by decide +kernel
theorem dX12_readGreen_118 : decode cX12_readGreen 118 = .ok (.putfield 124, 3) := by decide +kernel
theorem dX12_readGreen_121 : decode cX12_readGreen 121 = .ok (.aload_n 0, 1) := by decide +kernel
theorem dX12_readGreen_122 : decode cX12_readGreen 122 = .ok (.iload_n 3, 1) := by decide +kernel
theorem dX12_readGreen_123 : decode cX12_readGreen 123 = .ok (.aload_n 0, 1) := by decide +kernel
theorem dX12_readGreen_124 : decode cX12_readGreen 124 = .ok (.getfield 43, 3) := by decide +kernel
theorem dX12_readGreen_127 : decode cX12_readGreen 127 = .ok (.iconst 3, 1) := by decide +kernel
theorem dX12_readGreen_128 : decode cX12_readGreen 128 = .ok (.aload_n 0, 1) := by decide +kernel
theorem dX12_readGreen_129 : decode cX12_readGreen 129 = .ok (.getfield 250, 3) := by decide +kernel
theorem dX12_readGreen_132 : decode cX12_readGreen 132 = .ok (.imul, 1) := by decide +kernel
theorem dX12_readGreen_133 : decode cX12_readGreen 133 = .ok (.invokevirtual 253, 3) := by decide +kernel
theorem dX12_readGreen_136 : decode cX12_readGreen 136 = .ok (.aload_n 0, 1) := by decide +kernel
theorem dX12_readGreen_137 : decode cX12_readGreen 137 = .ok (.dup, 1) := by decide +kernel
theorem dX12_readGreen_138 : decode cX12_readGreen 138 = .ok (.getfield 250, 3) := by decide +kernel
theorem dX12_readGreen_141 : decode cX12_readGreen 141 = .ok (.iconst 1, 1) := by decide +kernel
theorem dX12_readGreen_142 : decode cX12_readGreen 142 = .ok (.iadd, 1) := by decide +kernel
theorem dX12_readGreen_143 : decode cX12_readGreen 143 = .ok (.putfield 250, 3) := by decide +kernel
theorem dX12_readGreen_146 : decode cX12_readGreen 146 = .ok (.goto 7, 3) := by decide +kernel
theorem dX12_readGreen_149 : decode cX12_readGreen 149 = .ok (.aload_n 0, 1) := by decide +kernel
theorem dX12_readGreen_150 : decode cX12_readGreen 150 = .ok (.invokevirtual 140, 3) := by decide +kernel
theorem dX12_readGreen_153 : decode cX12_readGreen 153 = .ok (.aload_n 0, 1) := by decide +kernel
theorem dX12_readGreen_154 : decode cX12_readGreen 154 = .ok (.getfield 131, 3) := by decide +kernel
theorem dX12_readGreen_157 : decode cX12_readGreen 157 = .ok (.iconst (-1), 1) := by decide +kernel
theorem dX12_readGreen_158 : decode cX12_readGreen 158 = .ok (.if_icmp .ne 16, 3) := by decide +kernel
theorem dX12_readGreen_161 : decode cX12_readGreen 161 = .ok (.aload_n 0, 1) := by decide +kernel
theorem dX12_readGreen_162 : decode cX12_readGreen 162 = .ok (.invokevirtual 143, 3) := by decide +kernel
theorem dX12_readGreen_165 : decode cX12_readGreen 165 = .ok (.bipush 59, 2) := by decide +kernel
theorem dX12_readGreen_167 : decode cX12_readGreen 167 = .ok (.if_icmp .ne 7, 3) := by decide +kernel
theorem dX12_readGreen_170 : decode cX12_readGreen 170 = .ok (.iconst 1, 1) := by decide +kernel
theorem dX12_readGreen_171 : decode cX12_readGreen 171 = .ok (.goto 4, 3) := by decide +kernel
theorem dX12_readGreen_174 : decode cX12_readGreen 174 = .ok (.iconst 0, 1) := by decide +kernel
theorem dX12_readGreen_175 : decode cX12_readGreen 175 = .ok (.istore_n 2, 1) := by decide +kernel
theorem dX12_readGreen_176 : decode cX12_readGreen 176 = .ok (.aload_n 0, 1) := by decide +kernel
theorem dX12_readGreen_177 : decode cX12_readGreen 177 = .ok (.dup, 1) := by decide +kernel
theorem dX12_readGreen_178 : decode cX12_readGreen 178 = .ok (.getfield 124, 3) := by decide +kernel
theorem dX12_readGreen_181 : decode cX12_readGreen 181 = .ok (.iload_n 2, 1) := by decide +kernel
theorem dX12_readGreen_182 : decode cX12_readGreen 182 = .ok (.ifCond .eq 7, 3) := by decide +kernel
theorem dX12_readGreen_185 : decode cX12_readGreen 185 = .ok (.iconst 1, 1) := by decide +kernel
theorem dX12_readGreen_186 : decode cX12_readGreen 186 = .ok (.goto 4, 3) := by decide +kernel
theorem dX12_readGreen_189 : decode cX12_readGreen 189 = .ok (.iconst 0, 1) := by decide +kernel
theorem dX12_readGreen_190 : decode cX12_readGreen 190 = .ok (.iadd, 1) := by decide +kernel
theorem dX12_readGreen_191 : decode cX12_readGreen 191 = .ok (.putfield 124, 3) := by decide +kernel
theorem dX12_readGreen_194 : decode cX12_readGreen 194 = .ok (.goto (-150), 3) := by decide +kernel
theorem dX12_readGreen_197 : decode cX12_readGreen 197 = .ok (.aload_n 0, 1) := by decide +kernel
theorem dX12_readGreen_198 : decode cX12_readGreen 198 = .ok (.getfield 131, 3) := by decide +kernel
theorem dX12_readGreen_201 : decode cX12_readGreen 201 = .ok (.iconst (-1), 1) := by decide +kernel
theorem dX12_readGreen_202 : decode cX12_readGreen 202 = .ok (.if_icmp .ne 23, 3) := by decide +kernel
theorem dX12_readGreen_205 : decode cX12_readGreen 205 = .ok (.aload_n 0, 1) := by decide +kernel
theorem dX12_readGreen_206 : decode cX12_readGreen 206 = .ok (.invokevirtual 143, 3) := by decide +kernel
theorem dX12_readGreen_209 : decode cX12_readGreen 209 = .ok (.iconst (-1), 1) := by decide +kernel
theorem dX12_readGreen_210 : decode cX12_readGreen 210 = .ok (.if_icmp .ne 11, 3) := by decide +kernel
theorem dX12_readGreen_213 : decode cX12_readGreen 213 = .ok (.aload_n 0, 1) := by decide +kernel
theorem dX12_readGreen_214 : decode cX12_readGreen 214 = .ok (.getfield 250, 3) := by decide +kernel
theorem dX12_readGreen_217 : decode cX12_readGreen 217 = .ok (.iconst 3, 1) := by decide +kernel
theorem dX12_readGreen_218 : decode cX12_readGreen 218 = .ok (.if_icmp .ge 7, 3) := by decide +kernel
theorem dX12_readGreen_221 : decode cX12_readGreen 221 = .ok (.aload_n 0, 1) := by decide +kernel
theorem dX12_readGreen_222 : decode cX12_readGreen 222 = .ok (.invokevirtual 140, 3) := by decide +kernel
theorem dX12_readGreen_225 : decode cX12_readGreen 225 = .ok (.aload_n 0, 1) := by decide +kernel
theorem dX12_readGreen_226 : decode cX12_readGreen 226 = .ok (.getfield 131, 3) := by decide +kernel
theorem dX12_readGreen_229 : decode cX12_readGreen 229 = .ok (.ireturn, 1) := by decide +kernel
theorem dX12_putStep_0 : decode cX12_putStep 0 = .ok (.aload_n 0, 1) := by decide +kernel
theorem dX12_putStep_1 : decode cX12_putStep 1 = .ok (.getfield 257, 3) := by decide +kernel
theorem dX12_putStep_4 : decode cX12_putStep 4 = .ok (.bipush 48, 2) := by decide +kernel
theorem dX12_putStep_6 : decode cX12_putStep 6 = .ok (.if_icmp .ge 18, 3) := by decide +kernel
theorem dX12_putStep_9 : decode cX12_putStep 9 = .ok (.aload_n 0, 1) := by decide +kernel
theorem dX12_putStep_10 : decode cX12_putStep 10 = .ok (.getfield 52, 3) := by decide +kernel
theorem dX12_putStep_13 : decode cX12_putStep 13 = .ok (.bipush 48, 2) := by decide +kernel
theorem dX12_putStep_15 : decode cX12_putStep 15 = .ok (.iload_n 1, 1) := by decide +kernel
theorem dX12_putStep_16 : decode cX12_putStep 16 = .ok (.imul, 1) := by decide +kernel
theorem dX12_putStep_17 : decode cX12_putStep 17 = .ok (.aload_n 0, 1) := by decide +kernel
theorem dX12_putStep_18 : decode cX12_putStep 18 = .ok (.getfield 257, 3) := by decide +kernel
theorem dX12_putStep_21 : decode cX12_putStep 21 = .ok (.iadd, 1) := by decide +kernel
theorem dX12_putStep_22 : decode cX12_putStep 22 = .ok (.iload_n 2, 1) := by decide +kernel
theorem dX12_putStep_23 : decode cX12_putStep 23 = .ok (.iastore, 1) := by decide +kernel
theorem dX12_putStep_24 : decode cX12_putStep 24 = .ok (.aload_n 0, 1) := by decide +kernel
theorem dX12_putStep_25 : decode cX12_putStep 25 = .ok (.bipush 49, 2) := by decide +kernel
theorem dX12_putStep_27 : decode cX12_putStep 27 = .ok (.aload_n 0, 1) := by decide +kernel
theorem dX12_putStep_28 : decode cX12_putStep 28 = .ok (.getfield 257, 3) := by decide +kernel
theorem dX12_putStep_31 : decode cX12_putStep 31 = .ok (.iconst 1, 1) := by decide +kernel
theorem dX12_putStep_32 : decode cX12_putStep 32 = .ok (.iadd, 1) := by decide +kernel
theorem dX12_putStep_33 : decode cX12_putStep 33 = .ok (.invokestatic 260, 3) := by decide +kernel
theorem dX12_putStep_36 : decode cX12_putStep 36 = .ok (.putfield 257, 3) := by decide +kernel
theorem dX12_putStep_39 : decode cX12_putStep 39 = .ok (.return_, 1) := by decide +kernel
theorem dX12_readCross_0 : decode cX12_readCross 0 = .ok (.aload_n 0, 1) := by decide +kernel
theorem dX12_readCross_1 : decode cX12_readCross 1 = .ok (.invokevirtual 127, 3) := by decide +kernel
theorem dX12_readCross_4 : decode cX12_readCross 4 = .ok (.bipush 117, 2) := by decide +kernel
theorem dX12_readCross_6 : decode cX12_readCross 6 = .ok (.if_icmp .ne 7, 3) := by decide +kernel
theorem dX12_readCross_9 : decode cX12_readCross 9 = .ok (.iconst 1, 1) := by decide +kernel
theorem dX12_readCross_10 : decode cX12_readCross 10 = .ok (.goto 4, 3) := by decide +kernel
theorem dX12_readCross_13 : decode cX12_readCross 13 = .ok (.iconst 0, 1) := by decide +kernel
theorem dX12_readCross_14 : decode cX12_readCross 14 = .ok (.istore_n 2, 1) := by decide +kernel
theorem dX12_readCross_15 : decode cX12_readCross 15 = .ok (.aload_n 0, 1) := by decide +kernel
theorem dX12_readCross_16 : decode cX12_readCross 16 = .ok (.dup, 1) := by decide +kernel
theorem dX12_readCross_17 : decode cX12_readCross 17 = .ok (.getfield 124, 3) := by decide +kernel
theorem dX12_readCross_20 : decode cX12_readCross 20 = .ok (.iconst 1, 1) := by decide +kernel
theorem dX12_readCross_21 : decode cX12_readCross 21 = .ok (.iadd, 1) := by decide +kernel
theorem dX12_readCross_22 : decode cX12_readCross 22 = .ok (.putfield 124, 3) := by decide +kernel
theorem dX12_readCross_25 : decode cX12_readCross 25 = .ok (.aload_n 0, 1) := by decide +kernel
theorem dX12_readCross_26 : decode cX12_readCross 26 = .ok (.invokevirtual 143, 3) := by decide +kernel
theorem dX12_readCross_29 : decode cX12_readCross 29 = .ok (.invokestatic 146, 3) := by decide +kernel
theorem dX12_readCross_32 : decode cX12_readCross 32 = .ok (.ifCond .eq 32, 3) := by decide +kernel
theorem dX12_readCross_35 : decode cX12_readCross 35 = .ok (.aload_n 0, 1) := by decide +kernel
theorem dX12_readCross_36 : decode cX12_readCross 36 = .ok (.iload_n 1, 1) := by decide +kernel
theorem dX12_readCross_37 : decode cX12_readCross 37 = .ok (.iconst 2, 1) := by decide +kernel
theorem dX12_readCross_38 : decode cX12_readCross 38 = .ok (.aload_n 0, 1) := by decide +kernel
