theorem dX12_count_16 : decode cX12_count 16 = .ok (.if_icmp .ge 26, 3) := by decide +kernel
theorem dX12_count_19 : decode cX12_count 19 = .ok (.iload_n 2, 1) := by decide +kernel
theorem dX12_count_20 : decode cX12_count 20 = .ok (.aload_n 0, 1) := by decide +kernel
theorem dX12_count_21 : decode cX12_count 21 = .ok (.getfield 22, 3) := by decide +kernel
theorem dX12_count_24 : decode cX12_count 24 = .ok (.iload_n 3, 1) := by decide +kernel
theorem dX12_count_25 : decode cX12_count 25 = .ok (.baload, 1) := by decide +kernel
theorem dX12_count_26 : decode cX12_count 26 = .ok (.ifCond .eq 7, 3) := by decide +kernel
theorem dX12_count_29 : decode cX12_count 29 = .ok (.iconst 1, 1) := by decide +kernel
theorem dX12_count_30 : decode cX12_count 30 = .ok (.goto 4, 3) := by decide +kernel
theorem dX12_count_33 : decode cX12_count 33 = .ok (.iconst 0, 1) := by decide +kernel
theorem dX12_count_34 : decode cX12_count 34 = .ok (.iadd, 1) := by decide +kernel
theorem dX12_count_35 : decode cX12_count 35 = .ok (.istore_n 2, 1) := by decide +kernel
theorem dX12_count_36 : decode cX12_count 36 = .ok (.iinc 3 1, 3) := by decide +kernel
theorem dX12_count_39 : decode cX12_count 39 = .ok (.goto (-30), 3) := by decide +kernel
theorem dX12_count_42 : decode cX12_count 42 = .ok (.iload_n 1, 1) := by decide +kernel
theorem dX12_count_43 : decode cX12_count 43 = .ok (.tableswitch 211 0 17 #[85, 90, 95, 100, 105, 110, 115, 120, 125, 137, 142, 179, 184, 189, 194, 196, 201, 206], 85) := by decide +kernel
theorem dX12_count_128 : decode cX12_count 128 = .ok (.aload_n 0, 1) := by decide +kernel
theorem dX12_count_129 : decode cX12_count 129 = .ok (.getfield 307, 3) := by decide +kernel
theorem dX12_count_132 : decode cX12_count 132 = .ok (.ireturn, 1) := by decide +kernel
theorem dX12_count_133 : decode cX12_count 133 = .ok (.aload_n 0, 1) := by decide +kernel
theorem dX12_count_134 : decode cX12_count 134 = .ok (.getfield 59, 3) := by decide +kernel
theorem dX12_count_137 : decode cX12_count 137 = .ok (.ireturn, 1) := by decide +kernel
theorem dX12_count_138 : decode cX12_count 138 = .ok (.aload_n 0, 1) := by decide +kernel
theorem dX12_count_139 : decode cX12_count 139 = .ok (.getfield 304, 3) := by decide +kernel
theorem dX12_count_142 : decode cX12_count 142 = .ok (.ireturn, 1) := by decide +kernel
theorem dX12_count_143 : decode cX12_count 143 = .ok (.aload_n 0, 1) := by decide +kernel
theorem dX12_count_144 : decode cX12_count 144 = .ok (.getfield 222, 3) := by decide +kernel
theorem dX12_count_147 : decode cX12_count 147 = .ok (.ireturn, 1) := by decide +kernel
theorem dX12_count_148 : decode cX12_count 148 = .ok (.aload_n 0, 1) := by decide +kernel
theorem dX12_count_149 : decode cX12_count 149 = .ok (.getfield 225, 3) := by decide +kernel
theorem dX12_count_152 : decode cX12_count 152 = .ok (.ireturn, 1) := by decide +kernel
theorem dX12_count_153 : decode cX12_count 153 = .ok (.aload_n 0, 1) := by decide +kernel
theorem dX12_count_154 : decode cX12_count 154 = .ok (.getfield 289, 3) := by decide +kernel
theorem dX12_count_157 : decode cX12_count 157 = .ok (.ireturn, 1) := by decide +kernel
theorem dX12_count_158 : decode cX12_count 158 = .ok (.aload_n 0, 1) := by decide +kernel
theorem dX12_count_159 : decode cX12_count 159 = .ok (.getfield 421, 3) := by decide +kernel
theorem dX12_count_162 : decode cX12_count 162 = .ok (.ireturn, 1) := by decide +kernel
theorem dX12_count_163 : decode cX12_count 163 = .ok (.aload_n 0, 1) := by decide +kernel
theorem dX12_count_164 : decode cX12_count 164 = .ok (.invokevirtual 317, 3) := by decide +kernel
theorem dX12_count_167 : decode cX12_count 167 = .ok (.ireturn, 1) := by decide +kernel
theorem dX12_count_168 : decode cX12_count 168 = .ok (.aload_n 0, 1) := by decide +kernel
theorem dX12_count_169 : decode cX12_count 169 = .ok (.getfield 59, 3) := by decide +kernel
theorem dX12_count_172 : decode cX12_count 172 = .ok (.aload_n 0, 1) := by decide +kernel
theorem dX12_count_173 : decode cX12_count 173 = .ok (.invokevirtual 317, 3) := by decide +kernel
theorem dX12_count_176 : decode cX12_count 176 = .ok (.invokestatic 295, 3) := by decide +kernel
theorem dX12_count_179 : decode cX12_count 179 = .ok (.ireturn, 1) := by decide +kernel
theorem dX12_count_180 : decode cX12_count 180 = .ok (.aload_n 0, 1) := by decide +kernel
theorem dX12_count_181 : decode cX12_count 181 = .ok (.getfield 324, 3) := by decide +kernel
theorem dX12_count_184 : decode cX12_count 184 = .ok (.ireturn, 1) := by decide +kernel
theorem dX12_count_185 : decode cX12_count 185 = .ok (.aload_n 0, 1) := by decide +kernel
theorem dX12_count_186 : decode cX12_count 186 = .ok (.getfield 63, 3) := by decide +kernel
theorem dX12_count_189 : decode cX12_count 189 = .ok (.iconst (-1), 1) := by decide +kernel
theorem dX12_count_190 : decode cX12_count 190 = .ok (.if_icmp .eq 30, 3) := by decide +kernel
theorem dX12_count_193 : decode cX12_count 193 = .ok (.aload_n 0, 1) := by decide +kernel
theorem dX12_count_194 : decode cX12_count 194 = .ok (.aload_n 0, 1) := by decide +kernel
theorem dX12_count_195 : decode cX12_count 195 = .ok (.getfield 63, 3) := by decide +kernel
theorem dX12_count_198 : decode cX12_count 198 = .ok (.aload_n 0, 1) := by decide +kernel
theorem dX12_count_199 : decode cX12_count 199 = .ok (.getfield 59, 3) := by decide +kernel
theorem dX12_count_202 : decode cX12_count 202 = .ok (.aload_n 0, 1) := by decide +kernel
theorem dX12_count_203 : decode cX12_count 203 = .ok (.getfield 304, 3) := by decide +kernel
theorem dX12_count_206 : decode cX12_count 206 = .ok (.aload_n 0, 1) := by decide +kernel
theorem dX12_count_207 : decode cX12_count 207 = .ok (.getfield 307, 3) := by decide +kernel
theorem dX12_count_210 : decode cX12_count 210 = .ok (.invokevirtual 310, 3) := by decide +kernel
theorem dX12_count_213 : decode cX12_count 213 = .ok (.ifCond .eq 7, 3) := by decide +kernel
theorem dX12_count_216 : decode cX12_count 216 = .ok (.iconst 1, 1) := by decide +kernel
theorem dX12_count_217 : decode cX12_count 217 = .ok (.goto 4, 3) := by decide +kernel
theorem dX12_count_220 : decode cX12_count 220 = .ok (.iconst 0, 1) := by decide +kernel
theorem dX12_count_221 : decode cX12_count 221 = .ok (.ireturn, 1) := by decide +kernel
theorem dX12_count_222 : decode cX12_count 222 = .ok (.aload_n 0, 1) := by decide +kernel
theorem dX12_count_223 : decode cX12_count 223 = .ok (.getfield 433, 3) := by decide +kernel
theorem dX12_count_226 : decode cX12_count 226 = .ok (.ireturn, 1) := by decide +kernel
theorem dX12_count_227 : decode cX12_count 227 = .ok (.aload_n 0, 1) := by decide +kernel
theorem dX12_count_228 : decode cX12_count 228 = .ok (.getfield 437, 3) := by decide +kernel
theorem dX12_count_231 : decode cX12_count 231 = .ok (.ireturn, 1) := by decide +kernel
theorem dX12_count_232 : decode cX12_count 232 = .ok (.aload_n 0, 1) := by decide +kernel
theorem dX12_count_233 : decode cX12_count 233 = .ok (.getfield 427, 3) := by decide +kernel
theorem dX12_count_236 : decode cX12_count 236 = .ok (.ireturn, 1) := by decide +kernel
theorem dX12_count_237 : decode cX12_count 237 = .ok (.iload_n 2, 1) := by decide +kernel
theorem dX12_count_238 : decode cX12_count 238 = .ok (.ireturn, 1) := by decide +kernel
theorem dX12_count_239 : decode cX12_count 239 = .ok (.aload_n 0, 1) := by decide +kernel
theorem dX12_count_240 : decode cX12_count 240 = .ok (.getfield 449, 3) := by decide +kernel
theorem dX12_count_243 : decode cX12_count 243 = .ok (.ireturn, 1) := by decide +kernel
theorem dX12_count_244 : decode cX12_count 244 = .ok (.aload_n 0, 1) := by decide +kernel
theorem dX12_count_245 : decode cX12_count 245 = .ok (.getfield 452, 3) := by decide +kernel
theorem dX12_count_248 : decode cX12_count 248 = .ok (.ireturn, 1) := by decide +kernel
theorem dX12_count_249 : decode cX12_count 249 = .ok (.aload_n 0, 1) := by decide +kernel
theorem dX12_count_250 : decode cX12_count 250 = .ok (.getfield 489, 3) := by decide +kernel
theorem dX12_count_253 : decode cX12_count 253 = .ok (.ireturn, 1) := by decide +kernel
theorem dX12_count_254 : decode cX12_count 254 = .ok (.iconst (-1), 1) := by decide +kernel
theorem dX12_count_255 : decode cX12_count 255 = .ok (.ireturn, 1) := by decide +kernel
theorem dJ6_numberOfTrailingZeros_0f7a4_0 : decode cJ6_numberOfTrailingZeros_0f7a4 0 = .ok (.iload_n 0, 1) := by decide +kernel
theorem dJ6_numberOfTrailingZeros_0f7a4_1 : decode cJ6_numberOfTrailingZeros_0f7a4 1 = .ok (.iconst (-1), 1) := by decide +kernel
theorem dJ6_numberOfTrailingZeros_0f7a4_2 : decode cJ6_numberOfTrailingZeros_0f7a4 2 = .ok (.ixor, 1) := by decide +kernel
theorem dJ6_numberOfTrailingZeros_0f7a4_3 : decode cJ6_numberOfTrailingZeros_0f7a4 3 = .ok (.iload_n 0, 1) := by decide +kernel
theorem dJ6_numberOfTrailingZeros_0f7a4_4 : decode cJ6_numberOfTrailingZeros_0f7a4 4 = .ok (.iconst 1, 1) := by decide +kernel
theorem dJ6_numberOfTrailingZeros_0f7a4_5 : decode cJ6_numberOfTrailingZeros_0f7a4 5 = .ok (.isub, 1) := by decide +kernel
theorem dJ6_numberOfTrailingZeros_0f7a4_6 : decode cJ6_numberOfTrailingZeros_0f7a4 6 = .ok (.iand, 1) := by decide +kernel
theorem dJ6_numberOfTrailingZeros_0f7a4_7 : decode cJ6_numberOfTrailingZeros_0f7a4 7 = .ok (.istore_n 0, 1) := by decide +kernel
theorem dJ6_numberOfTrailingZeros_0f7a4_8 : decode cJ6_numberOfTrailingZeros_0f7a4 8 = .ok (.iload_n 0, 1) := by decide +kernel
theorem dJ6_numberOfTrailingZeros_0f7a4_9 : decode cJ6_numberOfTrailingZeros_0f7a4 9 = .ok (.ifCond .gt 8, 3) := by decide +kernel
theorem dJ6_numberOfTrailingZeros_0f7a4_12 : decode cJ6_numberOfTrailingZeros_0f7a4 12 = .ok (.iload_n 0, 1) := by decide +kernel
theorem dJ6_numberOfTrailingZeros_0f7a4_13 : decode cJ6_numberOfTrailingZeros_0f7a4 13 = .ok (.bipush 32, 2) := by decide +kernel
theorem dJ6_numberOfTrailingZeros_0f7a4_15 : decode cJ6_numberOfTrailingZeros_0f7a4 15 = .ok (.iand, 1) := by decide +kernel
theorem dJ6_numberOfTrailingZeros_0f7a4_16 : decode cJ6_numberOfTrailingZeros_0f7a4 16 = .ok (.ireturn, 1) := by decide +kernel
theorem dJ6_numberOfTrailingZeros_0f7a4_17 : decode cJ6_numberOfTrailingZeros_0f7a4 17 = .ok (.iconst 1, 1) := by decide +kernel
theorem dJ6_numberOfTrailingZeros_0f7a4_18 : decode cJ6_numberOfTrailingZeros_0f7a4 18 = .ok (.istore_n 1, 1) := by decide +kernel
theorem dJ6_numberOfTrailingZeros_0f7a4_19 : decode cJ6_numberOfTrailingZeros_0f7a4 19 = .ok (.iload_n 0, 1) := by decide +kernel
theorem dJ6_numberOfTrailingZeros_0f7a4_20 : decode cJ6_numberOfTrailingZeros_0f7a4 20 = .ok (.ldc_w 264, 3) := by decide +kernel
theorem dJ6_numberOfTrailingZeros_0f7a4_23 : decode cJ6_numberOfTrailingZeros_0f7a4 23 = .ok (.if_icmp .le 11, 3) := by decide +kernel
theorem dJ6_numberOfTrailingZeros_0f7a4_26 : decode cJ6_numberOfTrailingZeros_0f7a4 26 = .ok (.iinc 1 16, 3) := by decide +kernel
theorem dJ6_numberOfTrailingZeros_0f7a4_29 : decode cJ6_numberOfTrailingZeros_0f7a4 29 = .ok (.iload_n 0, 1) := by decide +kernel
theorem dJ6_numberOfTrailingZeros_0f7a4_30 : decode cJ6_numberOfTrailingZeros_0f7a4 30 = .ok (.bipush 16, 2) := by decide +kernel
theorem dJ6_numberOfTrailingZeros_0f7a4_32 : decode cJ6_numberOfTrailingZeros_0f7a4 32 = .ok (.iushr, 1) := by decide +kernel
theorem dJ6_numberOfTrailingZeros_0f7a4_33 : decode cJ6_numberOfTrailingZeros_0f7a4 33 = .ok (.istore_n 0, 1) := by decide +kernel
theorem dJ6_numberOfTrailingZeros_0f7a4_34 : decode cJ6_numberOfTrailingZeros_0f7a4 34 = .ok (.iload_n 0, 1) := by decide +kernel
theorem dJ6_numberOfTrailingZeros_0f7a4_35 : decode cJ6_numberOfTrailingZeros_0f7a4 35 = .ok (.sipush 256, 3) := by decide +kernel
theorem dJ6_numberOfTrailingZeros_0f7a4_38 : decode cJ6_numberOfTrailingZeros_0f7a4 38 = .ok (.if_icmp .le 11, 3) := by decide +kernel
theorem dJ6_numberOfTrailingZeros_0f7a4_41 : decode cJ6_numberOfTrailingZeros_0f7a4 41 = .ok (.iinc 1 8, 3) := by decide +kernel
theorem dJ6_numberOfTrailingZeros_0f7a4_44 : decode cJ6_numberOfTrailingZeros_0f7a4 44 = .ok (.iload_n 0, 1) := by decide +kernel
theorem dJ6_numberOfTrailingZeros_0f7a4_45 : decode cJ6_numberOfTrailingZeros_0f7a4 45 = .ok (.bipush 8, 2) := by decide +kernel
theorem dJ6_numberOfTrailingZeros_0f7a4_47 : decode cJ6_numberOfTrailingZeros_0f7a4 47 = .ok (.iushr, 1) := by decide +kernel
theorem dJ6_numberOfTrailingZeros_0f7a4_48 : decode cJ6_numberOfTrailingZeros_0f7a4 48 = .ok (.istore_n 0, 1) := by decide +kernel
theorem dJ6_numberOfTrailingZeros_0f7a4_49 : decode cJ6_numberOfTrailingZeros_0f7a4 49 = .ok (.iload_n 0, 1) := by decide +kernel
theorem dJ6_numberOfTrailingZeros_0f7a4_50 : decode cJ6_numberOfTrailingZeros_0f7a4 50 = .ok (.bipush 16, 2) := by decide +kernel
theorem dJ6_numberOfTrailingZeros_0f7a4_52 : decode cJ6_numberOfTrailingZeros_0f7a4 52 = .ok (.if_icmp .le 10, 3) := by decide +kernel
theorem dJ6_numberOfTrailingZeros_0f7a4_55 : decode cJ6_numberOfTrailingZeros_0f7a4 55 = .ok (.iinc 1 4, 3) := by decide +kernel
theorem dJ6_numberOfTrailingZeros_0f7a4_58 : decode cJ6_numberOfTrailingZeros_0f7a4 58 = .ok (.iload_n 0, 1) := by decide +kernel
theorem dJ6_numberOfTrailingZeros_0f7a4_59 : decode cJ6_numberOfTrailingZeros_0f7a4 59 = .ok (.iconst 4, 1) := by decide +kernel
theorem dJ6_numberOfTrailingZeros_0f7a4_60 : decode cJ6_numberOfTrailingZeros_0f7a4 60 = .ok (.iushr, 1) := by decide +kernel
theorem dJ6_numberOfTrailingZeros_0f7a4_61 : decode cJ6_numberOfTrailingZeros_0f7a4 61 = .ok (.istore_n 0, 1) := by decide +kernel
theorem dJ6_numberOfTrailingZeros_0f7a4_62 : decode cJ6_numberOfTrailingZeros_0f7a4 62 = .ok (.iload_n 0, 1) := by decide +kernel
theorem dJ6_numberOfTrailingZeros_0f7a4_63 : decode cJ6_numberOfTrailingZeros_0f7a4 63 = .ok (.iconst 4, 1) := by decide +kernel
theorem dJ6_numberOfTrailingZeros_0f7a4_64 : decode cJ6_numberOfTrailingZeros_0f7a4 64 = .ok (.if_icmp .le 10, 3) := by decide +kernel
theorem dJ6_numberOfTrailingZeros_0f7a4_67 : decode cJ6_numberOfTrailingZeros_0f7a4 67 = .ok (.iinc 1 2, 3) := by decide +kernel
theorem dJ6_numberOfTrailingZeros_0f7a4_70 : decode cJ6_numberOfTrailingZeros_0f7a4 70 = .ok (.iload_n 0, 1) := by decide +kernel
theorem dJ6_numberOfTrailingZeros_0f7a4_71 : decode cJ6_numberOfTrailingZeros_0f7a4 71 = .ok (.iconst 2, 1) := by decide +kernel
theorem dJ6_numberOfTrailingZeros_0f7a4_72 : decode cJ6_numberOfTrailingZeros_0f7a4 72 = .ok (.iushr, 1) := by decide +kernel
theorem dJ6_numberOfTrailingZeros_0f7a4_73 : decode cJ6_numberOfTrailingZeros_0f7a4 73 = .ok (.istore_n 0, 1) := by decide +kernel
theorem dJ6_numberOfTrailingZeros_0f7a4_74 : decode cJ6_numberOfTrailingZeros_0f7a4 74 = .ok (.iload_n 1, 1) := by decide +kernel
theorem dJ6_numberOfTrailingZeros_0f7a4_75 : decode cJ6_numberOfTrailingZeros_0f7a4 75 = .ok (.iload_n 0, 1) := by decide +kernel
theorem dJ6_numberOfTrailingZeros_0f7a4_76 : decode cJ6_numberOfTrailingZeros_0f7a4 76 = .ok (.iconst 1, 1) := by decide +kernel
theorem dJ6_numberOfTrailingZeros_0f7a4_77 : decode cJ6_numberOfTrailingZeros_0f7a4 77 = .ok (.iushr, 1) := by decide +kernel
theorem dJ6_numberOfTrailingZeros_0f7a4_78 : decode cJ6_numberOfTrailingZeros_0f7a4 78 = .ok (.iadd, 1) := by decide +kernel
theorem dJ6_numberOfTrailingZeros_0f7a4_79 : decode cJ6_numberOfTrailingZeros_0f7a4 79 = .ok (.ireturn, 1) := by decide +kernel
theorem dJ6_bitCount_0f7a4_0 : decode cJ6_bitCount_0f7a4 0 = .ok (.iload_n 0, 1) := by decide +kernel
theorem dJ6_bitCount_0f7a4_1 : decode cJ6_bitCount_0f7a4 1 = .ok (.iload_n 0, 1) := by decide +kernel
theorem dJ6_bitCount_0f7a4_2 : decode cJ6_bitCount_0f7a4 2 = .ok (.iconst 1, 1) := by decide +kernel
theorem dJ6_bitCount_0f7a4_3 : decode cJ6_bitCount_0f7a4 3 = .ok (.iushr, 1) := by decide +kernel
theorem dJ6_bitCount_0f7a4_4 : decode cJ6_bitCount_0f7a4 4 = .ok (.ldc_w 265, 3) := by decide +kernel
theorem dJ6_bitCount_0f7a4_7 : decode cJ6_bitCount_0f7a4 7 = .ok (.iand, 1) := by decide +kernel
theorem dJ6_bitCount_0f7a4_8 : decode cJ6_bitCount_0f7a4 8 = .ok (.isub, 1) := by decide +kernel
theorem dJ6_bitCount_0f7a4_9 : decode cJ6_bitCount_0f7a4 9 = .ok (.istore_n 0, 1) := by decide +kernel
theorem dJ6_bitCount_0f7a4_10 : decode cJ6_bitCount_0f7a4 10 = .ok (.iload_n 0, 1) := by decide +kernel
theorem dJ6_bitCount_0f7a4_11 : decode cJ6_bitCount_0f7a4 11 = .ok (.ldc_w 266, 3) := by decide +kernel
theorem dJ6_bitCount_0f7a4_14 : decode cJ6_bitCount_0f7a4 14 = .ok (.iand, 1) := by decide +kernel
theorem dJ6_bitCount_0f7a4_15 : decode cJ6_bitCount_0f7a4 15 = .ok (.iload_n 0, 1) := by decide +kernel
theorem dJ6_bitCount_0f7a4_16 : decode cJ6_bitCount_0f7a4 16 = .ok (.iconst 2, 1) := by decide +kernel
theorem dJ6_bitCount_0f7a4_17 : decode cJ6_bitCount_0f7a4 17 = .ok (.iushr, 1) := by decide +kernel
theorem dJ6_bitCount_0f7a4_18 : decode cJ6_bitCount_0f7a4 18 = .ok (.ldc_w 266, 3) := by decide +kernel
theorem dJ6_bitCount_0f7a4_21 : decode cJ6_bitCount_0f7a4 21 = .ok (.iand, 1) := by decide +kernel
theorem dJ6_bitCount_0f7a4_22 : decode cJ6_bitCount_0f7a4 22 = .ok (.iadd, 1) := by decide +kernel
theorem dJ6_bitCount_0f7a4_23 : decode cJ6_bitCount_0f7a4 23 = .ok (.istore_n 0, 1) := by decide +kernel
theorem dJ6_bitCount_0f7a4_24 : decode cJ6_bitCount_0f7a4 24 = .ok (.iload_n 0, 1) := by decide +kernel
theorem dJ6_bitCount_0f7a4_25 : decode cJ6_bitCount_0f7a4 25 = .ok (.iload_n 0, 1) := by decide +kernel
theorem dJ6_bitCount_0f7a4_26 : decode cJ6_bitCount_0f7a4 26 = .ok (.iconst 4, 1) := by decide +kernel
theorem dJ6_bitCount_0f7a4_27 : decode cJ6_bitCount_0f7a4 27 = .ok (.iushr, 1) := by decide +kernel
theorem dJ6_bitCount_0f7a4_28 : decode cJ6_bitCount_0f7a4 28 = .ok (.iadd, 1) := by decide +kernel
theorem dJ6_bitCount_0f7a4_29 : decode cJ6_bitCount_0f7a4 29 = .ok (.ldc_w 267, 3) := by decide +kernel
theorem dJ6_bitCount_0f7a4_32 : decode cJ6_bitCount_0f7a4 32 = .ok (.iand, 1) := by decide +kernel
theorem dJ6_bitCount_0f7a4_33 : decode cJ6_bitCount_0f7a4 33 = .ok (.istore_n 0, 1) := by decide +kernel
theorem dJ6_bitCount_0f7a4_34 : decode cJ6_bitCount_0f7a4 34 = .ok (.iload_n 0, 1) := by decide +kernel
theorem dJ6_bitCount_0f7a4_35 : decode cJ6_bitCount_0f7a4 35 = .ok (.iload_n 0, 1) := by decide +kernel
theorem dJ6_bitCount_0f7a4_36 : decode cJ6_bitCount_0f7a4 36 = .ok (.bipush 8, 2) := by decide +kernel
theorem dJ6_bitCount_0f7a4_38 : decode cJ6_bitCount_0f7a4 38 = .ok (.iushr, 1) := by decide +kernel
theorem dJ6_bitCount_0f7a4_39 : decode cJ6_bitCount_0f7a4 39 = .ok (.iadd, 1) := by decide +kernel
theorem dJ6_bitCount_0f7a4_40 : decode cJ6_bitCount_0f7a4 40 = .ok (.istore_n 0, 1) := by decide +kernel
theorem dJ6_bitCount_0f7a4_41 : decode cJ6_bitCount_0f7a4 41 = .ok (.iload_n 0, 1) := by decide +kernel
theorem dJ6_bitCount_0f7a4_42 : decode cJ6_bitCount_0f7a4 42 = .ok (.iload_n 0, 1) := by decide +kernel
theorem dJ6_bitCount_0f7a4_43 : decode cJ6_bitCount_0f7a4 43 = .ok (.bipush 16, 2) := by decide +kernel
theorem dJ6_bitCount_0f7a4_45 : decode cJ6_bitCount_0f7a4 45 = .ok (.iushr, 1) := by decide +kernel
theorem dJ6_bitCount_0f7a4_46 : decode cJ6_bitCount_0f7a4 46 = .ok (.iadd, 1) := by decide +kernel
theorem dJ6_bitCount_0f7a4_47 : decode cJ6_bitCount_0f7a4 47 = .ok (.istore_n 0, 1) := by decide +kernel
theorem dJ6_bitCount_0f7a4_48 : decode cJ6_bitCount_0f7a4 48 = .ok (.iload_n 0, 1) := by decide +kernel
theorem dJ6_bitCount_0f7a4_49 : decode cJ6_bitCount_0f7a4 49 = .ok (.bipush 63, 2) := by decide +kernel
theorem dJ6_bitCount_0f7a4_51 : decode cJ6_bitCount_0f7a4 51 = .ok (.iand, 1) := by decide +kernel
theorem dJ6_bitCount_0f7a4_52 : decode cJ6_bitCount_0f7a4 52 = .ok (.ireturn, 1) := by decide +kernel
theorem dJ9_floorMod_7cf53_0 : decode cJ9_floorMod_7cf53 0 = .ok (.iload_n 0, 1) := by decide +kernel
theorem dJ9_floorMod_7cf53_1 : decode cJ9_floorMod_7cf53 1 = .ok (.iload_n 1, 1) := by decide +kernel
theorem dJ9_floorMod_7cf53_2 : decode cJ9_floorMod_7cf53 2 = .ok (.irem, 1) := by decide +kernel
theorem dJ9_floorMod_7cf53_3 : decode cJ9_floorMod_7cf53 3 = .ok (.istore_n 2, 1) := by decide +kernel
theorem dJ9_floorMod_7cf53_4 : decode cJ9_floorMod_7cf53 4 = .ok (.iload_n 0, 1) := by decide +kernel
theorem dJ9_floorMod_7cf53_5 : decode cJ9_floorMod_7cf53 5 = .ok (.iload_n 1, 1) := by decide +kernel
theorem dJ9_floorMod_7cf53_6 : decode cJ9_floorMod_7cf53 6 = .ok (.ixor, 1) := by decide +kernel
theorem dJ9_floorMod_7cf53_7 : decode cJ9_floorMod_7cf53 7 = .ok (.ifCond .ge 11, 3) := by decide +kernel
theorem dJ9_floorMod_7cf53_10 : decode cJ9_floorMod_7cf53 10 = .ok (.iload_n 2, 1) := by decide +kernel
theorem dJ9_floorMod_7cf53_11 : decode cJ9_floorMod_7cf53 11 = .ok (.ifCond .eq 7, 3) := by decide +kernel
theorem dJ9_floorMod_7cf53_14 : decode cJ9_floorMod_7cf53 14 = .ok (.iload_n 2, 1) := by decide +kernel
theorem dJ9_floorMod_7cf53_15 : decode cJ9_floorMod_7cf53 15 = .ok (.iload_n 1, 1) := by decide +kernel
theorem dJ9_floorMod_7cf53_16 : decode cJ9_floorMod_7cf53 16 = .ok (.iadd, 1) := by decide +kernel
theorem dJ9_floorMod_7cf53_17 : decode cJ9_floorMod_7cf53 17 = .ok (.ireturn, 1) := by decide +kernel
theorem dJ9_floorMod_7cf53_18 : decode cJ9_floorMod_7cf53 18 = .ok (.iload_n 2, 1) := by decide +kernel
theorem dJ9_floorMod_7cf53_19 : decode cJ9_floorMod_7cf53 19 = .ok (.ireturn, 1) := by decide +kernel
theorem dJ9_abs_0f7a4_0 : decode cJ9_abs_0f7a4 0 = .ok (.iload_n 0, 1) := by decide +kernel
theorem dJ9_abs_0f7a4_1 : decode cJ9_abs_0f7a4 1 = .ok (.ifCond .ge 8, 3) := by decide +kernel
theorem dJ9_abs_0f7a4_4 : decode cJ9_abs_0f7a4 4 = .ok (.iload_n 0, 1) := by decide +kernel
theorem dJ9_abs_0f7a4_5 : decode cJ9_abs_0f7a4 5 = .ok (.ineg, 1) := by decide +kernel
theorem dJ9_abs_0f7a4_6 : decode cJ9_abs_0f7a4 6 = .ok (.goto 4, 3) := by decide +kernel
theorem dJ9_abs_0f7a4_9 : decode cJ9_abs_0f7a4 9 = .ok (.iload_n 0, 1) := by decide +kernel
theorem dJ9_abs_0f7a4_10 : decode cJ9_abs_0f7a4 10 = .ok (.ireturn, 1) := by decide +kernel
theorem dJ9_abs_067f4_0 : decode cJ9_abs_067f4 0 = .ok (.lload_n 0, 1) := by decide +kernel
theorem dJ9_abs_067f4_1 : decode cJ9_abs_067f4 1 = .ok (.lconst 0, 1) := by decide +kernel
theorem dJ9_abs_067f4_2 : decode cJ9_abs_067f4 2 = .ok (.lcmp, 1) := by decide +kernel
theorem dJ9_abs_067f4_3 : decode cJ9_abs_067f4 3 = .ok (.ifCond .ge 8, 3) := by decide +kernel
theorem dJ9_abs_067f4_6 : decode cJ9_abs_067f4 6 = .ok (.lload_n 0, 1) := by decide +kernel
theorem dJ9_abs_067f4_7 : decode cJ9_abs_067f4 7 = .ok (.lneg, 1) := by decide +kernel
theorem dJ9_abs_067f4_8 : decode cJ9_abs_067f4 8 = .ok (.goto 4, 3) := by decide +kernel
theorem dJ9_abs_067f4_11 : decode cJ9_abs_067f4 11 = .ok (.lload_n 0, 1) := by decide +kernel
theorem dJ9_abs_067f4_12 : decode cJ9_abs_067f4 12 = .ok (.lreturn, 1) := by decide +kernel
theorem dJ9_max_7cf53_0 : decode cJ9_max_7cf53 0 = .ok (.iload_n 0, 1) := by decide +kernel
theorem dJ9_max_7cf53_1 : decode cJ9_max_7cf53 1 = .ok (.iload_n 1, 1) := by decide +kernel
theorem dJ9_max_7cf53_2 : decode cJ9_max_7cf53 2 = .ok (.if_icmp .lt 7, 3) := by decide +kernel
theorem dJ9_max_7cf53_5 : decode cJ9_max_7cf53 5 = .ok (.iload_n 0, 1) := by decide +kernel
theorem dJ9_max_7cf53_6 : decode cJ9_max_7cf53 6 = .ok (.goto 4, 3) := by decide +kernel
theorem dJ9_max_7cf53_9 : decode cJ9_max_7cf53 9 = .ok (.iload_n 1, 1) := by decide +kernel
theorem dJ9_max_7cf53_10 : decode cJ9_max_7cf53 10 = .ok (.ireturn, 1) := by decide +kernel
theorem dJ9_min_7cf53_0 : decode cJ9_min_7cf53 0 = .ok (.iload_n 0, 1) := by decide +kernel
theorem dJ9_min_7cf53_1 : decode cJ9_min_7cf53 1 = .ok (.iload_n 1, 1) := by decide +kernel
theorem dJ9_min_7cf53_2 : decode cJ9_min_7cf53 2 = .ok (.if_icmp .gt 7, 3) := by decide +kernel
theorem dJ9_min_7cf53_5 : decode cJ9_min_7cf53 5 = .ok (.iload_n 0, 1) := by decide +kernel
theorem dJ9_min_7cf53_6 : decode cJ9_min_7cf53 6 = .ok (.goto 4, 3) := by decide +kernel
theorem dJ9_min_7cf53_9 : decode cJ9_min_7cf53 9 = .ok (.iload_n 1, 1) := by decide +kernel
theorem dJ9_min_7cf53_10 : decode cJ9_min_7cf53 10 = .ok (.ireturn, 1) := by decide +kernel
theorem dJ0_charAt_5068e_0 : decode cJ0_charAt_5068e 0 = .ok (.aload_n 0, 1) := by decide +kernel
theorem dJ0_charAt_5068e_1 : decode cJ0_charAt_5068e 1 = .ok (.invokevirtual 492, 3) := by decide +kernel
theorem dJ0_charAt_5068e_4 : decode cJ0_charAt_5068e 4 = .ok (.ifCond .eq 12, 3) := by decide +kernel
theorem dJ0_charAt_5068e_7 : decode cJ0_charAt_5068e 7 = .ok (.aload_n 0, 1) := by decide +kernel
theorem dJ0_charAt_5068e_8 : decode cJ0_charAt_5068e 8 = .ok (.getfield 9, 3) := by decide +kernel
theorem dJ0_charAt_5068e_11 : decode cJ0_charAt_5068e 11 = .ok (.iload_n 1, 1) := by decide +kernel
theorem dJ0_charAt_5068e_12 : decode cJ0_charAt_5068e 12 = .ok (.invokestatic 495, 3) := by decide +kernel
theorem dJ0_charAt_5068e_15 : decode cJ0_charAt_5068e 15 = .ok (.ireturn, 1) := by decide +kernel
theorem dJ0_charAt_5068e_16 : decode cJ0_charAt_5068e 16 = .ok (.aload_n 0, 1) := by decide +kernel
theorem dJ0_charAt_5068e_17 : decode cJ0_charAt_5068e 17 = .ok (.getfield 9, 3) := by decide +kernel
theorem dJ0_charAt_5068e_20 : decode cJ0_charAt_5068e 20 = .ok (.iload_n 1, 1) := by decide +kernel
theorem dJ0_charAt_5068e_21 : decode cJ0_charAt_5068e 21 = .ok (.invokestatic 498, 3) := by decide +kernel
theorem dJ0_charAt_5068e_24 : decode cJ0_charAt_5068e 24 = .ok (.ireturn, 1) := by decide +kernel
theorem dJ0_isLatin1_aae02_0 : decode cJ0_isLatin1_aae02 0 = .ok (.getstatic 38, 3) := by decide +kernel
theorem dJ0_isLatin1_aae02_3 : decode cJ0_isLatin1_aae02 3 = .ok (.ifCond .eq 14, 3) := by decide +kernel
theorem dJ0_isLatin1_aae02_6 : decode cJ0_isLatin1_aae02 6 = .ok (.aload_n 0, 1) := by decide +kernel
theorem dJ0_isLatin1_aae02_7 : decode cJ0_isLatin1_aae02 7 = .ok (.getfield 15, 3) := by decide +kernel
theorem dJ0_isLatin1_aae02_10 : decode cJ0_isLatin1_aae02 10 = .ok (.ifCond .ne 7, 3) := by decide +kernel
theorem dJ0_isLatin1_aae02_13 : decode cJ0_isLatin1_aae02 13 = .ok (.iconst 1, 1) := by decide +kernel
theorem dJ0_isLatin1_aae02_14 : decode cJ0_isLatin1_aae02 14 = .ok (.goto 4, 3) := by decide +kernel
theorem dJ0_isLatin1_aae02_17 : decode cJ0_isLatin1_aae02 17 = .ok (.iconst 0, 1) := by decide +kernel
theorem dJ0_isLatin1_aae02_18 : decode cJ0_isLatin1_aae02 18 = .ok (.ireturn, 1) := by decide +kernel
theorem dJ0_checkIndex_df160_0 : decode cJ0_checkIndex_df160 0 = .ok (.iload_n 0, 1) := by decide +kernel
theorem dJ0_checkIndex_df160_1 : decode cJ0_checkIndex_df160 1 = .ok (.iload_n 1, 1) := by decide +kernel
theorem dJ0_checkIndex_df160_2 : decode cJ0_checkIndex_df160 2 = .ok (.getstatic 1053, 3) := by decide +kernel
theorem dJ0_checkIndex_df160_5 : decode cJ0_checkIndex_df160 5 = .ok (.invokestatic 1059, 3) := by decide +kernel
theorem dJ0_checkIndex_df160_8 : decode cJ0_checkIndex_df160 8 = .ok (.pop, 1) := by decide +kernel
theorem dJ0_checkIndex_df160_9 : decode cJ0_checkIndex_df160 9 = .ok (.return_, 1) := by decide +kernel
theorem dJ1_charAt_3b067_0 : decode cJ1_charAt_3b067 0 = .ok (.iload_n 1, 1) := by decide +kernel
theorem dJ1_charAt_3b067_1 : decode cJ1_charAt_3b067 1 = .ok (.aload_n 0, 1) := by decide +kernel
theorem dJ1_charAt_3b067_2 : decode cJ1_charAt_3b067 2 = .ok (.arraylength, 1) := by decide +kernel
theorem dJ1_charAt_3b067_3 : decode cJ1_charAt_3b067 3 = .ok (.invokestatic 9, 3) := by decide +kernel
theorem dJ1_charAt_3b067_6 : decode cJ1_charAt_3b067 6 = .ok (.aload_n 0, 1) := by decide +kernel
theorem dJ1_charAt_3b067_7 : decode cJ1_charAt_3b067 7 = .ok (.iload_n 1, 1) := by decide +kernel
theorem dJ1_charAt_3b067_8 : decode cJ1_charAt_3b067 8 = .ok (.baload, 1) := by decide +kernel
theorem dJ1_charAt_3b067_9 : decode cJ1_charAt_3b067 9 = .ok (.sipush 255, 3) := by decide +kernel
theorem dJ1_charAt_3b067_12 : decode cJ1_charAt_3b067 12 = .ok (.iand, 1) := by decide +kernel
theorem dJ1_charAt_3b067_13 : decode cJ1_charAt_3b067 13 = .ok (.i2c, 1) := by decide +kernel
theorem dJ1_charAt_3b067_14 : decode cJ1_charAt_3b067 14 = .ok (.ireturn, 1) := by decide +kernel
theorem dJ2_getChar_3b067_0 : decode cJ2_getChar_3b067 0 = .ok (.getstatic 44, 3) := by decide +kernel
theorem dJ2_getChar_3b067_3 : decode cJ2_getChar_3b067 3 = .ok (.ifCond .ne 25, 3) := by decide +kernel
theorem dJ2_getChar_3b067_6 : decode cJ2_getChar_3b067 6 = .ok (.iload_n 1, 1) := by decide +kernel
theorem dJ2_getChar_3b067_7 : decode cJ2_getChar_3b067 7 = .ok (.ifCond .lt 11, 3) := by decide +kernel
theorem dJ2_getChar_3b067_10 : decode cJ2_getChar_3b067 10 = .ok (.iload_n 1, 1) := by decide +kernel
theorem dJ2_getChar_3b067_11 : decode cJ2_getChar_3b067 11 = .ok (.aload_n 0, 1) := by decide +kernel
theorem dJ2_getChar_3b067_12 : decode cJ2_getChar_3b067 12 = .ok (.invokestatic 48, 3) := by decide +kernel
theorem dJ2_getChar_3b067_15 : decode cJ2_getChar_3b067 15 = .ok (.if_icmp .lt 13, 3) := by decide +kernel
theorem dJ2_getChar_3b067_18 : decode cJ2_getChar_3b067 18 = .ok (.new 52, 3) := by decide +kernel
theorem dJ2_getChar_3b067_21 : decode cJ2_getChar_3b067 21 = .ok (.dup, 1) := by decide +kernel
theorem dJ2_getChar_3b067_22 : decode cJ2_getChar_3b067 22 = .ok (.ldc 54, 2) := by decide +kernel
theorem dJ2_getChar_3b067_24 : decode cJ2_getChar_3b067 24 = .ok (.invokespecial 56, 3) := by decide +kernel
theorem dJ2_getChar_3b067_27 : decode cJ2_getChar_3b067 27 = .ok (.athrow, 1) := by decide +kernel
theorem dJ2_getChar_3b067_28 : decode cJ2_getChar_3b067 28 = .ok (.iload_n 1, 1) := by decide +kernel
theorem dJ2_getChar_3b067_29 : decode cJ2_getChar_3b067 29 = .ok (.iconst 1, 1) := by decide +kernel
theorem dJ2_getChar_3b067_30 : decode cJ2_getChar_3b067 30 = .ok (.ishl, 1) := by decide +kernel
theorem dJ2_getChar_3b067_31 : decode cJ2_getChar_3b067 31 = .ok (.istore_n 1, 1) := by decide +kernel
theorem dJ2_getChar_3b067_32 : decode cJ2_getChar_3b067 32 = .ok (.aload_n 0, 1) := by decide +kernel
theorem dJ2_getChar_3b067_33 : decode cJ2_getChar_3b067 33 = .ok (.iload_n 1, 1) := by decide +kernel
theorem dJ2_getChar_3b067_34 : decode cJ2_getChar_3b067 34 = .ok (.iinc 1 1, 3) := by decide +kernel
theorem dJ2_getChar_3b067_37 : decode cJ2_getChar_3b067 37 = .ok (.baload, 1) := by decide +kernel
theorem dJ2_getChar_3b067_38 : decode cJ2_getChar_3b067 38 = .ok (.sipush 255, 3) := by decide +kernel
theorem dJ2_getChar_3b067_41 : decode cJ2_getChar_3b067 41 = .ok (.iand, 1) := by decide +kernel
theorem dJ2_getChar_3b067_42 : decode cJ2_getChar_3b067 42 = .ok (.getstatic 59, 3) := by decide +kernel
theorem dJ2_getChar_3b067_45 : decode cJ2_getChar_3b067 45 = .ok (.ishl, 1) := by decide +kernel
theorem dJ2_getChar_3b067_46 : decode cJ2_getChar_3b067 46 = .ok (.aload_n 0, 1) := by decide +kernel
theorem dJ2_getChar_3b067_47 : decode cJ2_getChar_3b067 47 = .ok (.iload_n 1, 1) := by decide +kernel
theorem dJ2_getChar_3b067_48 : decode cJ2_getChar_3b067 48 = .ok (.baload, 1) := by decide +kernel
theorem dJ2_getChar_3b067_49 : decode cJ2_getChar_3b067 49 = .ok (.sipush 255, 3) := by decide +kernel
theorem dJ2_getChar_3b067_52 : decode cJ2_getChar_3b067 52 = .ok (.iand, 1) := by decide +kernel
theorem dJ2_getChar_3b067_53 : decode cJ2_getChar_3b067 53 = .ok (.getstatic 63, 3) := by decide +kernel
theorem dJ2_getChar_3b067_56 : decode cJ2_getChar_3b067 56 = .ok (.ishl, 1) := by decide +kernel
theorem dJ2_getChar_3b067_57 : decode cJ2_getChar_3b067 57 = .ok (.ior, 1) := by decide +kernel
theorem dJ2_getChar_3b067_58 : decode cJ2_getChar_3b067 58 = .ok (.i2c, 1) := by decide +kernel
theorem dJ2_getChar_3b067_59 : decode cJ2_getChar_3b067 59 = .ok (.ireturn, 1) := by decide +kernel
theorem dJ2_length_9d52b_0 : decode cJ2_length_9d52b 0 = .ok (.aload_n 0, 1) := by decide +kernel
theorem dJ2_length_9d52b_1 : decode cJ2_length_9d52b 1 = .ok (.arraylength, 1) := by decide +kernel
theorem dJ2_length_9d52b_2 : decode cJ2_length_9d52b 2 = .ok (.iconst 1, 1) := by decide +kernel
theorem dJ2_length_9d52b_3 : decode cJ2_length_9d52b 3 = .ok (.ishr, 1) := by decide +kernel
theorem dJ2_length_9d52b_4 : decode cJ2_length_9d52b 4 = .ok (.ireturn, 1) := by decide +kernel
theorem dJ2_charAt_3b067_0 : decode cJ2_charAt_3b067 0 = .ok (.iload_n 1, 1) := by decide +kernel
theorem dJ2_charAt_3b067_1 : decode cJ2_charAt_3b067 1 = .ok (.aload_n 0, 1) := by decide +kernel
theorem dJ2_charAt_3b067_2 : decode cJ2_charAt_3b067 2 = .ok (.invokestatic 67, 3) := by decide +kernel
theorem dJ2_charAt_3b067_5 : decode cJ2_charAt_3b067 5 = .ok (.aload_n 0, 1) := by decide +kernel
theorem dJ2_charAt_3b067_6 : decode cJ2_charAt_3b067 6 = .ok (.iload_n 1, 1) := by decide +kernel
theorem dJ2_charAt_3b067_7 : decode cJ2_charAt_3b067 7 = .ok (.invokestatic 71, 3) := by decide +kernel
theorem dJ2_charAt_3b067_10 : decode cJ2_charAt_3b067 10 = .ok (.ireturn, 1) := by decide +kernel
theorem dJ2_checkIndex_2214a_0 : decode cJ2_checkIndex_2214a 0 = .ok (.iload_n 0, 1) := by decide +kernel
theorem dJ2_checkIndex_2214a_1 : decode cJ2_checkIndex_2214a 1 = .ok (.aload_n 1, 1) := by decide +kernel
theorem dJ2_checkIndex_2214a_2 : decode cJ2_checkIndex_2214a 2 = .ok (.invokestatic 48, 3) := by decide +kernel
theorem dJ2_checkIndex_2214a_5 : decode cJ2_checkIndex_2214a 5 = .ok (.invokestatic 414, 3) := by decide +kernel
theorem dJ2_checkIndex_2214a_8 : decode cJ2_checkIndex_2214a 8 = .ok (.return_, 1) := by decide +kernel
theorem dJ3_checkIndex_8e157_0 : decode cJ3_checkIndex_8e157 0 = .ok (.iload_n 0, 1) := by decide +kernel
theorem dJ3_checkIndex_8e157_1 : decode cJ3_checkIndex_8e157 1 = .ok (.ifCond .lt 8, 3) := by decide +kernel
theorem dJ3_checkIndex_8e157_4 : decode cJ3_checkIndex_8e157 4 = .ok (.iload_n 0, 1) := by decide +kernel
theorem dJ3_checkIndex_8e157_5 : decode cJ3_checkIndex_8e157 5 = .ok (.iload_n 1, 1) := by decide +kernel
theorem dJ3_checkIndex_8e157_6 : decode cJ3_checkIndex_8e157 6 = .ok (.if_icmp .lt 10, 3) := by decide +kernel
theorem dJ3_checkIndex_8e157_9 : decode cJ3_checkIndex_8e157 9 = .ok (.aload_n 2, 1) := by decide +kernel
theorem dJ3_checkIndex_8e157_10 : decode cJ3_checkIndex_8e157 10 = .ok (.iload_n 0, 1) := by decide +kernel
theorem dJ3_checkIndex_8e157_11 : decode cJ3_checkIndex_8e157 11 = .ok (.iload_n 1, 1) := by decide +kernel
theorem dJ3_checkIndex_8e157_12 : decode cJ3_checkIndex_8e157 12 = .ok (.invokestatic 95, 3) := by decide +kernel
theorem dJ3_checkIndex_8e157_15 : decode cJ3_checkIndex_8e157 15 = .ok (.athrow, 1) := by decide +kernel
theorem dJ3_checkIndex_8e157_16 : decode cJ3_checkIndex_8e157 16 = .ok (.iload_n 0, 1) := by decide +kernel
theorem dJ3_checkIndex_8e157_17 : decode cJ3_checkIndex_8e157 17 = .ok (.ireturn, 1) := by decide +kernel
theorem dL_strip_0 : decode cL_strip 0 = .ok (.aload_n 3, 1) := by decide +kernel
theorem dL_strip_1 : decode cL_strip 1 = .ok (.iconst 0, 1) := by decide +kernel
theorem dL_strip_2 : decode cL_strip 2 = .ok (.aload_n 0, 1) := by decide +kernel
theorem dL_strip_3 : decode cL_strip 3 = .ok (.iload_n 1, 1) := by decide +kernel
theorem dL_strip_4 : decode cL_strip 4 = .ok (.iload_n 2, 1) := by decide +kernel
theorem dL_strip_5 : decode cL_strip 5 = .ok (.invokevirtual 7, 3) := by decide +kernel
theorem dL_strip_8 : decode cL_strip 8 = .ok (.i2l, 1) := by decide +kernel
theorem dL_strip_9 : decode cL_strip 9 = .ok (.lastore, 1) := by decide +kernel
theorem dL_strip_10 : decode cL_strip 10 = .ok (.goto 7, 3) := by decide +kernel
theorem dL_strip_13 : decode cL_strip 13 = .ok (.astore 4, 2) := by decide +kernel
theorem dL_strip_15 : decode cL_strip 15 = .ok (.iconst 1, 1) := by decide +kernel
theorem dL_strip_16 : decode cL_strip 16 = .ok (.ireturn, 1) := by decide +kernel
theorem dL_strip_17 : decode cL_strip 17 = .ok (.iconst 0, 1) := by decide +kernel
theorem dL_strip_18 : decode cL_strip 18 = .ok (.ireturn, 1) := by decide +kernel
theorem dL_lies_0 : decode cL_lies 0 = .ok (.aload_n 2, 1) := by decide +kernel
theorem dL_lies_1 : decode cL_lies 1 = .ok (.iconst 0, 1) := by decide +kernel
theorem dL_lies_2 : decode cL_lies 2 = .ok (.aload_n 0, 1) := by decide +kernel
theorem dL_lies_3 : decode cL_lies 3 = .ok (.iload_n 1, 1) := by decide +kernel
theorem dL_lies_4 : decode cL_lies 4 = .ok (.invokevirtual 15, 3) := by decide +kernel
theorem dL_lies_7 : decode cL_lies 7 = .ok (.ifCond .eq 7, 3) := by decide +kernel
theorem dL_lies_10 : decode cL_lies 10 = .ok (.lconst 1, 1) := by decide +kernel
theorem dL_lies_11 : decode cL_lies 11 = .ok (.goto 4, 3) := by decide +kernel
theorem dL_lies_14 : decode cL_lies 14 = .ok (.lconst 0, 1) := by decide +kernel
theorem dL_lies_15 : decode cL_lies 15 = .ok (.lastore, 1) := by decide +kernel
theorem dL_lies_16 : decode cL_lies 16 = .ok (.goto 9, 3) := by decide +kernel
theorem dL_lies_19 : decode cL_lies 19 = .ok (.astore_n 3, 1) := by decide +kernel
theorem dL_lies_20 : decode cL_lies 20 = .ok (.iconst 1, 1) := by decide +kernel
theorem dL_lies_21 : decode cL_lies 21 = .ok (.ireturn, 1) := by decide +kernel
theorem dL_lies_22 : decode cL_lies 22 = .ok (.astore_n 3, 1) := by decide +kernel
theorem dL_lies_23 : decode cL_lies 23 = .ok (.iconst 2, 1) := by decide +kernel
theorem dL_lies_24 : decode cL_lies 24 = .ok (.ireturn, 1) := by decide +kernel
theorem dL_lies_25 : decode cL_lies 25 = .ok (.iconst 0, 1) := by decide +kernel
theorem dL_lies_26 : decode cL_lies 26 = .ok (.ireturn, 1) := by decide +kernel
theorem dL_clear_0 : decode cL_clear 0 = .ok (.aload_n 2, 1) := by decide +kernel
theorem dL_clear_1 : decode cL_clear 1 = .ok (.iconst 0, 1) := by decide +kernel
theorem dL_clear_2 : decode cL_clear 2 = .ok (.aload_n 0, 1) := by decide +kernel
theorem dL_clear_3 : decode cL_clear 3 = .ok (.iload_n 1, 1) := by decide +kernel
theorem dL_clear_4 : decode cL_clear 4 = .ok (.invokevirtual 21, 3) := by decide +kernel
theorem dL_clear_7 : decode cL_clear 7 = .ok (.ifCond .eq 7, 3) := by decide +kernel
theorem dL_clear_10 : decode cL_clear 10 = .ok (.lconst 1, 1) := by decide +kernel
theorem dL_clear_11 : decode cL_clear 11 = .ok (.goto 4, 3) := by decide +kernel
theorem dL_clear_14 : decode cL_clear 14 = .ok (.lconst 0, 1) := by decide +kernel
theorem dL_clear_15 : decode cL_clear 15 = .ok (.lastore, 1) := by decide +kernel
theorem dL_clear_16 : decode cL_clear 16 = .ok (.goto 12, 3) := by decide +kernel
theorem dL_clear_19 : decode cL_clear 19 = .ok (.astore_n 3, 1) := by decide +kernel
theorem dL_clear_20 : decode cL_clear 20 = .ok (.iconst 1, 1) := by decide +kernel
theorem dL_clear_21 : decode cL_clear 21 = .ok (.ireturn, 1) := by decide +kernel
theorem dL_clear_22 : decode cL_clear 22 = .ok (.astore_n 3, 1) := by decide +kernel
theorem dL_clear_23 : decode cL_clear 23 = .ok (.iconst 2, 1) := by decide +kernel
theorem dL_clear_24 : decode cL_clear 24 = .ok (.ireturn, 1) := by decide +kernel
theorem dL_clear_25 : decode cL_clear 25 = .ok (.astore_n 3, 1) := by decide +kernel
theorem dL_clear_26 : decode cL_clear 26 = .ok (.iconst 3, 1) := by decide +kernel
theorem dL_clear_27 : decode cL_clear 27 = .ok (.ireturn, 1) := by decide +kernel
theorem dL_clear_28 : decode cL_clear 28 = .ok (.iconst 0, 1) := by decide +kernel
theorem dL_clear_29 : decode cL_clear 29 = .ok (.ireturn, 1) := by decide +kernel
theorem dL_open_0 : decode cL_open 0 = .ok (.aload_n 2, 1) := by decide +kernel
theorem dL_open_1 : decode cL_open 1 = .ok (.iconst 0, 1) := by decide +kernel
theorem dL_open_2 : decode cL_open 2 = .ok (.aload_n 0, 1) := by decide +kernel
theorem dL_open_3 : decode cL_open 3 = .ok (.iload_n 1, 1) := by decide +kernel
theorem dL_open_4 : decode cL_open 4 = .ok (.invokevirtual 26, 3) := by decide +kernel
theorem dL_open_7 : decode cL_open 7 = .ok (.i2l, 1) := by decide +kernel
theorem dL_open_8 : decode cL_open 8 = .ok (.lastore, 1) := by decide +kernel
theorem dL_open_9 : decode cL_open 9 = .ok (.goto 9, 3) := by decide +kernel
theorem dL_open_12 : decode cL_open 12 = .ok (.astore_n 3, 1) := by decide +kernel
theorem dL_open_13 : decode cL_open 13 = .ok (.iconst 1, 1) := by decide +kernel
theorem dL_open_14 : decode cL_open 14 = .ok (.ireturn, 1) := by decide +kernel
theorem dL_open_15 : decode cL_open 15 = .ok (.astore_n 3, 1) := by decide +kernel
theorem dL_open_16 : decode cL_open 16 = .ok (.iconst 2, 1) := by decide +kernel
theorem dL_open_17 : decode cL_open 17 = .ok (.ireturn, 1) := by decide +kernel
theorem dL_open_18 : decode cL_open 18 = .ok (.iconst 0, 1) := by decide +kernel
theorem dL_open_19 : decode cL_open 19 = .ok (.ireturn, 1) := by decide +kernel
theorem dL_orders_0 : decode cL_orders 0 = .ok (.aload_n 1, 1) := by decide +kernel
theorem dL_orders_1 : decode cL_orders 1 = .ok (.iconst 0, 1) := by decide +kernel
theorem dL_orders_2 : decode cL_orders 2 = .ok (.aload_n 0, 1) := by decide +kernel
theorem dL_orders_3 : decode cL_orders 3 = .ok (.invokevirtual 30, 3) := by decide +kernel
theorem dL_orders_6 : decode cL_orders 6 = .ok (.i2l, 1) := by decide +kernel
theorem dL_orders_7 : decode cL_orders 7 = .ok (.lastore, 1) := by decide +kernel
theorem dL_orders_8 : decode cL_orders 8 = .ok (.goto 6, 3) := by decide +kernel
theorem dL_orders_11 : decode cL_orders 11 = .ok (.astore_n 2, 1) := by decide +kernel
theorem dL_orders_12 : decode cL_orders 12 = .ok (.iconst 1, 1) := by decide +kernel
theorem dL_orders_13 : decode cL_orders 13 = .ok (.ireturn, 1) := by decide +kernel
theorem dL_orders_14 : decode cL_orders 14 = .ok (.iconst 0, 1) := by decide +kernel
theorem dL_orders_15 : decode cL_orders 15 = .ok (.ireturn, 1) := by decide +kernel
theorem dL_safe_0 : decode cL_safe 0 = .ok (.aload_n 2, 1) := by decide +kernel
theorem dL_safe_1 : decode cL_safe 1 = .ok (.iconst 0, 1) := by decide +kernel
theorem dL_safe_2 : decode cL_safe 2 = .ok (.aload_n 0, 1) := by decide +kernel
theorem dL_safe_3 : decode cL_safe 3 = .ok (.iload_n 1, 1) := by decide +kernel
theorem dL_safe_4 : decode cL_safe 4 = .ok (.invokevirtual 34, 3) := by decide +kernel
theorem dL_safe_7 : decode cL_safe 7 = .ok (.i2l, 1) := by decide +kernel
theorem dL_safe_8 : decode cL_safe 8 = .ok (.lastore, 1) := by decide +kernel
theorem dL_safe_9 : decode cL_safe 9 = .ok (.goto 6, 3) := by decide +kernel
theorem dL_safe_12 : decode cL_safe 12 = .ok (.astore_n 3, 1) := by decide +kernel
theorem dL_safe_13 : decode cL_safe 13 = .ok (.iconst 1, 1) := by decide +kernel
theorem dL_safe_14 : decode cL_safe 14 = .ok (.ireturn, 1) := by decide +kernel
theorem dL_safe_15 : decode cL_safe 15 = .ok (.iconst 0, 1) := by decide +kernel
theorem dL_safe_16 : decode cL_safe 16 = .ok (.ireturn, 1) := by decide +kernel
theorem dL_panel_0 : decode cL_panel 0 = .ok (.aload 6, 2) := by decide +kernel
theorem dL_panel_2 : decode cL_panel 2 = .ok (.iconst 0, 1) := by decide +kernel
theorem dL_panel_3 : decode cL_panel 3 = .ok (.aload_n 0, 1) := by decide +kernel
theorem dL_panel_4 : decode cL_panel 4 = .ok (.iload_n 1, 1) := by decide +kernel
theorem dL_panel_5 : decode cL_panel 5 = .ok (.iload_n 2, 1) := by decide +kernel
theorem dL_panel_6 : decode cL_panel 6 = .ok (.iload_n 3, 1) := by decide +kernel
theorem dL_panel_7 : decode cL_panel 7 = .ok (.iload 4, 2) := by decide +kernel
theorem dL_panel_9 : decode cL_panel 9 = .ok (.iload 5, 2) := by decide +kernel
theorem dL_panel_11 : decode cL_panel 11 = .ok (.invokevirtual 37, 3) := by decide +kernel
theorem dL_panel_14 : decode cL_panel 14 = .ok (.i2l, 1) := by decide +kernel
theorem dL_panel_15 : decode cL_panel 15 = .ok (.lastore, 1) := by decide +kernel
theorem dL_panel_16 : decode cL_panel 16 = .ok (.goto 7, 3) := by decide +kernel
theorem dL_panel_19 : decode cL_panel 19 = .ok (.astore 7, 2) := by decide +kernel
theorem dL_panel_21 : decode cL_panel 21 = .ok (.iconst 1, 1) := by decide +kernel
theorem dL_panel_22 : decode cL_panel 22 = .ok (.ireturn, 1) := by decide +kernel
theorem dL_panel_23 : decode cL_panel 23 = .ok (.iconst 0, 1) := by decide +kernel
theorem dL_panel_24 : decode cL_panel 24 = .ok (.ireturn, 1) := by decide +kernel
theorem dL_of_0 : decode cL_of 0 = .ok (.aload_n 3, 1) := by decide +kernel
theorem dL_of_1 : decode cL_of 1 = .ok (.iconst 0, 1) := by decide +kernel
theorem dL_of_2 : decode cL_of 2 = .ok (.aload_n 0, 1) := by decide +kernel
theorem dL_of_3 : decode cL_of 3 = .ok (.iload_n 1, 1) := by decide +kernel
theorem dL_of_4 : decode cL_of 4 = .ok (.iload_n 2, 1) := by decide +kernel
theorem dL_of_5 : decode cL_of 5 = .ok (.invokevirtual 41, 3) := by decide +kernel
theorem dL_of_8 : decode cL_of 8 = .ok (.i2l, 1) := by decide +kernel
theorem dL_of_9 : decode cL_of 9 = .ok (.lastore, 1) := by decide +kernel
theorem dL_of_10 : decode cL_of 10 = .ok (.goto 11, 3) := by decide +kernel
theorem dL_of_13 : decode cL_of 13 = .ok (.astore 4, 2) := by decide +kernel
theorem dL_of_15 : decode cL_of 15 = .ok (.iconst 1, 1) := by decide +kernel
theorem dL_of_16 : decode cL_of 16 = .ok (.ireturn, 1) := by decide +kernel
theorem dL_of_17 : decode cL_of 17 = .ok (.astore 4, 2) := by decide +kernel
theorem dL_of_19 : decode cL_of 19 = .ok (.iconst 2, 1) := by decide +kernel
theorem dL_of_20 : decode cL_of 20 = .ok (.ireturn, 1) := by decide +kernel
theorem dL_of_21 : decode cL_of 21 = .ok (.iconst 0, 1) := by decide +kernel
theorem dL_of_22 : decode cL_of 22 = .ok (.ireturn, 1) := by decide +kernel
theorem dL_tear_0 : decode cL_tear 0 = .ok (.aload_n 2, 1) := by decide +kernel
theorem dL_tear_1 : decode cL_tear 1 = .ok (.iconst 0, 1) := by decide +kernel
theorem dL_tear_2 : decode cL_tear 2 = .ok (.aload_n 0, 1) := by decide +kernel
theorem dL_tear_3 : decode cL_tear 3 = .ok (.iload_n 1, 1) := by decide +kernel
theorem dL_tear_4 : decode cL_tear 4 = .ok (.invokevirtual 46, 3) := by decide +kernel
theorem dL_tear_7 : decode cL_tear 7 = .ok (.ifCond .eq 7, 3) := by decide +kernel
theorem dL_tear_10 : decode cL_tear 10 = .ok (.lconst 1, 1) := by decide +kernel
theorem dL_tear_11 : decode cL_tear 11 = .ok (.goto 4, 3) := by decide +kernel
theorem dL_tear_14 : decode cL_tear 14 = .ok (.lconst 0, 1) := by decide +kernel
theorem dL_tear_15 : decode cL_tear 15 = .ok (.lastore, 1) := by decide +kernel
theorem dL_tear_16 : decode cL_tear 16 = .ok (.goto 6, 3) := by decide +kernel
theorem dL_tear_19 : decode cL_tear 19 = .ok (.astore_n 3, 1) := by decide +kernel
theorem dL_tear_20 : decode cL_tear 20 = .ok (.iconst 1, 1) := by decide +kernel
theorem dL_tear_21 : decode cL_tear 21 = .ok (.ireturn, 1) := by decide +kernel
theorem dL_tear_22 : decode cL_tear 22 = .ok (.iconst 0, 1) := by decide +kernel
theorem dL_tear_23 : decode cL_tear 23 = .ok (.ireturn, 1) := by decide +kernel
theorem dL_flap_0 : decode cL_flap 0 = .ok (.aload_n 2, 1) := by decide +kernel
theorem dL_flap_1 : decode cL_flap 1 = .ok (.iconst 0, 1) := by decide +kernel
theorem dL_flap_2 : decode cL_flap 2 = .ok (.aload_n 0, 1) := by decide +kernel
theorem dL_flap_3 : decode cL_flap 3 = .ok (.iload_n 1, 1) := by decide +kernel
theorem dL_flap_4 : decode cL_flap 4 = .ok (.invokevirtual 49, 3) := by decide +kernel
theorem dL_flap_7 : decode cL_flap 7 = .ok (.i2l, 1) := by decide +kernel
theorem dL_flap_8 : decode cL_flap 8 = .ok (.lastore, 1) := by decide +kernel
theorem dL_flap_9 : decode cL_flap 9 = .ok (.goto 6, 3) := by decide +kernel
theorem dL_flap_12 : decode cL_flap 12 = .ok (.astore_n 3, 1) := by decide +kernel
theorem dL_flap_13 : decode cL_flap 13 = .ok (.iconst 1, 1) := by decide +kernel
theorem dL_flap_14 : decode cL_flap 14 = .ok (.ireturn, 1) := by decide +kernel
theorem dL_flap_15 : decode cL_flap 15 = .ok (.iconst 0, 1) := by decide +kernel
theorem dL_flap_16 : decode cL_flap 16 = .ok (.ireturn, 1) := by decide +kernel
theorem dL_bend_0 : decode cL_bend 0 = .ok (.aload_n 3, 1) := by decide +kernel
theorem dL_bend_1 : decode cL_bend 1 = .ok (.iconst 0, 1) := by decide +kernel
theorem dL_bend_2 : decode cL_bend 2 = .ok (.aload_n 0, 1) := by decide +kernel
theorem dL_bend_3 : decode cL_bend 3 = .ok (.iload_n 1, 1) := by decide +kernel
theorem dL_bend_4 : decode cL_bend 4 = .ok (.iload_n 2, 1) := by decide +kernel
theorem dL_bend_5 : decode cL_bend 5 = .ok (.invokevirtual 52, 3) := by decide +kernel
theorem dL_bend_8 : decode cL_bend 8 = .ok (.i2l, 1) := by decide +kernel
theorem dL_bend_9 : decode cL_bend 9 = .ok (.lastore, 1) := by decide +kernel
theorem dL_bend_10 : decode cL_bend 10 = .ok (.goto 11, 3) := by decide +kernel
theorem dL_bend_13 : decode cL_bend 13 = .ok (.astore 4, 2) := by decide +kernel
theorem dL_bend_15 : decode cL_bend 15 = .ok (.iconst 1, 1) := by decide +kernel
theorem dL_bend_16 : decode cL_bend 16 = .ok (.ireturn, 1) := by decide +kernel
theorem dL_bend_17 : decode cL_bend 17 = .ok (.astore 4, 2) := by decide +kernel
theorem dL_bend_19 : decode cL_bend 19 = .ok (.iconst 2, 1) := by decide +kernel
theorem dL_bend_20 : decode cL_bend 20 = .ok (.ireturn, 1) := by decide +kernel
theorem dL_bend_21 : decode cL_bend 21 = .ok (.iconst 0, 1) := by decide +kernel
theorem dL_bend_22 : decode cL_bend 22 = .ok (.ireturn, 1) := by decide +kernel
theorem dL_stuck_0 : decode cL_stuck 0 = .ok (.aload_n 3, 1) := by decide +kernel
theorem dL_stuck_1 : decode cL_stuck 1 = .ok (.iconst 0, 1) := by decide +kernel
theorem dL_stuck_2 : decode cL_stuck 2 = .ok (.aload_n 0, 1) := by decide +kernel
theorem dL_stuck_3 : decode cL_stuck 3 = .ok (.iload_n 1, 1) := by decide +kernel
theorem dL_stuck_4 : decode cL_stuck 4 = .ok (.iload_n 2, 1) := by decide +kernel
theorem dL_stuck_5 : decode cL_stuck 5 = .ok (.invokevirtual 55, 3) := by decide +kernel
theorem dL_stuck_8 : decode cL_stuck 8 = .ok (.ifCond .eq 7, 3) := by decide +kernel
theorem dL_stuck_11 : decode cL_stuck 11 = .ok (.lconst 1, 1) := by decide +kernel
theorem dL_stuck_12 : decode cL_stuck 12 = .ok (.goto 4, 3) := by decide +kernel
theorem dL_stuck_15 : decode cL_stuck 15 = .ok (.lconst 0, 1) := by decide +kernel
theorem dL_stuck_16 : decode cL_stuck 16 = .ok (.lastore, 1) := by decide +kernel
theorem dL_stuck_17 : decode cL_stuck 17 = .ok (.goto 7, 3) := by decide +kernel
theorem dL_stuck_20 : decode cL_stuck 20 = .ok (.astore 4, 2) := by decide +kernel
theorem dL_stuck_22 : decode cL_stuck 22 = .ok (.iconst 1, 1) := by decide +kernel
theorem dL_stuck_23 : decode cL_stuck 23 = .ok (.ireturn, 1) := by decide +kernel
theorem dL_stuck_24 : decode cL_stuck 24 = .ok (.iconst 0, 1) := by decide +kernel
theorem dL_stuck_25 : decode cL_stuck 25 = .ok (.ireturn, 1) := by decide +kernel
theorem dL_weights_0 : decode cL_weights 0 = .ok (.aload_n 0, 1) := by decide +kernel
theorem dL_weights_1 : decode cL_weights 1 = .ok (.iload_n 1, 1) := by decide +kernel
theorem dL_weights_2 : decode cL_weights 2 = .ok (.iload_n 2, 1) := by decide +kernel
theorem dL_weights_3 : decode cL_weights 3 = .ok (.invokevirtual 59, 3) := by decide +kernel
theorem dL_weights_6 : decode cL_weights 6 = .ok (.goto 6, 3) := by decide +kernel
theorem dL_weights_9 : decode cL_weights 9 = .ok (.astore_n 3, 1) := by decide +kernel
theorem dL_weights_10 : decode cL_weights 10 = .ok (.iconst 1, 1) := by decide +kernel
theorem dL_weights_11 : decode cL_weights 11 = .ok (.ireturn, 1) := by decide +kernel
theorem dL_weights_12 : decode cL_weights 12 = .ok (.iconst 0, 1) := by decide +kernel
theorem dL_weights_13 : decode cL_weights 13 = .ok (.ireturn, 1) := by decide +kernel
theorem dL_push_0 : decode cL_push 0 = .ok (.aload_n 3, 1) := by decide +kernel
theorem dL_push_1 : decode cL_push 1 = .ok (.iconst 0, 1) := by decide +kernel
theorem dL_push_2 : decode cL_push 2 = .ok (.aload_n 0, 1) := by decide +kernel
theorem dL_push_3 : decode cL_push 3 = .ok (.iload_n 1, 1) := by decide +kernel
theorem dL_push_4 : decode cL_push 4 = .ok (.iload_n 2, 1) := by decide +kernel
theorem dL_push_5 : decode cL_push 5 = .ok (.invokevirtual 63, 3) := by decide +kernel
theorem dL_push_8 : decode cL_push 8 = .ok (.i2l, 1) := by decide +kernel
theorem dL_push_9 : decode cL_push 9 = .ok (.lastore, 1) := by decide +kernel
theorem dL_push_10 : decode cL_push 10 = .ok (.goto 7, 3) := by decide +kernel
theorem dL_push_13 : decode cL_push 13 = .ok (.astore 4, 2) := by decide +kernel
theorem dL_push_15 : decode cL_push 15 = .ok (.iconst 1, 1) := by decide +kernel
theorem dL_push_16 : decode cL_push 16 = .ok (.ireturn, 1) := by decide +kernel
theorem dL_push_17 : decode cL_push 17 = .ok (.iconst 0, 1) := by decide +kernel
theorem dL_push_18 : decode cL_push 18 = .ok (.ireturn, 1) := by decide +kernel
theorem dL_turn_0 : decode cL_turn 0 = .ok (.aload_n 3, 1) := by decide +kernel
theorem dL_turn_1 : decode cL_turn 1 = .ok (.iconst 0, 1) := by decide +kernel
theorem dL_turn_2 : decode cL_turn 2 = .ok (.aload_n 0, 1) := by decide +kernel
theorem dL_turn_3 : decode cL_turn 3 = .ok (.iload_n 1, 1) := by decide +kernel
theorem dL_turn_4 : decode cL_turn 4 = .ok (.iload_n 2, 1) := by decide +kernel
theorem dL_turn_5 : decode cL_turn 5 = .ok (.invokevirtual 66, 3) := by decide +kernel
theorem dL_turn_8 : decode cL_turn 8 = .ok (.i2l, 1) := by decide +kernel
theorem dL_turn_9 : decode cL_turn 9 = .ok (.lastore, 1) := by decide +kernel
theorem dL_turn_10 : decode cL_turn 10 = .ok (.goto 7, 3) := by decide +kernel
theorem dL_turn_13 : decode cL_turn 13 = .ok (.astore 4, 2) := by decide +kernel
theorem dL_turn_15 : decode cL_turn 15 = .ok (.iconst 1, 1) := by decide +kernel
theorem dL_turn_16 : decode cL_turn 16 = .ok (.ireturn, 1) := by decide +kernel
theorem dL_turn_17 : decode cL_turn 17 = .ok (.iconst 0, 1) := by decide +kernel
theorem dL_turn_18 : decode cL_turn 18 = .ok (.ireturn, 1) := by decide +kernel
theorem dL_trim_0 : decode cL_trim 0 = .ok (.aload_n 3, 1) := by decide +kernel
theorem dL_trim_1 : decode cL_trim 1 = .ok (.iconst 0, 1) := by decide +kernel
theorem dL_trim_2 : decode cL_trim 2 = .ok (.aload_n 0, 1) := by decide +kernel
theorem dL_trim_3 : decode cL_trim 3 = .ok (.iload_n 1, 1) := by decide +kernel
theorem dL_trim_4 : decode cL_trim 4 = .ok (.iload_n 2, 1) := by decide +kernel
theorem dL_trim_5 : decode cL_trim 5 = .ok (.invokevirtual 69, 3) := by decide +kernel
theorem dL_trim_8 : decode cL_trim 8 = .ok (.i2l, 1) := by decide +kernel
theorem dL_trim_9 : decode cL_trim 9 = .ok (.lastore, 1) := by decide +kernel
theorem dL_trim_10 : decode cL_trim 10 = .ok (.goto 7, 3) := by decide +kernel
theorem dL_trim_13 : decode cL_trim 13 = .ok (.astore 4, 2) := by decide +kernel
theorem dL_trim_15 : decode cL_trim 15 = .ok (.iconst 1, 1) := by decide +kernel
theorem dL_trim_16 : decode cL_trim 16 = .ok (.ireturn, 1) := by decide +kernel
theorem dL_trim_17 : decode cL_trim 17 = .ok (.iconst 0, 1) := by decide +kernel
theorem dL_trim_18 : decode cL_trim 18 = .ok (.ireturn, 1) := by decide +kernel
theorem dL_world_0 : decode cL_world 0 = .ok (.aload 4, 2) := by decide +kernel
theorem dL_world_2 : decode cL_world 2 = .ok (.iconst 0, 1) := by decide +kernel
theorem dL_world_3 : decode cL_world 3 = .ok (.aload_n 0, 1) := by decide +kernel
theorem dL_world_4 : decode cL_world 4 = .ok (.iload_n 1, 1) := by decide +kernel
theorem dL_world_5 : decode cL_world 5 = .ok (.iload_n 2, 1) := by decide +kernel
theorem dL_world_6 : decode cL_world 6 = .ok (.iload_n 3, 1) := by decide +kernel
theorem dL_world_7 : decode cL_world 7 = .ok (.invokevirtual 72, 3) := by decide +kernel
theorem dL_world_10 : decode cL_world 10 = .ok (.i2l, 1) := by decide +kernel
theorem dL_world_11 : decode cL_world 11 = .ok (.lastore, 1) := by decide +kernel
theorem dL_world_12 : decode cL_world 12 = .ok (.goto 7, 3) := by decide +kernel
theorem dL_world_15 : decode cL_world 15 = .ok (.astore 5, 2) := by decide +kernel
theorem dL_world_17 : decode cL_world 17 = .ok (.iconst 1, 1) := by decide +kernel
theorem dL_world_18 : decode cL_world 18 = .ok (.ireturn, 1) := by decide +kernel
theorem dL_world_19 : decode cL_world 19 = .ok (.iconst 0, 1) := by decide +kernel
theorem dL_world_20 : decode cL_world 20 = .ok (.ireturn, 1) := by decide +kernel
theorem dL_angle_0 : decode cL_angle 0 = .ok (.aload_n 3, 1) := by decide +kernel
theorem dL_angle_1 : decode cL_angle 1 = .ok (.iconst 0, 1) := by decide +kernel
theorem dL_angle_2 : decode cL_angle 2 = .ok (.aload_n 0, 1) := by decide +kernel
theorem dL_angle_3 : decode cL_angle 3 = .ok (.iload_n 1, 1) := by decide +kernel
theorem dL_angle_4 : decode cL_angle 4 = .ok (.iload_n 2, 1) := by decide +kernel
theorem dL_angle_5 : decode cL_angle 5 = .ok (.invokevirtual 76, 3) := by decide +kernel
theorem dL_angle_8 : decode cL_angle 8 = .ok (.i2l, 1) := by decide +kernel
theorem dL_angle_9 : decode cL_angle 9 = .ok (.lastore, 1) := by decide +kernel
theorem dL_angle_10 : decode cL_angle 10 = .ok (.goto 11, 3) := by decide +kernel
theorem dL_angle_13 : decode cL_angle 13 = .ok (.astore 4, 2) := by decide +kernel
theorem dL_angle_15 : decode cL_angle 15 = .ok (.iconst 1, 1) := by decide +kernel
theorem dL_angle_16 : decode cL_angle 16 = .ok (.ireturn, 1) := by decide +kernel
theorem dL_angle_17 : decode cL_angle 17 = .ok (.astore 4, 2) := by decide +kernel
theorem dL_angle_19 : decode cL_angle 19 = .ok (.iconst 2, 1) := by decide +kernel
theorem dL_angle_20 : decode cL_angle 20 = .ok (.ireturn, 1) := by decide +kernel
theorem dL_angle_21 : decode cL_angle 21 = .ok (.iconst 0, 1) := by decide +kernel
theorem dL_angle_22 : decode cL_angle 22 = .ok (.ireturn, 1) := by decide +kernel
theorem dL_least_0 : decode cL_least 0 = .ok (.aload_n 3, 1) := by decide +kernel
theorem dL_least_1 : decode cL_least 1 = .ok (.iconst 0, 1) := by decide +kernel
theorem dL_least_2 : decode cL_least 2 = .ok (.aload_n 0, 1) := by decide +kernel
theorem dL_least_3 : decode cL_least 3 = .ok (.iload_n 1, 1) := by decide +kernel
theorem dL_least_4 : decode cL_least 4 = .ok (.iload_n 2, 1) := by decide +kernel
theorem dL_least_5 : decode cL_least 5 = .ok (.invokevirtual 79, 3) := by decide +kernel
theorem dL_least_8 : decode cL_least 8 = .ok (.i2l, 1) := by decide +kernel
theorem dL_least_9 : decode cL_least 9 = .ok (.lastore, 1) := by decide +kernel
theorem dL_least_10 : decode cL_least 10 = .ok (.goto 11, 3) := by decide +kernel
theorem dL_least_13 : decode cL_least 13 = .ok (.astore 4, 2) := by decide +kernel
theorem dL_least_15 : decode cL_least 15 = .ok (.iconst 1, 1) := by decide +kernel
theorem dL_least_16 : decode cL_least 16 = .ok (.ireturn, 1) := by decide +kernel
theorem dL_least_17 : decode cL_least 17 = .ok (.astore 4, 2) := by decide +kernel
theorem dL_least_19 : decode cL_least 19 = .ok (.iconst 2, 1) := by decide +kernel
theorem dL_least_20 : decode cL_least 20 = .ok (.ireturn, 1) := by decide +kernel
theorem dL_least_21 : decode cL_least 21 = .ok (.iconst 0, 1) := by decide +kernel
theorem dL_least_22 : decode cL_least 22 = .ok (.ireturn, 1) := by decide +kernel
theorem dL_goal_0 : decode cL_goal 0 = .ok (.aload_n 2, 1) := by decide +kernel
theorem dL_goal_1 : decode cL_goal 1 = .ok (.iconst 0, 1) := by decide +kernel
theorem dL_goal_2 : decode cL_goal 2 = .ok (.aload_n 0, 1) := by decide +kernel
theorem dL_goal_3 : decode cL_goal 3 = .ok (.iload_n 1, 1) := by decide +kernel
theorem dL_goal_4 : decode cL_goal 4 = .ok (.invokevirtual 82, 3) := by decide +kernel
theorem dL_goal_7 : decode cL_goal 7 = .ok (.i2l, 1) := by decide +kernel
theorem dL_goal_8 : decode cL_goal 8 = .ok (.lastore, 1) := by decide +kernel
theorem dL_goal_9 : decode cL_goal 9 = .ok (.goto 6, 3) := by decide +kernel
theorem dL_goal_12 : decode cL_goal 12 = .ok (.astore_n 3, 1) := by decide +kernel
theorem dL_goal_13 : decode cL_goal 13 = .ok (.iconst 1, 1) := by decide +kernel
theorem dL_goal_14 : decode cL_goal 14 = .ok (.ireturn, 1) := by decide +kernel
theorem dL_goal_15 : decode cL_goal 15 = .ok (.iconst 0, 1) := by decide +kernel
theorem dL_goal_16 : decode cL_goal 16 = .ok (.ireturn, 1) := by decide +kernel
theorem dL_rules_0 : decode cL_rules 0 = .ok (.aload_n 2, 1) := by decide +kernel
theorem dL_rules_1 : decode cL_rules 1 = .ok (.iconst 0, 1) := by decide +kernel
theorem dL_rules_2 : decode cL_rules 2 = .ok (.aload_n 0, 1) := by decide +kernel
theorem dL_rules_3 : decode cL_rules 3 = .ok (.iload_n 1, 1) := by decide +kernel
theorem dL_rules_4 : decode cL_rules 4 = .ok (.invokevirtual 85, 3) := by decide +kernel
theorem dL_rules_7 : decode cL_rules 7 = .ok (.i2l, 1) := by decide +kernel
theorem dL_rules_8 : decode cL_rules 8 = .ok (.lastore, 1) := by decide +kernel
theorem dL_rules_9 : decode cL_rules 9 = .ok (.goto 6, 3) := by decide +kernel
theorem dL_rules_12 : decode cL_rules 12 = .ok (.astore_n 3, 1) := by decide +kernel
theorem dL_rules_13 : decode cL_rules 13 = .ok (.iconst 1, 1) := by decide +kernel
theorem dL_rules_14 : decode cL_rules 14 = .ok (.ireturn, 1) := by decide +kernel
theorem dL_rules_15 : decode cL_rules 15 = .ok (.iconst 0, 1) := by decide +kernel
theorem dL_rules_16 : decode cL_rules 16 = .ok (.ireturn, 1) := by decide +kernel
theorem dL_dust_0 : decode cL_dust 0 = .ok (.aload_n 3, 1) := by decide +kernel
theorem dL_dust_1 : decode cL_dust 1 = .ok (.iconst 0, 1) := by decide +kernel
theorem dL_dust_2 : decode cL_dust 2 = .ok (.aload_n 0, 1) := by decide +kernel
theorem dL_dust_3 : decode cL_dust 3 = .ok (.iload_n 1, 1) := by decide +kernel
theorem dL_dust_4 : decode cL_dust 4 = .ok (.iload_n 2, 1) := by decide +kernel
theorem dL_dust_5 : decode cL_dust 5 = .ok (.invokevirtual 88, 3) := by decide +kernel
theorem dL_dust_8 : decode cL_dust 8 = .ok (.i2l, 1) := by decide +kernel
theorem dL_dust_9 : decode cL_dust 9 = .ok (.lastore, 1) := by decide +kernel
theorem dL_dust_10 : decode cL_dust 10 = .ok (.goto 11, 3) := by decide +kernel
theorem dL_dust_13 : decode cL_dust 13 = .ok (.astore 4, 2) := by decide +kernel
theorem dL_dust_15 : decode cL_dust 15 = .ok (.iconst 1, 1) := by decide +kernel
theorem dL_dust_16 : decode cL_dust 16 = .ok (.ireturn, 1) := by decide +kernel
theorem dL_dust_17 : decode cL_dust 17 = .ok (.astore 4, 2) := by decide +kernel
theorem dL_dust_19 : decode cL_dust 19 = .ok (.iconst 2, 1) := by decide +kernel
theorem dL_dust_20 : decode cL_dust 20 = .ok (.ireturn, 1) := by decide +kernel
theorem dL_dust_21 : decode cL_dust 21 = .ok (.iconst 0, 1) := by decide +kernel
theorem dL_dust_22 : decode cL_dust 22 = .ok (.ireturn, 1) := by decide +kernel
theorem dL_fly_0 : decode cL_fly 0 = .ok (.aload_n 2, 1) := by decide +kernel
theorem dL_fly_1 : decode cL_fly 1 = .ok (.iconst 0, 1) := by decide +kernel
theorem dL_fly_2 : decode cL_fly 2 = .ok (.aload_n 0, 1) := by decide +kernel
theorem dL_fly_3 : decode cL_fly 3 = .ok (.iload_n 1, 1) := by decide +kernel
theorem dL_fly_4 : decode cL_fly 4 = .ok (.invokevirtual 91, 3) := by decide +kernel
theorem dL_fly_7 : decode cL_fly 7 = .ok (.i2l, 1) := by decide +kernel
theorem dL_fly_8 : decode cL_fly 8 = .ok (.lastore, 1) := by decide +kernel
theorem dL_fly_9 : decode cL_fly 9 = .ok (.goto 9, 3) := by decide +kernel
theorem dL_fly_12 : decode cL_fly 12 = .ok (.astore_n 3, 1) := by decide +kernel
theorem dL_fly_13 : decode cL_fly 13 = .ok (.iconst 1, 1) := by decide +kernel
theorem dL_fly_14 : decode cL_fly 14 = .ok (.ireturn, 1) := by decide +kernel
theorem dL_fly_15 : decode cL_fly 15 = .ok (.astore_n 3, 1) := by decide +kernel
theorem dL_fly_16 : decode cL_fly 16 = .ok (.iconst 2, 1) := by decide +kernel
theorem dL_fly_17 : decode cL_fly 17 = .ok (.ireturn, 1) := by decide +kernel
theorem dL_fly_18 : decode cL_fly 18 = .ok (.iconst 0, 1) := by decide +kernel
theorem dL_fly_19 : decode cL_fly 19 = .ok (.ireturn, 1) := by decide +kernel
theorem dL_note_0 : decode cL_note 0 = .ok (.aload_n 3, 1) := by decide +kernel
theorem dL_note_1 : decode cL_note 1 = .ok (.iconst 0, 1) := by decide +kernel
theorem dL_note_2 : decode cL_note 2 = .ok (.aload_n 0, 1) := by decide +kernel
theorem dL_note_3 : decode cL_note 3 = .ok (.iload_n 1, 1) := by decide +kernel
theorem dL_note_4 : decode cL_note 4 = .ok (.iload_n 2, 1) := by decide +kernel
theorem dL_note_5 : decode cL_note 5 = .ok (.invokevirtual 94, 3) := by decide +kernel
theorem dL_note_8 : decode cL_note 8 = .ok (.i2l, 1) := by decide +kernel
theorem dL_note_9 : decode cL_note 9 = .ok (.lastore, 1) := by decide +kernel
theorem dL_note_10 : decode cL_note 10 = .ok (.goto 7, 3) := by decide +kernel
theorem dL_note_13 : decode cL_note 13 = .ok (.astore 4, 2) := by decide +kernel
theorem dL_note_15 : decode cL_note 15 = .ok (.iconst 1, 1) := by decide +kernel
theorem dL_note_16 : decode cL_note 16 = .ok (.ireturn, 1) := by decide +kernel
theorem dL_note_17 : decode cL_note 17 = .ok (.iconst 0, 1) := by decide +kernel
theorem dL_note_18 : decode cL_note 18 = .ok (.ireturn, 1) := by decide +kernel
theorem dL_coat_0 : decode cL_coat 0 = .ok (.aload_n 3, 1) := by decide +kernel
theorem dL_coat_1 : decode cL_coat 1 = .ok (.iconst 0, 1) := by decide +kernel
theorem dL_coat_2 : decode cL_coat 2 = .ok (.aload_n 0, 1) := by decide +kernel
theorem dL_coat_3 : decode cL_coat 3 = .ok (.iload_n 1, 1) := by decide +kernel
theorem dL_coat_4 : decode cL_coat 4 = .ok (.iload_n 2, 1) := by decide +kernel
theorem dL_coat_5 : decode cL_coat 5 = .ok (.invokevirtual 97, 3) := by decide +kernel
theorem dL_coat_8 : decode cL_coat 8 = .ok (.i2l, 1) := by decide +kernel
theorem dL_coat_9 : decode cL_coat 9 = .ok (.lastore, 1) := by decide +kernel
theorem dL_coat_10 : decode cL_coat 10 = .ok (.goto 7, 3) := by decide +kernel
theorem dL_coat_13 : decode cL_coat 13 = .ok (.astore 4, 2) := by decide +kernel
theorem dL_coat_15 : decode cL_coat 15 = .ok (.iconst 1, 1) := by decide +kernel
theorem dL_coat_16 : decode cL_coat 16 = .ok (.ireturn, 1) := by decide +kernel
theorem dL_coat_17 : decode cL_coat 17 = .ok (.iconst 0, 1) := by decide +kernel
theorem dL_coat_18 : decode cL_coat 18 = .ok (.ireturn, 1) := by decide +kernel
theorem dL_sight_0 : decode cL_sight 0 = .ok (.aload 4, 2) := by decide +kernel
theorem dL_sight_2 : decode cL_sight 2 = .ok (.iconst 0, 1) := by decide +kernel
theorem dL_sight_3 : decode cL_sight 3 = .ok (.aload_n 0, 1) := by decide +kernel
theorem dL_sight_4 : decode cL_sight 4 = .ok (.iload_n 1, 1) := by decide +kernel
theorem dL_sight_5 : decode cL_sight 5 = .ok (.iload_n 2, 1) := by decide +kernel
theorem dL_sight_6 : decode cL_sight 6 = .ok (.iload_n 3, 1) := by decide +kernel
theorem dL_sight_7 : decode cL_sight 7 = .ok (.invokevirtual 100, 3) := by decide +kernel
theorem dL_sight_10 : decode cL_sight 10 = .ok (.i2l, 1) := by decide +kernel
theorem dL_sight_11 : decode cL_sight 11 = .ok (.lastore, 1) := by decide +kernel
theorem dL_sight_12 : decode cL_sight 12 = .ok (.goto 7, 3) := by decide +kernel
theorem dL_sight_15 : decode cL_sight 15 = .ok (.astore 5, 2) := by decide +kernel
theorem dL_sight_17 : decode cL_sight 17 = .ok (.iconst 1, 1) := by decide +kernel
theorem dL_sight_18 : decode cL_sight 18 = .ok (.ireturn, 1) := by decide +kernel
theorem dL_sight_19 : decode cL_sight 19 = .ok (.iconst 0, 1) := by decide +kernel
theorem dL_sight_20 : decode cL_sight 20 = .ok (.ireturn, 1) := by decide +kernel
theorem dL_fits_0 : decode cL_fits 0 = .ok (.aload_n 2, 1) := by decide +kernel
theorem dL_fits_1 : decode cL_fits 1 = .ok (.iconst 0, 1) := by decide +kernel
theorem dL_fits_2 : decode cL_fits 2 = .ok (.aload_n 0, 1) := by decide +kernel
theorem dL_fits_3 : decode cL_fits 3 = .ok (.iload_n 1, 1) := by decide +kernel
theorem dL_fits_4 : decode cL_fits 4 = .ok (.invokevirtual 103, 3) := by decide +kernel
theorem dL_fits_7 : decode cL_fits 7 = .ok (.i2l, 1) := by decide +kernel
theorem dL_fits_8 : decode cL_fits 8 = .ok (.lastore, 1) := by decide +kernel
theorem dL_fits_9 : decode cL_fits 9 = .ok (.goto 6, 3) := by decide +kernel
theorem dL_fits_12 : decode cL_fits 12 = .ok (.astore_n 3, 1) := by decide +kernel
theorem dL_fits_13 : decode cL_fits 13 = .ok (.iconst 1, 1) := by decide +kernel
theorem dL_fits_14 : decode cL_fits 14 = .ok (.ireturn, 1) := by decide +kernel
theorem dL_fits_15 : decode cL_fits 15 = .ok (.iconst 0, 1) := by decide +kernel
theorem dL_fits_16 : decode cL_fits 16 = .ok (.ireturn, 1) := by decide +kernel
theorem dL_fit_0 : decode cL_fit 0 = .ok (.aload_n 3, 1) := by decide +kernel
theorem dL_fit_1 : decode cL_fit 1 = .ok (.iconst 0, 1) := by decide +kernel
theorem dL_fit_2 : decode cL_fit 2 = .ok (.aload_n 0, 1) := by decide +kernel
theorem dL_fit_3 : decode cL_fit 3 = .ok (.iload_n 1, 1) := by decide +kernel
theorem dL_fit_4 : decode cL_fit 4 = .ok (.iload_n 2, 1) := by decide +kernel
theorem dL_fit_5 : decode cL_fit 5 = .ok (.invokevirtual 106, 3) := by decide +kernel
theorem dL_fit_8 : decode cL_fit 8 = .ok (.i2l, 1) := by decide +kernel
theorem dL_fit_9 : decode cL_fit 9 = .ok (.lastore, 1) := by decide +kernel
theorem dL_fit_10 : decode cL_fit 10 = .ok (.goto 7, 3) := by decide +kernel
theorem dL_fit_13 : decode cL_fit 13 = .ok (.astore 4, 2) := by decide +kernel
theorem dL_fit_15 : decode cL_fit 15 = .ok (.iconst 1, 1) := by decide +kernel
theorem dL_fit_16 : decode cL_fit 16 = .ok (.ireturn, 1) := by decide +kernel
theorem dL_fit_17 : decode cL_fit 17 = .ok (.iconst 0, 1) := by decide +kernel
theorem dL_fit_18 : decode cL_fit 18 = .ok (.ireturn, 1) := by decide +kernel
theorem dL_shows_0 : decode cL_shows 0 = .ok (.aload_n 2, 1) := by decide +kernel
theorem dL_shows_1 : decode cL_shows 1 = .ok (.iconst 0, 1) := by decide +kernel
theorem dL_shows_2 : decode cL_shows 2 = .ok (.aload_n 0, 1) := by decide +kernel
theorem dL_shows_3 : decode cL_shows 3 = .ok (.iload_n 1, 1) := by decide +kernel
theorem dL_shows_4 : decode cL_shows 4 = .ok (.invokevirtual 109, 3) := by decide +kernel
theorem dL_shows_7 : decode cL_shows 7 = .ok (.i2l, 1) := by decide +kernel
theorem dL_shows_8 : decode cL_shows 8 = .ok (.lastore, 1) := by decide +kernel
theorem dL_shows_9 : decode cL_shows 9 = .ok (.goto 6, 3) := by decide +kernel
theorem dL_shows_12 : decode cL_shows 12 = .ok (.astore_n 3, 1) := by decide +kernel
theorem dL_shows_13 : decode cL_shows 13 = .ok (.iconst 1, 1) := by decide +kernel
theorem dL_shows_14 : decode cL_shows 14 = .ok (.ireturn, 1) := by decide +kernel
theorem dL_shows_15 : decode cL_shows 15 = .ok (.iconst 0, 1) := by decide +kernel
theorem dL_shows_16 : decode cL_shows 16 = .ok (.ireturn, 1) := by decide +kernel
theorem dL_knot_0 : decode cL_knot 0 = .ok (.aload 4, 2) := by decide +kernel
theorem dL_knot_2 : decode cL_knot 2 = .ok (.iconst 0, 1) := by decide +kernel
theorem dL_knot_3 : decode cL_knot 3 = .ok (.aload_n 0, 1) := by decide +kernel
theorem dL_knot_4 : decode cL_knot 4 = .ok (.iload_n 1, 1) := by decide +kernel
theorem dL_knot_5 : decode cL_knot 5 = .ok (.iload_n 2, 1) := by decide +kernel
theorem dL_knot_6 : decode cL_knot 6 = .ok (.iload_n 3, 1) := by decide +kernel
theorem dL_knot_7 : decode cL_knot 7 = .ok (.invokevirtual 112, 3) := by decide +kernel
theorem dL_knot_10 : decode cL_knot 10 = .ok (.i2l, 1) := by decide +kernel
theorem dL_knot_11 : decode cL_knot 11 = .ok (.lastore, 1) := by decide +kernel
theorem dL_knot_12 : decode cL_knot 12 = .ok (.goto 7, 3) := by decide +kernel
theorem dL_knot_15 : decode cL_knot 15 = .ok (.astore 5, 2) := by decide +kernel
theorem dL_knot_17 : decode cL_knot 17 = .ok (.iconst 1, 1) := by decide +kernel
theorem dL_knot_18 : decode cL_knot 18 = .ok (.ireturn, 1) := by decide +kernel
theorem dL_knot_19 : decode cL_knot 19 = .ok (.iconst 0, 1) := by decide +kernel
theorem dL_knot_20 : decode cL_knot 20 = .ok (.ireturn, 1) := by decide +kernel
theorem dL_pull_0 : decode cL_pull 0 = .ok (.aload_n 0, 1) := by decide +kernel
theorem dL_pull_1 : decode cL_pull 1 = .ok (.iload_n 1, 1) := by decide +kernel
theorem dL_pull_2 : decode cL_pull 2 = .ok (.iload_n 2, 1) := by decide +kernel
theorem dL_pull_3 : decode cL_pull 3 = .ok (.iload_n 3, 1) := by decide +kernel
theorem dL_pull_4 : decode cL_pull 4 = .ok (.invokevirtual 116, 3) := by decide +kernel
theorem dL_pull_7 : decode cL_pull 7 = .ok (.goto 11, 3) := by decide +kernel
theorem dL_pull_10 : decode cL_pull 10 = .ok (.astore 4, 2) := by decide +kernel
theorem dL_pull_12 : decode cL_pull 12 = .ok (.iconst 1, 1) := by decide +kernel
theorem dL_pull_13 : decode cL_pull 13 = .ok (.ireturn, 1) := by decide +kernel
theorem dL_pull_14 : decode cL_pull 14 = .ok (.astore 4, 2) := by decide +kernel
theorem dL_pull_16 : decode cL_pull 16 = .ok (.iconst 2, 1) := by decide +kernel
theorem dL_pull_17 : decode cL_pull 17 = .ok (.ireturn, 1) := by decide +kernel
theorem dL_pull_18 : decode cL_pull 18 = .ok (.iconst 0, 1) := by decide +kernel
theorem dL_pull_19 : decode cL_pull 19 = .ok (.ireturn, 1) := by decide +kernel
theorem dL_string_0 : decode cL_string 0 = .ok (.aload_n 3, 1) := by decide +kernel
theorem dL_string_1 : decode cL_string 1 = .ok (.iconst 0, 1) := by decide +kernel
theorem dL_string_2 : decode cL_string 2 = .ok (.aload_n 0, 1) := by decide +kernel
theorem dL_string_3 : decode cL_string 3 = .ok (.iload_n 1, 1) := by decide +kernel
theorem dL_string_4 : decode cL_string 4 = .ok (.iload_n 2, 1) := by decide +kernel
theorem dL_string_5 : decode cL_string 5 = .ok (.invokevirtual 120, 3) := by decide +kernel
theorem dL_string_8 : decode cL_string 8 = .ok (.i2l, 1) := by decide +kernel
theorem dL_string_9 : decode cL_string 9 = .ok (.lastore, 1) := by decide +kernel
theorem dL_string_10 : decode cL_string 10 = .ok (.goto 11, 3) := by decide +kernel
theorem dL_string_13 : decode cL_string 13 = .ok (.astore 4, 2) := by decide +kernel
theorem dL_string_15 : decode cL_string 15 = .ok (.iconst 1, 1) := by decide +kernel
theorem dL_string_16 : decode cL_string 16 = .ok (.ireturn, 1) := by decide +kernel
theorem dL_string_17 : decode cL_string 17 = .ok (.astore 4, 2) := by decide +kernel
theorem dL_string_19 : decode cL_string 19 = .ok (.iconst 2, 1) := by decide +kernel
theorem dL_string_20 : decode cL_string 20 = .ok (.ireturn, 1) := by decide +kernel
theorem dL_string_21 : decode cL_string 21 = .ok (.iconst 0, 1) := by decide +kernel
theorem dL_string_22 : decode cL_string 22 = .ok (.ireturn, 1) := by decide +kernel
theorem dL_slack_0 : decode cL_slack 0 = .ok (.aload_n 2, 1) := by decide +kernel
theorem dL_slack_1 : decode cL_slack 1 = .ok (.iconst 0, 1) := by decide +kernel
theorem dL_slack_2 : decode cL_slack 2 = .ok (.aload_n 0, 1) := by decide +kernel
theorem dL_slack_3 : decode cL_slack 3 = .ok (.iload_n 1, 1) := by decide +kernel
theorem dL_slack_4 : decode cL_slack 4 = .ok (.invokevirtual 123, 3) := by decide +kernel
theorem dL_slack_7 : decode cL_slack 7 = .ok (.ifCond .eq 7, 3) := by decide +kernel
theorem dL_slack_10 : decode cL_slack 10 = .ok (.lconst 1, 1) := by decide +kernel
theorem dL_slack_11 : decode cL_slack 11 = .ok (.goto 4, 3) := by decide +kernel
theorem dL_slack_14 : decode cL_slack 14 = .ok (.lconst 0, 1) := by decide +kernel
theorem dL_slack_15 : decode cL_slack 15 = .ok (.lastore, 1) := by decide +kernel
theorem dL_slack_16 : decode cL_slack 16 = .ok (.goto 6, 3) := by decide +kernel
theorem dL_slack_19 : decode cL_slack 19 = .ok (.astore_n 3, 1) := by decide +kernel
theorem dL_slack_20 : decode cL_slack 20 = .ok (.iconst 1, 1) := by decide +kernel
theorem dL_slack_21 : decode cL_slack 21 = .ok (.ireturn, 1) := by decide +kernel
theorem dL_slack_22 : decode cL_slack 22 = .ok (.iconst 0, 1) := by decide +kernel
theorem dL_slack_23 : decode cL_slack 23 = .ok (.ireturn, 1) := by decide +kernel
theorem dL_taut_0 : decode cL_taut 0 = .ok (.aload_n 2, 1) := by decide +kernel
theorem dL_taut_1 : decode cL_taut 1 = .ok (.iconst 0, 1) := by decide +kernel
theorem dL_taut_2 : decode cL_taut 2 = .ok (.aload_n 0, 1) := by decide +kernel
theorem dL_taut_3 : decode cL_taut 3 = .ok (.iload_n 1, 1) := by decide +kernel
theorem dL_taut_4 : decode cL_taut 4 = .ok (.invokevirtual 126, 3) := by decide +kernel
theorem dL_taut_7 : decode cL_taut 7 = .ok (.ifCond .eq 7, 3) := by decide +kernel
theorem dL_taut_10 : decode cL_taut 10 = .ok (.lconst 1, 1) := by decide +kernel
theorem dL_taut_11 : decode cL_taut 11 = .ok (.goto 4, 3) := by decide +kernel
theorem dL_taut_14 : decode cL_taut 14 = .ok (.lconst 0, 1) := by decide +kernel
theorem dL_taut_15 : decode cL_taut 15 = .ok (.lastore, 1) := by decide +kernel
theorem dL_taut_16 : decode cL_taut 16 = .ok (.goto 6, 3) := by decide +kernel
theorem dL_taut_19 : decode cL_taut 19 = .ok (.astore_n 3, 1) := by decide +kernel
theorem dL_taut_20 : decode cL_taut 20 = .ok (.iconst 1, 1) := by decide +kernel
theorem dL_taut_21 : decode cL_taut 21 = .ok (.ireturn, 1) := by decide +kernel
theorem dL_taut_22 : decode cL_taut 22 = .ok (.iconst 0, 1) := by decide +kernel
theorem dL_taut_23 : decode cL_taut 23 = .ok (.ireturn, 1) := by decide +kernel
theorem dL_ease_0 : decode cL_ease 0 = .ok (.aload_n 2, 1) := by decide +kernel
theorem dL_ease_1 : decode cL_ease 1 = .ok (.iconst 0, 1) := by decide +kernel
theorem dL_ease_2 : decode cL_ease 2 = .ok (.aload_n 0, 1) := by decide +kernel
theorem dL_ease_3 : decode cL_ease 3 = .ok (.iload_n 1, 1) := by decide +kernel
theorem dL_ease_4 : decode cL_ease 4 = .ok (.invokevirtual 129, 3) := by decide +kernel
theorem dL_ease_7 : decode cL_ease 7 = .ok (.lastore, 1) := by decide +kernel
theorem dL_ease_8 : decode cL_ease 8 = .ok (.goto 6, 3) := by decide +kernel
theorem dL_ease_11 : decode cL_ease 11 = .ok (.astore_n 3, 1) := by decide +kernel
theorem dL_ease_12 : decode cL_ease 12 = .ok (.iconst 1, 1) := by decide +kernel
theorem dL_ease_13 : decode cL_ease 13 = .ok (.ireturn, 1) := by decide +kernel
theorem dL_ease_14 : decode cL_ease 14 = .ok (.iconst 0, 1) := by decide +kernel
theorem dL_ease_15 : decode cL_ease 15 = .ok (.ireturn, 1) := by decide +kernel
theorem dL_offer_0 : decode cL_offer 0 = .ok (.aload 5, 2) := by decide +kernel
theorem dL_offer_2 : decode cL_offer 2 = .ok (.iconst 0, 1) := by decide +kernel
theorem dL_offer_3 : decode cL_offer 3 = .ok (.aload_n 0, 1) := by decide +kernel
theorem dL_offer_4 : decode cL_offer 4 = .ok (.iload_n 1, 1) := by decide +kernel
theorem dL_offer_5 : decode cL_offer 5 = .ok (.iload_n 2, 1) := by decide +kernel
theorem dL_offer_6 : decode cL_offer 6 = .ok (.iload_n 3, 1) := by decide +kernel
theorem dL_offer_7 : decode cL_offer 7 = .ok (.iload 4, 2) := by decide +kernel
theorem dL_offer_9 : decode cL_offer 9 = .ok (.invokevirtual 133, 3) := by decide +kernel
theorem dL_offer_12 : decode cL_offer 12 = .ok (.i2l, 1) := by decide +kernel
theorem dL_offer_13 : decode cL_offer 13 = .ok (.lastore, 1) := by decide +kernel
theorem dL_offer_14 : decode cL_offer 14 = .ok (.goto 7, 3) := by decide +kernel
theorem dL_offer_17 : decode cL_offer 17 = .ok (.astore 6, 2) := by decide +kernel
theorem dL_offer_19 : decode cL_offer 19 = .ok (.iconst 1, 1) := by decide +kernel
theorem dL_offer_20 : decode cL_offer 20 = .ok (.ireturn, 1) := by decide +kernel
theorem dL_offer_21 : decode cL_offer 21 = .ok (.iconst 0, 1) := by decide +kernel
theorem dL_offer_22 : decode cL_offer 22 = .ok (.ireturn, 1) := by decide +kernel
theorem dL_sheet_0 : decode cL_sheet 0 = .ok (.aload 4, 2) := by decide +kernel
theorem dL_sheet_2 : decode cL_sheet 2 = .ok (.iconst 0, 1) := by decide +kernel
theorem dL_sheet_3 : decode cL_sheet 3 = .ok (.aload_n 0, 1) := by decide +kernel
theorem dL_sheet_4 : decode cL_sheet 4 = .ok (.iload_n 1, 1) := by decide +kernel
theorem dL_sheet_5 : decode cL_sheet 5 = .ok (.iload_n 2, 1) := by decide +kernel
theorem dL_sheet_6 : decode cL_sheet 6 = .ok (.iload_n 3, 1) := by decide +kernel
theorem dL_sheet_7 : decode cL_sheet 7 = .ok (.invokevirtual 137, 3) := by decide +kernel
theorem dL_sheet_10 : decode cL_sheet 10 = .ok (.i2l, 1) := by decide +kernel
theorem dL_sheet_11 : decode cL_sheet 11 = .ok (.lastore, 1) := by decide +kernel
theorem dL_sheet_12 : decode cL_sheet 12 = .ok (.goto 7, 3) := by decide +kernel
theorem dL_sheet_15 : decode cL_sheet 15 = .ok (.astore 5, 2) := by decide +kernel
theorem dL_sheet_17 : decode cL_sheet 17 = .ok (.iconst 1, 1) := by decide +kernel
theorem dL_sheet_18 : decode cL_sheet 18 = .ok (.ireturn, 1) := by decide +kernel
theorem dL_sheet_19 : decode cL_sheet 19 = .ok (.iconst 0, 1) := by decide +kernel
theorem dL_sheet_20 : decode cL_sheet 20 = .ok (.ireturn, 1) := by decide +kernel
theorem dL_late_0 : decode cL_late 0 = .ok (.aload_n 3, 1) := by decide +kernel
theorem dL_late_1 : decode cL_late 1 = .ok (.iconst 0, 1) := by decide +kernel
theorem dL_late_2 : decode cL_late 2 = .ok (.aload_n 0, 1) := by decide +kernel
theorem dL_late_3 : decode cL_late 3 = .ok (.iload_n 1, 1) := by decide +kernel
theorem dL_late_4 : decode cL_late 4 = .ok (.iload_n 2, 1) := by decide +kernel
theorem dL_late_5 : decode cL_late 5 = .ok (.invokevirtual 140, 3) := by decide +kernel
theorem dL_late_8 : decode cL_late 8 = .ok (.i2l, 1) := by decide +kernel
theorem dL_late_9 : decode cL_late 9 = .ok (.lastore, 1) := by decide +kernel
theorem dL_late_10 : decode cL_late 10 = .ok (.goto 11, 3) := by decide +kernel
theorem dL_late_13 : decode cL_late 13 = .ok (.astore 4, 2) := by decide +kernel
theorem dL_late_15 : decode cL_late 15 = .ok (.iconst 1, 1) := by decide +kernel
theorem dL_late_16 : decode cL_late 16 = .ok (.ireturn, 1) := by decide +kernel
theorem dL_late_17 : decode cL_late 17 = .ok (.astore 4, 2) := by decide +kernel
theorem dL_late_19 : decode cL_late 19 = .ok (.iconst 2, 1) := by decide +kernel
theorem dL_late_20 : decode cL_late 20 = .ok (.ireturn, 1) := by decide +kernel
theorem dL_late_21 : decode cL_late 21 = .ok (.iconst 0, 1) := by decide +kernel
theorem dL_late_22 : decode cL_late 22 = .ok (.ireturn, 1) := by decide +kernel
theorem dL_window_0 : decode cL_window 0 = .ok (.aload_n 2, 1) := by decide +kernel
theorem dL_window_1 : decode cL_window 1 = .ok (.iconst 0, 1) := by decide +kernel
theorem dL_window_2 : decode cL_window 2 = .ok (.aload_n 0, 1) := by decide +kernel
theorem dL_window_3 : decode cL_window 3 = .ok (.iload_n 1, 1) := by decide +kernel
theorem dL_window_4 : decode cL_window 4 = .ok (.invokevirtual 143, 3) := by decide +kernel
theorem dL_window_7 : decode cL_window 7 = .ok (.i2l, 1) := by decide +kernel
theorem dL_window_8 : decode cL_window 8 = .ok (.lastore, 1) := by decide +kernel
theorem dL_window_9 : decode cL_window 9 = .ok (.goto 6, 3) := by decide +kernel
theorem dL_window_12 : decode cL_window 12 = .ok (.astore_n 3, 1) := by decide +kernel
theorem dL_window_13 : decode cL_window 13 = .ok (.iconst 1, 1) := by decide +kernel
theorem dL_window_14 : decode cL_window 14 = .ok (.ireturn, 1) := by decide +kernel
theorem dL_window_15 : decode cL_window 15 = .ok (.iconst 0, 1) := by decide +kernel
theorem dL_window_16 : decode cL_window 16 = .ok (.ireturn, 1) := by decide +kernel
theorem dL_law_0 : decode cL_law 0 = .ok (.new 8, 3) := by decide +kernel
theorem dL_law_3 : decode cL_law 3 = .ok (.dup, 1) := by decide +kernel
theorem dL_law_4 : decode cL_law 4 = .ok (.invokespecial 146, 3) := by decide +kernel
theorem dL_law_7 : decode cL_law 7 = .ok (.astore_n 1, 1) := by decide +kernel
theorem dL_law_8 : decode cL_law 8 = .ok (.new 147, 3) := by decide +kernel
theorem dL_law_11 : decode cL_law 11 = .ok (.dup, 1) := by decide +kernel
theorem dL_law_12 : decode cL_law 12 = .ok (.invokespecial 149, 3) := by decide +kernel
theorem dL_law_15 : decode cL_law 15 = .ok (.astore_n 2, 1) := by decide +kernel
theorem dL_law_16 : decode cL_law 16 = .ok (.iconst 1, 1) := by decide +kernel
theorem dL_law_17 : decode cL_law 17 = .ok (.newarray .long, 2) := by decide +kernel
theorem dL_law_19 : decode cL_law 19 = .ok (.astore_n 3, 1) := by decide +kernel
theorem dL_law_20 : decode cL_law 20 = .ok (.iconst 0, 1) := by decide +kernel
theorem dL_law_21 : decode cL_law 21 = .ok (.istore 4, 2) := by decide +kernel
theorem dL_law_23 : decode cL_law 23 = .ok (.iload 4, 2) := by decide +kernel
theorem dL_law_25 : decode cL_law 25 = .ok (.aload_n 0, 1) := by decide +kernel
theorem dL_law_26 : decode cL_law 26 = .ok (.arraylength, 1) := by decide +kernel
theorem dL_law_27 : decode cL_law 27 = .ok (.bipush 6, 2) := by decide +kernel
theorem dL_law_29 : decode cL_law 29 = .ok (.isub, 1) := by decide +kernel
theorem dL_law_30 : decode cL_law 30 = .ok (.if_icmp .gt 2992, 3) := by decide +kernel
theorem dL_law_33 : decode cL_law 33 = .ok (.aload_n 0, 1) := by decide +kernel
theorem dL_law_34 : decode cL_law 34 = .ok (.iload 4, 2) := by decide +kernel
theorem dL_law_36 : decode cL_law 36 = .ok (.iaload, 1) := by decide +kernel
theorem dL_law_37 : decode cL_law 37 = .ok (.bipush 63, 2) := by decide +kernel
theorem dL_law_39 : decode cL_law 39 = .ok (.iand, 1) := by decide +kernel
theorem dL_law_40 : decode cL_law 40 = .ok (.tableswitch 2976 0 45 #[200, 268, 293, 356, 419, 475, 519, 575, 679, 747, 810, 866, 934, 1025, 1073, 1141, 1209, 1277, 1357, 1425, 1493, 1549, 1622, 1678, 1691, 1704, 1772, 1828, 1896, 1964, 2044, 2100, 2168, 2224, 2320, 2380, 2448, 2461, 2524, 2587, 2642, 2655, 2747, 2827, 2895, 2951], 200) := by decide +kernel
theorem dL_law_240 : decode cL_law 240 = .ok (.aload_n 1, 1) := by decide +kernel
theorem dL_law_241 : decode cL_law 241 = .ok (.aload_n 0, 1) := by decide +kernel
theorem dL_law_242 : decode cL_law 242 = .ok (.iload 4, 2) := by decide +kernel
theorem dL_law_244 : decode cL_law 244 = .ok (.iconst 1, 1) := by decide +kernel
theorem dL_law_245 : decode cL_law 245 = .ok (.iadd, 1) := by decide +kernel
theorem dL_law_246 : decode cL_law 246 = .ok (.iaload, 1) := by decide +kernel
theorem dL_law_247 : decode cL_law 247 = .ok (.aload_n 0, 1) := by decide +kernel
theorem dL_law_248 : decode cL_law 248 = .ok (.iload 4, 2) := by decide +kernel
theorem dL_law_250 : decode cL_law 250 = .ok (.iconst 2, 1) := by decide +kernel
theorem dL_law_251 : decode cL_law 251 = .ok (.iadd, 1) := by decide +kernel
theorem dL_law_252 : decode cL_law 252 = .ok (.iaload, 1) := by decide +kernel
theorem dL_law_253 : decode cL_law 253 = .ok (.aload_n 3, 1) := by decide +kernel
theorem dL_law_254 : decode cL_law 254 = .ok (.invokestatic 150, 3) := by decide +kernel
theorem dL_law_257 : decode cL_law 257 = .ok (.istore 5, 2) := by decide +kernel
theorem dL_law_259 : decode cL_law 259 = .ok (.aload_n 2, 1) := by decide +kernel
theorem dL_law_260 : decode cL_law 260 = .ok (.aload_n 0, 1) := by decide +kernel
theorem dL_law_261 : decode cL_law 261 = .ok (.iload 4, 2) := by decide +kernel
theorem dL_law_263 : decode cL_law 263 = .ok (.iconst 1, 1) := by decide +kernel
theorem dL_law_264 : decode cL_law 264 = .ok (.iadd, 1) := by decide +kernel
theorem dL_law_265 : decode cL_law 265 = .ok (.iaload, 1) := by decide +kernel
theorem dL_law_266 : decode cL_law 266 = .ok (.aload_n 0, 1) := by decide +kernel
theorem dL_law_267 : decode cL_law 267 = .ok (.iload 4, 2) := by decide +kernel
theorem dL_law_269 : decode cL_law 269 = .ok (.iconst 2, 1) := by decide +kernel
theorem dL_law_270 : decode cL_law 270 = .ok (.iadd, 1) := by decide +kernel
theorem dL_law_271 : decode cL_law 271 = .ok (.iaload, 1) := by decide +kernel
theorem dL_law_272 : decode cL_law 272 = .ok (.invokevirtual 155, 3) := by decide +kernel
theorem dL_law_275 : decode cL_law 275 = .ok (.istore 6, 2) := by decide +kernel
theorem dL_law_277 : decode cL_law 277 = .ok (.aload_n 2, 1) := by decide +kernel
theorem dL_law_278 : decode cL_law 278 = .ok (.invokevirtual 156, 3) := by decide +kernel
theorem dL_law_281 : decode cL_law 281 = .ok (.iload 5, 2) := by decide +kernel
theorem dL_law_283 : decode cL_law 283 = .ok (.if_icmp .eq 5, 3) := by decide +kernel
theorem dL_law_286 : decode cL_law 286 = .ok (.iconst 0, 1) := by decide +kernel
theorem dL_law_287 : decode cL_law 287 = .ok (.ireturn, 1) := by decide +kernel
theorem dL_law_288 : decode cL_law 288 = .ok (.iload 5, 2) := by decide +kernel
theorem dL_law_290 : decode cL_law 290 = .ok (.ifCond .ne 15, 3) := by decide +kernel
theorem dL_law_293 : decode cL_law 293 = .ok (.aload_n 3, 1) := by decide +kernel
theorem dL_law_294 : decode cL_law 294 = .ok (.iconst 0, 1) := by decide +kernel
theorem dL_law_295 : decode cL_law 295 = .ok (.laload, 1) := by decide +kernel
theorem dL_law_296 : decode cL_law 296 = .ok (.iload 6, 2) := by decide +kernel
theorem dL_law_298 : decode cL_law 298 = .ok (.i2l, 1) := by decide +kernel
theorem dL_law_299 : decode cL_law 299 = .ok (.lcmp, 1) := by decide +kernel
theorem dL_law_300 : decode cL_law 300 = .ok (.ifCond .eq 5, 3) := by decide +kernel
theorem dL_law_303 : decode cL_law 303 = .ok (.iconst 0, 1) := by decide +kernel
theorem dL_law_304 : decode cL_law 304 = .ok (.ireturn, 1) := by decide +kernel
theorem dL_law_305 : decode cL_law 305 = .ok (.goto 2711, 3) := by decide +kernel
theorem dL_law_308 : decode cL_law 308 = .ok (.aload_n 1, 1) := by decide +kernel
theorem dL_law_309 : decode cL_law 309 = .ok (.aload_n 0, 1) := by decide +kernel
theorem dL_law_310 : decode cL_law 310 = .ok (.iload 4, 2) := by decide +kernel
theorem dL_law_312 : decode cL_law 312 = .ok (.iconst 1, 1) := by decide +kernel
theorem dL_law_313 : decode cL_law 313 = .ok (.iadd, 1) := by decide +kernel
theorem dL_law_314 : decode cL_law 314 = .ok (.iaload, 1) := by decide +kernel
theorem dL_law_315 : decode cL_law 315 = .ok (.invokevirtual 159, 3) := by decide +kernel
theorem dL_law_318 : decode cL_law 318 = .ok (.aload_n 2, 1) := by decide +kernel
theorem dL_law_319 : decode cL_law 319 = .ok (.aload_n 0, 1) := by decide +kernel
theorem dL_law_320 : decode cL_law 320 = .ok (.iload 4, 2) := by decide +kernel
theorem dL_law_322 : decode cL_law 322 = .ok (.iconst 1, 1) := by decide +kernel
theorem dL_law_323 : decode cL_law 323 = .ok (.iadd, 1) := by decide +kernel
theorem dL_law_324 : decode cL_law 324 = .ok (.iaload, 1) := by decide +kernel
theorem dL_law_325 : decode cL_law 325 = .ok (.invokevirtual 162, 3) := by decide +kernel
theorem dL_law_328 : decode cL_law 328 = .ok (.if_icmp .eq 2688, 3) := by decide +kernel
theorem dL_law_331 : decode cL_law 331 = .ok (.iconst 0, 1) := by decide +kernel
theorem dL_law_332 : decode cL_law 332 = .ok (.ireturn, 1) := by decide +kernel
theorem dL_law_333 : decode cL_law 333 = .ok (.aload_n 1, 1) := by decide +kernel
theorem dL_law_334 : decode cL_law 334 = .ok (.aload_n 0, 1) := by decide +kernel
theorem dL_law_335 : decode cL_law 335 = .ok (.iload 4, 2) := by decide +kernel
theorem dL_law_337 : decode cL_law 337 = .ok (.iconst 1, 1) := by decide +kernel
theorem dL_law_338 : decode cL_law 338 = .ok (.iadd, 1) := by decide +kernel
theorem dL_law_339 : decode cL_law 339 = .ok (.iaload, 1) := by decide +kernel
theorem dL_law_340 : decode cL_law 340 = .ok (.aload_n 3, 1) := by decide +kernel
theorem dL_law_341 : decode cL_law 341 = .ok (.invokestatic 163, 3) := by decide +kernel
theorem dL_law_344 : decode cL_law 344 = .ok (.istore 5, 2) := by decide +kernel
theorem dL_law_346 : decode cL_law 346 = .ok (.aload_n 2, 1) := by decide +kernel
theorem dL_law_347 : decode cL_law 347 = .ok (.aload_n 0, 1) := by decide +kernel
theorem dL_law_348 : decode cL_law 348 = .ok (.iload 4, 2) := by decide +kernel
theorem dL_law_350 : decode cL_law 350 = .ok (.iconst 1, 1) := by decide +kernel
theorem dL_law_351 : decode cL_law 351 = .ok (.iadd, 1) := by decide +kernel
theorem dL_law_352 : decode cL_law 352 = .ok (.iaload, 1) := by decide +kernel
theorem dL_law_353 : decode cL_law 353 = .ok (.invokevirtual 166, 3) := by decide +kernel
theorem dL_law_356 : decode cL_law 356 = .ok (.istore 6, 2) := by decide +kernel
theorem dL_law_358 : decode cL_law 358 = .ok (.aload_n 2, 1) := by decide +kernel
theorem dL_law_359 : decode cL_law 359 = .ok (.invokevirtual 156, 3) := by decide +kernel
theorem dL_law_362 : decode cL_law 362 = .ok (.iload 5, 2) := by decide +kernel
theorem dL_law_364 : decode cL_law 364 = .ok (.if_icmp .eq 5, 3) := by decide +kernel
theorem dL_law_367 : decode cL_law 367 = .ok (.iconst 0, 1) := by decide +kernel
theorem dL_law_368 : decode cL_law 368 = .ok (.ireturn, 1) := by decide +kernel
theorem dL_law_369 : decode cL_law 369 = .ok (.iload 5, 2) := by decide +kernel
theorem dL_law_371 : decode cL_law 371 = .ok (.ifCond .ne 22, 3) := by decide +kernel
theorem dL_law_374 : decode cL_law 374 = .ok (.aload_n 3, 1) := by decide +kernel
theorem dL_law_375 : decode cL_law 375 = .ok (.iconst 0, 1) := by decide +kernel
theorem dL_law_376 : decode cL_law 376 = .ok (.laload, 1) := by decide +kernel
theorem dL_law_377 : decode cL_law 377 = .ok (.iload 6, 2) := by decide +kernel
theorem dL_law_379 : decode cL_law 379 = .ok (.ifCond .eq 7, 3) := by decide +kernel
theorem dL_law_382 : decode cL_law 382 = .ok (.lconst 1, 1) := by decide +kernel
theorem dL_law_383 : decode cL_law 383 = .ok (.goto 4, 3) := by decide +kernel
theorem dL_law_386 : decode cL_law 386 = .ok (.lconst 0, 1) := by decide +kernel
theorem dL_law_387 : decode cL_law 387 = .ok (.lcmp, 1) := by decide +kernel
theorem dL_law_388 : decode cL_law 388 = .ok (.ifCond .eq 5, 3) := by decide +kernel
theorem dL_law_391 : decode cL_law 391 = .ok (.iconst 0, 1) := by decide +kernel
theorem dL_law_392 : decode cL_law 392 = .ok (.ireturn, 1) := by decide +kernel
theorem dL_law_393 : decode cL_law 393 = .ok (.goto 2623, 3) := by decide +kernel
theorem dL_law_396 : decode cL_law 396 = .ok (.aload_n 1, 1) := by decide +kernel
theorem dL_law_397 : decode cL_law 397 = .ok (.aload_n 0, 1) := by decide +kernel
theorem dL_law_398 : decode cL_law 398 = .ok (.iload 4, 2) := by decide +kernel
theorem dL_law_400 : decode cL_law 400 = .ok (.iconst 1, 1) := by decide +kernel
theorem dL_law_401 : decode cL_law 401 = .ok (.iadd, 1) := by decide +kernel
theorem dL_law_402 : decode cL_law 402 = .ok (.iaload, 1) := by decide +kernel
theorem dL_law_403 : decode cL_law 403 = .ok (.aload_n 3, 1) := by decide +kernel
theorem dL_law_404 : decode cL_law 404 = .ok (.invokestatic 167, 3) := by decide +kernel
theorem dL_law_407 : decode cL_law 407 = .ok (.istore 5, 2) := by decide +kernel
theorem dL_law_409 : decode cL_law 409 = .ok (.aload_n 2, 1) := by decide +kernel
theorem dL_law_410 : decode cL_law 410 = .ok (.aload_n 0, 1) := by decide +kernel
theorem dL_law_411 : decode cL_law 411 = .ok (.iload 4, 2) := by decide +kernel
theorem dL_law_413 : decode cL_law 413 = .ok (.iconst 1, 1) := by decide +kernel
theorem dL_law_414 : decode cL_law 414 = .ok (.iadd, 1) := by decide +kernel
theorem dL_law_415 : decode cL_law 415 = .ok (.iaload, 1) := by decide +kernel
theorem dL_law_416 : decode cL_law 416 = .ok (.invokevirtual 169, 3) := by decide +kernel
theorem dL_law_419 : decode cL_law 419 = .ok (.istore 6, 2) := by decide +kernel
theorem dL_law_421 : decode cL_law 421 = .ok (.aload_n 2, 1) := by decide +kernel
theorem dL_law_422 : decode cL_law 422 = .ok (.invokevirtual 156, 3) := by decide +kernel
theorem dL_law_425 : decode cL_law 425 = .ok (.iload 5, 2) := by decide +kernel
theorem dL_law_427 : decode cL_law 427 = .ok (.if_icmp .eq 5, 3) := by decide +kernel
theorem dL_law_430 : decode cL_law 430 = .ok (.iconst 0, 1) := by decide +kernel
theorem dL_law_431 : decode cL_law 431 = .ok (.ireturn, 1) := by decide +kernel
theorem dL_law_432 : decode cL_law 432 = .ok (.iload 5, 2) := by decide +kernel
theorem dL_law_434 : decode cL_law 434 = .ok (.ifCond .ne 22, 3) := by decide +kernel
theorem dL_law_437 : decode cL_law 437 = .ok (.aload_n 3, 1) := by decide +kernel
theorem dL_law_438 : decode cL_law 438 = .ok (.iconst 0, 1) := by decide +kernel
theorem dL_law_439 : decode cL_law 439 = .ok (.laload, 1) := by decide +kernel
theorem dL_law_440 : decode cL_law 440 = .ok (.iload 6, 2) := by decide +kernel
theorem dL_law_442 : decode cL_law 442 = .ok (.ifCond .eq 7, 3) := by decide +kernel
theorem dL_law_445 : decode cL_law 445 = .ok (.lconst 1, 1) := by decide +kernel
theorem dL_law_446 : decode cL_law 446 = .ok (.goto 4, 3) := by decide +kernel
theorem dL_law_449 : decode cL_law 449 = .ok (.lconst 0, 1) := by decide +kernel
theorem dL_law_450 : decode cL_law 450 = .ok (.lcmp, 1) := by decide +kernel
theorem dL_law_451 : decode cL_law 451 = .ok (.ifCond .eq 5, 3) := by decide +kernel
theorem dL_law_454 : decode cL_law 454 = .ok (.iconst 0, 1) := by decide +kernel
theorem dL_law_455 : decode cL_law 455 = .ok (.ireturn, 1) := by decide +kernel
theorem dL_law_456 : decode cL_law 456 = .ok (.goto 2560, 3) := by decide +kernel
theorem dL_law_459 : decode cL_law 459 = .ok (.aload_n 1, 1) := by decide +kernel
theorem dL_law_460 : decode cL_law 460 = .ok (.aload_n 0, 1) := by decide +kernel
theorem dL_law_461 : decode cL_law 461 = .ok (.iload 4, 2) := by decide +kernel
theorem dL_law_463 : decode cL_law 463 = .ok (.iconst 1, 1) := by decide +kernel
theorem dL_law_464 : decode cL_law 464 = .ok (.iadd, 1) := by decide +kernel
theorem dL_law_465 : decode cL_law 465 = .ok (.iaload, 1) := by decide +kernel
theorem dL_law_466 : decode cL_law 466 = .ok (.aload_n 3, 1) := by decide +kernel
theorem dL_law_467 : decode cL_law 467 = .ok (.invokestatic 170, 3) := by decide +kernel
theorem dL_law_470 : decode cL_law 470 = .ok (.istore 5, 2) := by decide +kernel
theorem dL_law_472 : decode cL_law 472 = .ok (.aload_n 2, 1) := by decide +kernel
theorem dL_law_473 : decode cL_law 473 = .ok (.aload_n 0, 1) := by decide +kernel
theorem dL_law_474 : decode cL_law 474 = .ok (.iload 4, 2) := by decide +kernel
theorem dL_law_476 : decode cL_law 476 = .ok (.iconst 1, 1) := by decide +kernel
theorem dL_law_477 : decode cL_law 477 = .ok (.iadd, 1) := by decide +kernel
theorem dL_law_478 : decode cL_law 478 = .ok (.iaload, 1) := by decide +kernel
theorem dL_law_479 : decode cL_law 479 = .ok (.invokevirtual 172, 3) := by decide +kernel
theorem dL_law_482 : decode cL_law 482 = .ok (.istore 6, 2) := by decide +kernel
theorem dL_law_484 : decode cL_law 484 = .ok (.aload_n 2, 1) := by decide +kernel
theorem dL_law_485 : decode cL_law 485 = .ok (.invokevirtual 156, 3) := by decide +kernel
theorem dL_law_488 : decode cL_law 488 = .ok (.iload 5, 2) := by decide +kernel
theorem dL_law_490 : decode cL_law 490 = .ok (.if_icmp .eq 5, 3) := by decide +kernel
theorem dL_law_493 : decode cL_law 493 = .ok (.iconst 0, 1) := by decide +kernel
theorem dL_law_494 : decode cL_law 494 = .ok (.ireturn, 1) := by decide +kernel
theorem dL_law_495 : decode cL_law 495 = .ok (.iload 5, 2) := by decide +kernel
theorem dL_law_497 : decode cL_law 497 = .ok (.ifCond .ne 15, 3) := by decide +kernel
theorem dL_law_500 : decode cL_law 500 = .ok (.aload_n 3, 1) := by decide +kernel
theorem dL_law_501 : decode cL_law 501 = .ok (.iconst 0, 1) := by decide +kernel
theorem dL_law_502 : decode cL_law 502 = .ok (.laload, 1) := by decide +kernel
theorem dL_law_503 : decode cL_law 503 = .ok (.iload 6, 2) := by decide +kernel
theorem dL_law_505 : decode cL_law 505 = .ok (.i2l, 1) := by decide +kernel
theorem dL_law_506 : decode cL_law 506 = .ok (.lcmp, 1) := by decide +kernel
theorem dL_law_507 : decode cL_law 507 = .ok (.ifCond .eq 5, 3) := by decide +kernel
theorem dL_law_510 : decode cL_law 510 = .ok (.iconst 0, 1) := by decide +kernel
theorem dL_law_511 : decode cL_law 511 = .ok (.ireturn, 1) := by decide +kernel
theorem dL_law_512 : decode cL_law 512 = .ok (.goto 2504, 3) := by decide +kernel
theorem dL_law_515 : decode cL_law 515 = .ok (.aload_n 1, 1) := by decide +kernel
theorem dL_law_516 : decode cL_law 516 = .ok (.aload_n 3, 1) := by decide +kernel
theorem dL_law_517 : decode cL_law 517 = .ok (.invokestatic 173, 3) := by decide +kernel
theorem dL_law_520 : decode cL_law 520 = .ok (.istore 5, 2) := by decide +kernel
theorem dL_law_522 : decode cL_law 522 = .ok (.aload_n 2, 1) := by decide +kernel
theorem dL_law_523 : decode cL_law 523 = .ok (.invokevirtual 176, 3) := by decide +kernel
theorem dL_law_526 : decode cL_law 526 = .ok (.istore 6, 2) := by decide +kernel
theorem dL_law_528 : decode cL_law 528 = .ok (.aload_n 2, 1) := by decide +kernel
theorem dL_law_529 : decode cL_law 529 = .ok (.invokevirtual 156, 3) := by decide +kernel
theorem dL_law_532 : decode cL_law 532 = .ok (.iload 5, 2) := by decide +kernel
theorem dL_law_534 : decode cL_law 534 = .ok (.if_icmp .eq 5, 3) := by decide +kernel
theorem dL_law_537 : decode cL_law 537 = .ok (.iconst 0, 1) := by decide +kernel
theorem dL_law_538 : decode cL_law 538 = .ok (.ireturn, 1) := by decide +kernel
theorem dL_law_539 : decode cL_law 539 = .ok (.iload 5, 2) := by decide +kernel
theorem dL_law_541 : decode cL_law 541 = .ok (.ifCond .ne 15, 3) := by decide +kernel
theorem dL_law_544 : decode cL_law 544 = .ok (.aload_n 3, 1) := by decide +kernel
theorem dL_law_545 : decode cL_law 545 = .ok (.iconst 0, 1) := by decide +kernel
theorem dL_law_546 : decode cL_law 546 = .ok (.laload, 1) := by decide +kernel
theorem dL_law_547 : decode cL_law 547 = .ok (.iload 6, 2) := by decide +kernel
theorem dL_law_549 : decode cL_law 549 = .ok (.i2l, 1) := by decide +kernel
theorem dL_law_550 : decode cL_law 550 = .ok (.lcmp, 1) := by decide +kernel
theorem dL_law_551 : decode cL_law 551 = .ok (.ifCond .eq 5, 3) := by decide +kernel
theorem dL_law_554 : decode cL_law 554 = .ok (.iconst 0, 1) := by decide +kernel
theorem dL_law_555 : decode cL_law 555 = .ok (.ireturn, 1) := by decide +kernel
theorem dL_law_556 : decode cL_law 556 = .ok (.goto 2460, 3) := by decide +kernel
theorem dL_law_559 : decode cL_law 559 = .ok (.aload_n 1, 1) := by decide +kernel
theorem dL_law_560 : decode cL_law 560 = .ok (.aload_n 0, 1) := by decide +kernel
theorem dL_law_561 : decode cL_law 561 = .ok (.iload 4, 2) := by decide +kernel
theorem dL_law_563 : decode cL_law 563 = .ok (.iconst 1, 1) := by decide +kernel
theorem dL_law_564 : decode cL_law 564 = .ok (.iadd, 1) := by decide +kernel
theorem dL_law_565 : decode cL_law 565 = .ok (.iaload, 1) := by decide +kernel
theorem dL_law_566 : decode cL_law 566 = .ok (.aload_n 3, 1) := by decide +kernel
theorem dL_law_567 : decode cL_law 567 = .ok (.invokestatic 177, 3) := by decide +kernel
theorem dL_law_570 : decode cL_law 570 = .ok (.istore 5, 2) := by decide +kernel
theorem dL_law_572 : decode cL_law 572 = .ok (.aload_n 2, 1) := by decide +kernel
theorem dL_law_573 : decode cL_law 573 = .ok (.aload_n 0, 1) := by decide +kernel
theorem dL_law_574 : decode cL_law 574 = .ok (.iload 4, 2) := by decide +kernel
theorem dL_law_576 : decode cL_law 576 = .ok (.iconst 1, 1) := by decide +kernel
theorem dL_law_577 : decode cL_law 577 = .ok (.iadd, 1) := by decide +kernel
theorem dL_law_578 : decode cL_law 578 = .ok (.iaload, 1) := by decide +kernel
theorem dL_law_579 : decode cL_law 579 = .ok (.invokevirtual 179, 3) := by decide +kernel
theorem dL_law_582 : decode cL_law 582 = .ok (.istore 6, 2) := by decide +kernel
theorem dL_law_584 : decode cL_law 584 = .ok (.aload_n 2, 1) := by decide +kernel
theorem dL_law_585 : decode cL_law 585 = .ok (.invokevirtual 156, 3) := by decide +kernel
theorem dL_law_588 : decode cL_law 588 = .ok (.iload 5, 2) := by decide +kernel
theorem dL_law_590 : decode cL_law 590 = .ok (.if_icmp .eq 5, 3) := by decide +kernel
theorem dL_law_593 : decode cL_law 593 = .ok (.iconst 0, 1) := by decide +kernel
theorem dL_law_594 : decode cL_law 594 = .ok (.ireturn, 1) := by decide +kernel
theorem dL_law_595 : decode cL_law 595 = .ok (.iload 5, 2) := by decide +kernel
theorem dL_law_597 : decode cL_law 597 = .ok (.ifCond .ne 15, 3) := by decide +kernel
theorem dL_law_600 : decode cL_law 600 = .ok (.aload_n 3, 1) := by decide +kernel
theorem dL_law_601 : decode cL_law 601 = .ok (.iconst 0, 1) := by decide +kernel
theorem dL_law_602 : decode cL_law 602 = .ok (.laload, 1) := by decide +kernel
theorem dL_law_603 : decode cL_law 603 = .ok (.iload 6, 2) := by decide +kernel
theorem dL_law_605 : decode cL_law 605 = .ok (.i2l, 1) := by decide +kernel
theorem dL_law_606 : decode cL_law 606 = .ok (.lcmp, 1) := by decide +kernel
theorem dL_law_607 : decode cL_law 607 = .ok (.ifCond .eq 5, 3) := by decide +kernel
theorem dL_law_610 : decode cL_law 610 = .ok (.iconst 0, 1) := by decide +kernel
theorem dL_law_611 : decode cL_law 611 = .ok (.ireturn, 1) := by decide +kernel
theorem dL_law_612 : decode cL_law 612 = .ok (.goto 2404, 3) := by decide +kernel
theorem dL_law_615 : decode cL_law 615 = .ok (.aload_n 1, 1) := by decide +kernel
theorem dL_law_616 : decode cL_law 616 = .ok (.aload_n 0, 1) := by decide +kernel
theorem dL_law_617 : decode cL_law 617 = .ok (.iload 4, 2) := by decide +kernel
theorem dL_law_619 : decode cL_law 619 = .ok (.iconst 1, 1) := by decide +kernel
theorem dL_law_620 : decode cL_law 620 = .ok (.iadd, 1) := by decide +kernel
theorem dL_law_621 : decode cL_law 621 = .ok (.iaload, 1) := by decide +kernel
theorem dL_law_622 : decode cL_law 622 = .ok (.aload_n 0, 1) := by decide +kernel
theorem dL_law_623 : decode cL_law 623 = .ok (.iload 4, 2) := by decide +kernel
theorem dL_law_625 : decode cL_law 625 = .ok (.iconst 2, 1) := by decide +kernel
theorem dL_law_626 : decode cL_law 626 = .ok (.iadd, 1) := by decide +kernel
theorem dL_law_627 : decode cL_law 627 = .ok (.iaload, 1) := by decide +kernel
theorem dL_law_628 : decode cL_law 628 = .ok (.aload_n 0, 1) := by decide +kernel
theorem dL_law_629 : decode cL_law 629 = .ok (.iload 4, 2) := by decide +kernel
theorem dL_law_631 : decode cL_law 631 = .ok (.iconst 3, 1) := by decide +kernel
theorem dL_law_632 : decode cL_law 632 = .ok (.iadd, 1) := by decide +kernel
theorem dL_law_633 : decode cL_law 633 = .ok (.iaload, 1) := by decide +kernel
theorem dL_law_634 : decode cL_law 634 = .ok (.aload_n 0, 1) := by decide +kernel
theorem dL_law_635 : decode cL_law 635 = .ok (.iload 4, 2) := by decide +kernel
theorem dL_law_637 : decode cL_law 637 = .ok (.iconst 4, 1) := by decide +kernel
theorem dL_law_638 : decode cL_law 638 = .ok (.iadd, 1) := by decide +kernel
theorem dL_law_639 : decode cL_law 639 = .ok (.iaload, 1) := by decide +kernel
theorem dL_law_640 : decode cL_law 640 = .ok (.aload_n 0, 1) := by decide +kernel
theorem dL_law_641 : decode cL_law 641 = .ok (.iload 4, 2) := by decide +kernel
theorem dL_law_643 : decode cL_law 643 = .ok (.iconst 5, 1) := by decide +kernel
theorem dL_law_644 : decode cL_law 644 = .ok (.iadd, 1) := by decide +kernel
theorem dL_law_645 : decode cL_law 645 = .ok (.iaload, 1) := by decide +kernel
theorem dL_law_646 : decode cL_law 646 = .ok (.aload_n 3, 1) := by decide +kernel
theorem dL_law_647 : decode cL_law 647 = .ok (.invokestatic 180, 3) := by decide +kernel
theorem dL_law_650 : decode cL_law 650 = .ok (.istore 5, 2) := by decide +kernel
theorem dL_law_652 : decode cL_law 652 = .ok (.aload_n 2, 1) := by decide +kernel
theorem dL_law_653 : decode cL_law 653 = .ok (.aload_n 0, 1) := by decide +kernel
theorem dL_law_654 : decode cL_law 654 = .ok (.iload 4, 2) := by decide +kernel
theorem dL_law_656 : decode cL_law 656 = .ok (.iconst 1, 1) := by decide +kernel
theorem dL_law_657 : decode cL_law 657 = .ok (.iadd, 1) := by decide +kernel
theorem dL_law_658 : decode cL_law 658 = .ok (.iaload, 1) := by decide +kernel
theorem dL_law_659 : decode cL_law 659 = .ok (.aload_n 0, 1) := by decide +kernel
theorem dL_law_660 : decode cL_law 660 = .ok (.iload 4, 2) := by decide +kernel
theorem dL_law_662 : decode cL_law 662 = .ok (.iconst 2, 1) := by decide +kernel
theorem dL_law_663 : decode cL_law 663 = .ok (.iadd, 1) := by decide +kernel
theorem dL_law_664 : decode cL_law 664 = .ok (.iaload, 1) := by decide +kernel
theorem dL_law_665 : decode cL_law 665 = .ok (.aload_n 0, 1) := by decide +kernel
theorem dL_law_666 : decode cL_law 666 = .ok (.iload 4, 2) := by decide +kernel
theorem dL_law_668 : decode cL_law 668 = .ok (.iconst 3, 1) := by decide +kernel
theorem dL_law_669 : decode cL_law 669 = .ok (.iadd, 1) := by decide +kernel
theorem dL_law_670 : decode cL_law 670 = .ok (.iaload, 1) := by decide +kernel
theorem dL_law_671 : decode cL_law 671 = .ok (.aload_n 0, 1) := by decide +kernel
theorem dL_law_672 : decode cL_law 672 = .ok (.iload 4, 2) := by decide +kernel
theorem dL_law_674 : decode cL_law 674 = .ok (.iconst 4, 1) := by decide +kernel
theorem dL_law_675 : decode cL_law 675 = .ok (.iadd, 1) := by decide +kernel
theorem dL_law_676 : decode cL_law 676 = .ok (.iaload, 1) := by decide +kernel
theorem dL_law_677 : decode cL_law 677 = .ok (.aload_n 0, 1) := by decide +kernel
theorem dL_law_678 : decode cL_law 678 = .ok (.iload 4, 2) := by decide +kernel
theorem dL_law_680 : decode cL_law 680 = .ok (.iconst 5, 1) := by decide +kernel
theorem dL_law_681 : decode cL_law 681 = .ok (.iadd, 1) := by decide +kernel
theorem dL_law_682 : decode cL_law 682 = .ok (.iaload, 1) := by decide +kernel
theorem dL_law_683 : decode cL_law 683 = .ok (.invokevirtual 183, 3) := by decide +kernel
theorem dL_law_686 : decode cL_law 686 = .ok (.istore 6, 2) := by decide +kernel
theorem dL_law_688 : decode cL_law 688 = .ok (.aload_n 2, 1) := by decide +kernel
theorem dL_law_689 : decode cL_law 689 = .ok (.invokevirtual 156, 3) := by decide +kernel
theorem dL_law_692 : decode cL_law 692 = .ok (.iload 5, 2) := by decide +kernel
theorem dL_law_694 : decode cL_law 694 = .ok (.if_icmp .eq 5, 3) := by decide +kernel
theorem dL_law_697 : decode cL_law 697 = .ok (.iconst 0, 1) := by decide +kernel
theorem dL_law_698 : decode cL_law 698 = .ok (.ireturn, 1) := by decide +kernel
theorem dL_law_699 : decode cL_law 699 = .ok (.iload 5, 2) := by decide +kernel
theorem dL_law_701 : decode cL_law 701 = .ok (.ifCond .ne 15, 3) := by decide +kernel
theorem dL_law_704 : decode cL_law 704 = .ok (.aload_n 3, 1) := by decide +kernel
theorem dL_law_705 : decode cL_law 705 = .ok (.iconst 0, 1) := by decide +kernel
theorem dL_law_706 : decode cL_law 706 = .ok (.laload, 1) := by decide +kernel
theorem dL_law_707 : decode cL_law 707 = .ok (.iload 6, 2) := by decide +kernel
theorem dL_law_709 : decode cL_law 709 = .ok (.i2l, 1) := by decide +kernel
theorem dL_law_710 : decode cL_law 710 = .ok (.lcmp, 1) := by decide +kernel
theorem dL_law_711 : decode cL_law 711 = .ok (.ifCond .eq 5, 3) := by decide +kernel
theorem dL_law_714 : decode cL_law 714 = .ok (.iconst 0, 1) := by decide +kernel
theorem dL_law_715 : decode cL_law 715 = .ok (.ireturn, 1) := by decide +kernel
theorem dL_law_716 : decode cL_law 716 = .ok (.goto 2300, 3) := by decide +kernel
theorem dL_law_719 : decode cL_law 719 = .ok (.aload_n 1, 1) := by decide +kernel
theorem dL_law_720 : decode cL_law 720 = .ok (.aload_n 0, 1) := by decide +kernel
theorem dL_law_721 : decode cL_law 721 = .ok (.iload 4, 2) := by decide +kernel
theorem dL_law_723 : decode cL_law 723 = .ok (.iconst 1, 1) := by decide +kernel
theorem dL_law_724 : decode cL_law 724 = .ok (.iadd, 1) := by decide +kernel
theorem dL_law_725 : decode cL_law 725 = .ok (.iaload, 1) := by decide +kernel
theorem dL_law_726 : decode cL_law 726 = .ok (.aload_n 0, 1) := by decide +kernel
theorem dL_law_727 : decode cL_law 727 = .ok (.iload 4, 2) := by decide +kernel
theorem dL_law_729 : decode cL_law 729 = .ok (.iconst 2, 1) := by decide +kernel
theorem dL_law_730 : decode cL_law 730 = .ok (.iadd, 1) := by decide +kernel
theorem dL_law_731 : decode cL_law 731 = .ok (.iaload, 1) := by decide +kernel
theorem dL_law_732 : decode cL_law 732 = .ok (.aload_n 3, 1) := by decide +kernel
theorem dL_law_733 : decode cL_law 733 = .ok (.invokestatic 184, 3) := by decide +kernel
theorem dL_law_736 : decode cL_law 736 = .ok (.istore 5, 2) := by decide +kernel
theorem dL_law_738 : decode cL_law 738 = .ok (.aload_n 2, 1) := by decide +kernel
theorem dL_law_739 : decode cL_law 739 = .ok (.aload_n 0, 1) := by decide +kernel
theorem dL_law_740 : decode cL_law 740 = .ok (.iload 4, 2) := by decide +kernel
theorem dL_law_742 : decode cL_law 742 = .ok (.iconst 1, 1) := by decide +kernel
theorem dL_law_743 : decode cL_law 743 = .ok (.iadd, 1) := by decide +kernel
theorem dL_law_744 : decode cL_law 744 = .ok (.iaload, 1) := by decide +kernel
theorem dL_law_745 : decode cL_law 745 = .ok (.aload_n 0, 1) := by decide +kernel
theorem dL_law_746 : decode cL_law 746 = .ok (.iload 4, 2) := by decide +kernel
theorem dL_law_748 : decode cL_law 748 = .ok (.iconst 2, 1) := by decide +kernel
theorem dL_law_749 : decode cL_law 749 = .ok (.iadd, 1) := by decide +kernel
theorem dL_law_750 : decode cL_law 750 = .ok (.iaload, 1) := by decide +kernel
theorem dL_law_751 : decode cL_law 751 = .ok (.invokevirtual 186, 3) := by decide +kernel
theorem dL_law_754 : decode cL_law 754 = .ok (.istore 6, 2) := by decide +kernel
theorem dL_law_756 : decode cL_law 756 = .ok (.aload_n 2, 1) := by decide +kernel
theorem dL_law_757 : decode cL_law 757 = .ok (.invokevirtual 156, 3) := by decide +kernel
theorem dL_law_760 : decode cL_law 760 = .ok (.iload 5, 2) := by decide +kernel
theorem dL_law_762 : decode cL_law 762 = .ok (.if_icmp .eq 5, 3) := by decide +kernel
theorem dL_law_765 : decode cL_law 765 = .ok (.iconst 0, 1) := by decide +kernel
theorem dL_law_766 : decode cL_law 766 = .ok (.ireturn, 1) := by decide +kernel
theorem dL_law_767 : decode cL_law 767 = .ok (.iload 5, 2) := by decide +kernel
theorem dL_law_769 : decode cL_law 769 = .ok (.ifCond .ne 15, 3) := by decide +kernel
theorem dL_law_772 : decode cL_law 772 = .ok (.aload_n 3, 1) := by decide +kernel
theorem dL_law_773 : decode cL_law 773 = .ok (.iconst 0, 1) := by decide +kernel
theorem dL_law_774 : decode cL_law 774 = .ok (.laload, 1) := by decide +kernel
theorem dL_law_775 : decode cL_law 775 = .ok (.iload 6, 2) := by decide +kernel
theorem dL_law_777 : decode cL_law 777 = .ok (.i2l, 1) := by decide +kernel
theorem dL_law_778 : decode cL_law 778 = .ok (.lcmp, 1) := by decide +kernel
theorem dL_law_779 : decode cL_law 779 = .ok (.ifCond .eq 5, 3) := by decide +kernel
theorem dL_law_782 : decode cL_law 782 = .ok (.iconst 0, 1) := by decide +kernel
theorem dL_law_783 : decode cL_law 783 = .ok (.ireturn, 1) := by decide +kernel
theorem dL_law_784 : decode cL_law 784 = .ok (.goto 2232, 3) := by decide +kernel
theorem dL_law_787 : decode cL_law 787 = .ok (.aload_n 1, 1) := by decide +kernel
theorem dL_law_788 : decode cL_law 788 = .ok (.aload_n 0, 1) := by decide +kernel
theorem dL_law_789 : decode cL_law 789 = .ok (.iload 4, 2) := by decide +kernel
theorem dL_law_791 : decode cL_law 791 = .ok (.iconst 1, 1) := by decide +kernel
theorem dL_law_792 : decode cL_law 792 = .ok (.iadd, 1) := by decide +kernel
theorem dL_law_793 : decode cL_law 793 = .ok (.iaload, 1) := by decide +kernel
theorem dL_law_794 : decode cL_law 794 = .ok (.aload_n 3, 1) := by decide +kernel
theorem dL_law_795 : decode cL_law 795 = .ok (.invokestatic 187, 3) := by decide +kernel
theorem dL_law_798 : decode cL_law 798 = .ok (.istore 5, 2) := by decide +kernel
theorem dL_law_800 : decode cL_law 800 = .ok (.aload_n 2, 1) := by decide +kernel
theorem dL_law_801 : decode cL_law 801 = .ok (.aload_n 0, 1) := by decide +kernel
theorem dL_law_802 : decode cL_law 802 = .ok (.iload 4, 2) := by decide +kernel
theorem dL_law_804 : decode cL_law 804 = .ok (.iconst 1, 1) := by decide +kernel
theorem dL_law_805 : decode cL_law 805 = .ok (.iadd, 1) := by decide +kernel
theorem dL_law_806 : decode cL_law 806 = .ok (.iaload, 1) := by decide +kernel
theorem dL_law_807 : decode cL_law 807 = .ok (.invokevirtual 189, 3) := by decide +kernel
theorem dL_law_810 : decode cL_law 810 = .ok (.istore 6, 2) := by decide +kernel
theorem dL_law_812 : decode cL_law 812 = .ok (.aload_n 2, 1) := by decide +kernel
theorem dL_law_813 : decode cL_law 813 = .ok (.invokevirtual 156, 3) := by decide +kernel
theorem dL_law_816 : decode cL_law 816 = .ok (.iload 5, 2) := by decide +kernel
theorem dL_law_818 : decode cL_law 818 = .ok (.if_icmp .eq 5, 3) := by decide +kernel
theorem dL_law_821 : decode cL_law 821 = .ok (.iconst 0, 1) := by decide +kernel
theorem dL_law_822 : decode cL_law 822 = .ok (.ireturn, 1) := by decide +kernel
theorem dL_law_823 : decode cL_law 823 = .ok (.iload 5, 2) := by decide +kernel
theorem dL_law_825 : decode cL_law 825 = .ok (.ifCond .ne 22, 3) := by decide +kernel
theorem dL_law_828 : decode cL_law 828 = .ok (.aload_n 3, 1) := by decide +kernel
theorem dL_law_829 : decode cL_law 829 = .ok (.iconst 0, 1) := by decide +kernel
theorem dL_law_830 : decode cL_law 830 = .ok (.laload, 1) := by decide +kernel
theorem dL_law_831 : decode cL_law 831 = .ok (.iload 6, 2) := by decide +kernel
theorem dL_law_833 : decode cL_law 833 = .ok (.ifCond .eq 7, 3) := by decide +kernel
theorem dL_law_836 : decode cL_law 836 = .ok (.lconst 1, 1) := by decide +kernel
theorem dL_law_837 : decode cL_law 837 = .ok (.goto 4, 3) := by decide +kernel
theorem dL_law_840 : decode cL_law 840 = .ok (.lconst 0, 1) := by decide +kernel
theorem dL_law_841 : decode cL_law 841 = .ok (.lcmp, 1) := by decide +kernel
theorem dL_law_842 : decode cL_law 842 = .ok (.ifCond .eq 5, 3) := by decide +kernel
theorem dL_law_845 : decode cL_law 845 = .ok (.iconst 0, 1) := by decide +kernel
theorem dL_law_846 : decode cL_law 846 = .ok (.ireturn, 1) := by decide +kernel
theorem dL_law_847 : decode cL_law 847 = .ok (.goto 2169, 3) := by decide +kernel
theorem dL_law_850 : decode cL_law 850 = .ok (.aload_n 1, 1) := by decide +kernel
theorem dL_law_851 : decode cL_law 851 = .ok (.aload_n 0, 1) := by decide +kernel
theorem dL_law_852 : decode cL_law 852 = .ok (.iload 4, 2) := by decide +kernel
theorem dL_law_854 : decode cL_law 854 = .ok (.iconst 1, 1) := by decide +kernel
theorem dL_law_855 : decode cL_law 855 = .ok (.iadd, 1) := by decide +kernel
theorem dL_law_856 : decode cL_law 856 = .ok (.iaload, 1) := by decide +kernel
theorem dL_law_857 : decode cL_law 857 = .ok (.aload_n 3, 1) := by decide +kernel
theorem dL_law_858 : decode cL_law 858 = .ok (.invokestatic 190, 3) := by decide +kernel
theorem dL_law_861 : decode cL_law 861 = .ok (.istore 5, 2) := by decide +kernel
theorem dL_law_863 : decode cL_law 863 = .ok (.aload_n 2, 1) := by decide +kernel
theorem dL_law_864 : decode cL_law 864 = .ok (.aload_n 0, 1) := by decide +kernel
theorem dL_law_865 : decode cL_law 865 = .ok (.iload 4, 2) := by decide +kernel
theorem dL_law_867 : decode cL_law 867 = .ok (.iconst 1, 1) := by decide +kernel
theorem dL_law_868 : decode cL_law 868 = .ok (.iadd, 1) := by decide +kernel
theorem dL_law_869 : decode cL_law 869 = .ok (.iaload, 1) := by decide +kernel
theorem dL_law_870 : decode cL_law 870 = .ok (.invokevirtual 192, 3) := by decide +kernel
theorem dL_law_873 : decode cL_law 873 = .ok (.istore 6, 2) := by decide +kernel
theorem dL_law_875 : decode cL_law 875 = .ok (.aload_n 2, 1) := by decide +kernel
theorem dL_law_876 : decode cL_law 876 = .ok (.invokevirtual 156, 3) := by decide +kernel
theorem dL_law_879 : decode cL_law 879 = .ok (.iload 5, 2) := by decide +kernel
theorem dL_law_881 : decode cL_law 881 = .ok (.if_icmp .eq 5, 3) := by decide +kernel
theorem dL_law_884 : decode cL_law 884 = .ok (.iconst 0, 1) := by decide +kernel
theorem dL_law_885 : decode cL_law 885 = .ok (.ireturn, 1) := by decide +kernel
theorem dL_law_886 : decode cL_law 886 = .ok (.iload 5, 2) := by decide +kernel
theorem dL_law_888 : decode cL_law 888 = .ok (.ifCond .ne 15, 3) := by decide +kernel
theorem dL_law_891 : decode cL_law 891 = .ok (.aload_n 3, 1) := by decide +kernel
theorem dL_law_892 : decode cL_law 892 = .ok (.iconst 0, 1) := by decide +kernel
theorem dL_law_893 : decode cL_law 893 = .ok (.laload, 1) := by decide +kernel
theorem dL_law_894 : decode cL_law 894 = .ok (.iload 6, 2) := by decide +kernel
theorem dL_law_896 : decode cL_law 896 = .ok (.i2l, 1) := by decide +kernel
theorem dL_law_897 : decode cL_law 897 = .ok (.lcmp, 1) := by decide +kernel
theorem dL_law_898 : decode cL_law 898 = .ok (.ifCond .eq 5, 3) := by decide +kernel
theorem dL_law_901 : decode cL_law 901 = .ok (.iconst 0, 1) := by decide +kernel
theorem dL_law_902 : decode cL_law 902 = .ok (.ireturn, 1) := by decide +kernel
theorem dL_law_903 : decode cL_law 903 = .ok (.goto 2113, 3) := by decide +kernel
theorem dL_law_906 : decode cL_law 906 = .ok (.aload_n 1, 1) := by decide +kernel
theorem dL_law_907 : decode cL_law 907 = .ok (.aload_n 0, 1) := by decide +kernel
theorem dL_law_908 : decode cL_law 908 = .ok (.iload 4, 2) := by decide +kernel
theorem dL_law_910 : decode cL_law 910 = .ok (.iconst 1, 1) := by decide +kernel
theorem dL_law_911 : decode cL_law 911 = .ok (.iadd, 1) := by decide +kernel
theorem dL_law_912 : decode cL_law 912 = .ok (.iaload, 1) := by decide +kernel
theorem dL_law_913 : decode cL_law 913 = .ok (.aload_n 0, 1) := by decide +kernel
theorem dL_law_914 : decode cL_law 914 = .ok (.iload 4, 2) := by decide +kernel
theorem dL_law_916 : decode cL_law 916 = .ok (.iconst 2, 1) := by decide +kernel
theorem dL_law_917 : decode cL_law 917 = .ok (.iadd, 1) := by decide +kernel
theorem dL_law_918 : decode cL_law 918 = .ok (.iaload, 1) := by decide +kernel
theorem dL_law_919 : decode cL_law 919 = .ok (.aload_n 3, 1) := by decide +kernel
theorem dL_law_920 : decode cL_law 920 = .ok (.invokestatic 193, 3) := by decide +kernel
theorem dL_law_923 : decode cL_law 923 = .ok (.istore 5, 2) := by decide +kernel
theorem dL_law_925 : decode cL_law 925 = .ok (.aload_n 2, 1) := by decide +kernel
theorem dL_law_926 : decode cL_law 926 = .ok (.aload_n 0, 1) := by decide +kernel
theorem dL_law_927 : decode cL_law 927 = .ok (.iload 4, 2) := by decide +kernel
theorem dL_law_929 : decode cL_law 929 = .ok (.iconst 1, 1) := by decide +kernel
theorem dL_law_930 : decode cL_law 930 = .ok (.iadd, 1) := by decide +kernel
theorem dL_law_931 : decode cL_law 931 = .ok (.iaload, 1) := by decide +kernel
theorem dL_law_932 : decode cL_law 932 = .ok (.aload_n 0, 1) := by decide +kernel
theorem dL_law_933 : decode cL_law 933 = .ok (.iload 4, 2) := by decide +kernel
theorem dL_law_935 : decode cL_law 935 = .ok (.iconst 2, 1) := by decide +kernel
theorem dL_law_936 : decode cL_law 936 = .ok (.iadd, 1) := by decide +kernel
theorem dL_law_937 : decode cL_law 937 = .ok (.iaload, 1) := by decide +kernel
theorem dL_law_938 : decode cL_law 938 = .ok (.invokevirtual 195, 3) := by decide +kernel
theorem dL_law_941 : decode cL_law 941 = .ok (.istore 6, 2) := by decide +kernel
theorem dL_law_943 : decode cL_law 943 = .ok (.aload_n 2, 1) := by decide +kernel
theorem dL_law_944 : decode cL_law 944 = .ok (.invokevirtual 156, 3) := by decide +kernel
theorem dL_law_947 : decode cL_law 947 = .ok (.iload 5, 2) := by decide +kernel
theorem dL_law_949 : decode cL_law 949 = .ok (.if_icmp .eq 5, 3) := by decide +kernel
theorem dL_law_952 : decode cL_law 952 = .ok (.iconst 0, 1) := by decide +kernel
theorem dL_law_953 : decode cL_law 953 = .ok (.ireturn, 1) := by decide +kernel
theorem dL_law_954 : decode cL_law 954 = .ok (.iload 5, 2) := by decide +kernel
theorem dL_law_956 : decode cL_law 956 = .ok (.ifCond .ne 15, 3) := by decide +kernel
theorem dL_law_959 : decode cL_law 959 = .ok (.aload_n 3, 1) := by decide +kernel
theorem dL_law_960 : decode cL_law 960 = .ok (.iconst 0, 1) := by decide +kernel
theorem dL_law_961 : decode cL_law 961 = .ok (.laload, 1) := by decide +kernel
theorem dL_law_962 : decode cL_law 962 = .ok (.iload 6, 2) := by decide +kernel
theorem dL_law_964 : decode cL_law 964 = .ok (.i2l, 1) := by decide +kernel
theorem dL_law_965 : decode cL_law 965 = .ok (.lcmp, 1) := by decide +kernel
theorem dL_law_966 : decode cL_law 966 = .ok (.ifCond .eq 5, 3) := by decide +kernel
theorem dL_law_969 : decode cL_law 969 = .ok (.iconst 0, 1) := by decide +kernel
theorem dL_law_970 : decode cL_law 970 = .ok (.ireturn, 1) := by decide +kernel
theorem dL_law_971 : decode cL_law 971 = .ok (.goto 2045, 3) := by decide +kernel
theorem dL_law_974 : decode cL_law 974 = .ok (.aload_n 1, 1) := by decide +kernel
theorem dL_law_975 : decode cL_law 975 = .ok (.aload_n 0, 1) := by decide +kernel
theorem dL_law_976 : decode cL_law 976 = .ok (.iload 4, 2) := by decide +kernel
theorem dL_law_978 : decode cL_law 978 = .ok (.iconst 1, 1) := by decide +kernel
theorem dL_law_979 : decode cL_law 979 = .ok (.iadd, 1) := by decide +kernel
theorem dL_law_980 : decode cL_law 980 = .ok (.iaload, 1) := by decide +kernel
theorem dL_law_981 : decode cL_law 981 = .ok (.aload_n 0, 1) := by decide +kernel
theorem dL_law_982 : decode cL_law 982 = .ok (.iload 4, 2) := by decide +kernel
theorem dL_law_984 : decode cL_law 984 = .ok (.iconst 2, 1) := by decide +kernel
theorem dL_law_985 : decode cL_law 985 = .ok (.iadd, 1) := by decide +kernel
theorem dL_law_986 : decode cL_law 986 = .ok (.iaload, 1) := by decide +kernel
theorem dL_law_987 : decode cL_law 987 = .ok (.ifCond .eq 7, 3) := by decide +kernel
theorem dL_law_990 : decode cL_law 990 = .ok (.iconst 1, 1) := by decide +kernel
theorem dL_law_991 : decode cL_law 991 = .ok (.goto 4, 3) := by decide +kernel
theorem dL_law_994 : decode cL_law 994 = .ok (.iconst 0, 1) := by decide +kernel
theorem dL_law_995 : decode cL_law 995 = .ok (.aload_n 3, 1) := by decide +kernel
theorem dL_law_996 : decode cL_law 996 = .ok (.invokestatic 196, 3) := by decide +kernel
theorem dL_law_999 : decode cL_law 999 = .ok (.istore 5, 2) := by decide +kernel
theorem dL_law_1001 : decode cL_law 1001 = .ok (.aload_n 2, 1) := by decide +kernel
theorem dL_law_1002 : decode cL_law 1002 = .ok (.aload_n 0, 1) := by decide +kernel
theorem dL_law_1003 : decode cL_law 1003 = .ok (.iload 4, 2) := by decide +kernel
theorem dL_law_1005 : decode cL_law 1005 = .ok (.iconst 1, 1) := by decide +kernel
theorem dL_law_1006 : decode cL_law 1006 = .ok (.iadd, 1) := by decide +kernel
theorem dL_law_1007 : decode cL_law 1007 = .ok (.iaload, 1) := by decide +kernel
theorem dL_law_1008 : decode cL_law 1008 = .ok (.aload_n 0, 1) := by decide +kernel
theorem dL_law_1009 : decode cL_law 1009 = .ok (.iload 4, 2) := by decide +kernel
theorem dL_law_1011 : decode cL_law 1011 = .ok (.iconst 2, 1) := by decide +kernel
theorem dL_law_1012 : decode cL_law 1012 = .ok (.iadd, 1) := by decide +kernel
theorem dL_law_1013 : decode cL_law 1013 = .ok (.iaload, 1) := by decide +kernel
theorem dL_law_1014 : decode cL_law 1014 = .ok (.ifCond .eq 7, 3) := by decide +kernel
theorem dL_law_1017 : decode cL_law 1017 = .ok (.iconst 1, 1) := by decide +kernel
theorem dL_law_1018 : decode cL_law 1018 = .ok (.goto 4, 3) := by decide +kernel
theorem dL_law_1021 : decode cL_law 1021 = .ok (.iconst 0, 1) := by decide +kernel
theorem dL_law_1022 : decode cL_law 1022 = .ok (.invokevirtual 199, 3) := by decide +kernel
theorem dL_law_1025 : decode cL_law 1025 = .ok (.istore 6, 2) := by decide +kernel
theorem dL_law_1027 : decode cL_law 1027 = .ok (.aload_n 2, 1) := by decide +kernel
theorem dL_law_1028 : decode cL_law 1028 = .ok (.invokevirtual 156, 3) := by decide +kernel
theorem dL_law_1031 : decode cL_law 1031 = .ok (.iload 5, 2) := by decide +kernel
theorem dL_law_1033 : decode cL_law 1033 = .ok (.if_icmp .eq 5, 3) := by decide +kernel
theorem dL_law_1036 : decode cL_law 1036 = .ok (.iconst 0, 1) := by decide +kernel
theorem dL_law_1037 : decode cL_law 1037 = .ok (.ireturn, 1) := by decide +kernel
theorem dL_law_1038 : decode cL_law 1038 = .ok (.iload 5, 2) := by decide +kernel
theorem dL_law_1040 : decode cL_law 1040 = .ok (.ifCond .ne 22, 3) := by decide +kernel
theorem dL_law_1043 : decode cL_law 1043 = .ok (.aload_n 3, 1) := by decide +kernel
theorem dL_law_1044 : decode cL_law 1044 = .ok (.iconst 0, 1) := by decide +kernel
theorem dL_law_1045 : decode cL_law 1045 = .ok (.laload, 1) := by decide +kernel
theorem dL_law_1046 : decode cL_law 1046 = .ok (.iload 6, 2) := by decide +kernel
theorem dL_law_1048 : decode cL_law 1048 = .ok (.ifCond .eq 7, 3) := by decide +kernel
theorem dL_law_1051 : decode cL_law 1051 = .ok (.lconst 1, 1) := by decide +kernel
theorem dL_law_1052 : decode cL_law 1052 = .ok (.goto 4, 3) := by decide +kernel
theorem dL_law_1055 : decode cL_law 1055 = .ok (.lconst 0, 1) := by decide +kernel
theorem dL_law_1056 : decode cL_law 1056 = .ok (.lcmp, 1) := by decide +kernel
theorem dL_law_1057 : decode cL_law 1057 = .ok (.ifCond .eq 5, 3) := by decide +kernel
theorem dL_law_1060 : decode cL_law 1060 = .ok (.iconst 0, 1) := by decide +kernel
theorem dL_law_1061 : decode cL_law 1061 = .ok (.ireturn, 1) := by decide +kernel
theorem dL_law_1062 : decode cL_law 1062 = .ok (.goto 1954, 3) := by decide +kernel
theorem dL_law_1065 : decode cL_law 1065 = .ok (.aload_n 1, 1) := by decide +kernel
theorem dL_law_1066 : decode cL_law 1066 = .ok (.aload_n 0, 1) := by decide +kernel
theorem dL_law_1067 : decode cL_law 1067 = .ok (.iload 4, 2) := by decide +kernel
theorem dL_law_1069 : decode cL_law 1069 = .ok (.iconst 1, 1) := by decide +kernel
theorem dL_law_1070 : decode cL_law 1070 = .ok (.iadd, 1) := by decide +kernel
theorem dL_law_1071 : decode cL_law 1071 = .ok (.iaload, 1) := by decide +kernel
theorem dL_law_1072 : decode cL_law 1072 = .ok (.aload_n 0, 1) := by decide +kernel
theorem dL_law_1073 : decode cL_law 1073 = .ok (.iload 4, 2) := by decide +kernel
theorem dL_law_1075 : decode cL_law 1075 = .ok (.iconst 2, 1) := by decide +kernel
theorem dL_law_1076 : decode cL_law 1076 = .ok (.iadd, 1) := by decide +kernel
theorem dL_law_1077 : decode cL_law 1077 = .ok (.iaload, 1) := by decide +kernel
theorem dL_law_1078 : decode cL_law 1078 = .ok (.invokestatic 200, 3) := by decide +kernel
theorem dL_law_1081 : decode cL_law 1081 = .ok (.istore 5, 2) := by decide +kernel
theorem dL_law_1083 : decode cL_law 1083 = .ok (.aload_n 2, 1) := by decide +kernel
theorem dL_law_1084 : decode cL_law 1084 = .ok (.aload_n 0, 1) := by decide +kernel
theorem dL_law_1085 : decode cL_law 1085 = .ok (.iload 4, 2) := by decide +kernel
theorem dL_law_1087 : decode cL_law 1087 = .ok (.iconst 1, 1) := by decide +kernel
theorem dL_law_1088 : decode cL_law 1088 = .ok (.iadd, 1) := by decide +kernel
theorem dL_law_1089 : decode cL_law 1089 = .ok (.iaload, 1) := by decide +kernel
theorem dL_law_1090 : decode cL_law 1090 = .ok (.aload_n 0, 1) := by decide +kernel
theorem dL_law_1091 : decode cL_law 1091 = .ok (.iload 4, 2) := by decide +kernel
theorem dL_law_1093 : decode cL_law 1093 = .ok (.iconst 2, 1) := by decide +kernel
theorem dL_law_1094 : decode cL_law 1094 = .ok (.iadd, 1) := by decide +kernel
theorem dL_law_1095 : decode cL_law 1095 = .ok (.iaload, 1) := by decide +kernel
theorem dL_law_1096 : decode cL_law 1096 = .ok (.invokevirtual 203, 3) := by decide +kernel
theorem dL_law_1099 : decode cL_law 1099 = .ok (.aload_n 2, 1) := by decide +kernel
