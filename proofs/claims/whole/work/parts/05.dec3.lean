theorem dX11_init_0 : decode cX11_init 0 = .ok (.aload_n 0, 1) := by decide +kernel
theorem dX11_init_1 : decode cX11_init 1 = .ok (.invokespecial 1, 3) := by decide +kernel
theorem dX11_init_4 : decode cX11_init 4 = .ok (.aload_n 0, 1) := by decide +kernel
theorem dX11_init_5 : decode cX11_init 5 = .ok (.sipush 600, 3) := by decide +kernel
theorem dX11_init_8 : decode cX11_init 8 = .ok (.newarray .byte, 2) := by decide +kernel
theorem dX11_init_10 : decode cX11_init 10 = .ok (.putfield 9, 3) := by decide +kernel
theorem dX11_init_13 : decode cX11_init 13 = .ok (.aload_n 0, 1) := by decide +kernel
theorem dX11_init_14 : decode cX11_init 14 = .ok (.iconst 2, 1) := by decide +kernel
theorem dX11_init_15 : decode cX11_init 15 = .ok (.bipush 15, 2) := by decide +kernel
theorem dX11_init_17 : decode cX11_init 17 = .ok (.multianewarray 13 2, 4) := by decide +kernel
theorem dX11_init_21 : decode cX11_init 21 = .ok (.putfield 15, 3) := by decide +kernel
theorem dX11_init_24 : decode cX11_init 24 = .ok (.aload_n 0, 1) := by decide +kernel
theorem dX11_init_25 : decode cX11_init 25 = .ok (.iconst 2, 1) := by decide +kernel
theorem dX11_init_26 : decode cX11_init 26 = .ok (.bipush 15, 2) := by decide +kernel
theorem dX11_init_28 : decode cX11_init 28 = .ok (.multianewarray 13 2, 4) := by decide +kernel
theorem dX11_init_32 : decode cX11_init 32 = .ok (.putfield 18, 3) := by decide +kernel
theorem dX11_init_35 : decode cX11_init 35 = .ok (.aload_n 0, 1) := by decide +kernel
theorem dX11_init_36 : decode cX11_init 36 = .ok (.iconst 2, 1) := by decide +kernel
theorem dX11_init_37 : decode cX11_init 37 = .ok (.bipush 15, 2) := by decide +kernel
theorem dX11_init_39 : decode cX11_init 39 = .ok (.multianewarray 13 2, 4) := by decide +kernel
theorem dX11_init_43 : decode cX11_init 43 = .ok (.putfield 21, 3) := by decide +kernel
theorem dX11_init_46 : decode cX11_init 46 = .ok (.aload_n 0, 1) := by decide +kernel
theorem dX11_init_47 : decode cX11_init 47 = .ok (.iconst 2, 1) := by decide +kernel
theorem dX11_init_48 : decode cX11_init 48 = .ok (.bipush 15, 2) := by decide +kernel
theorem dX11_init_50 : decode cX11_init 50 = .ok (.multianewarray 13 2, 4) := by decide +kernel
theorem dX11_init_54 : decode cX11_init 54 = .ok (.putfield 24, 3) := by decide +kernel
theorem dX11_init_57 : decode cX11_init 57 = .ok (.aload_n 0, 1) := by decide +kernel
theorem dX11_init_58 : decode cX11_init 58 = .ok (.iconst 2, 1) := by decide +kernel
theorem dX11_init_59 : decode cX11_init 59 = .ok (.bipush 15, 2) := by decide +kernel
theorem dX11_init_61 : decode cX11_init 61 = .ok (.multianewarray 13 2, 4) := by decide +kernel
theorem dX11_init_65 : decode cX11_init 65 = .ok (.putfield 27, 3) := by decide +kernel
theorem dX11_init_68 : decode cX11_init 68 = .ok (.aload_n 0, 1) := by decide +kernel
theorem dX11_init_69 : decode cX11_init 69 = .ok (.iconst 2, 1) := by decide +kernel
theorem dX11_init_70 : decode cX11_init 70 = .ok (.bipush 15, 2) := by decide +kernel
theorem dX11_init_72 : decode cX11_init 72 = .ok (.multianewarray 13 2, 4) := by decide +kernel
theorem dX11_init_76 : decode cX11_init 76 = .ok (.putfield 30, 3) := by decide +kernel
theorem dX11_init_79 : decode cX11_init 79 = .ok (.aload_n 0, 1) := by decide +kernel
theorem dX11_init_80 : decode cX11_init 80 = .ok (.iconst 2, 1) := by decide +kernel
theorem dX11_init_81 : decode cX11_init 81 = .ok (.bipush 20, 2) := by decide +kernel
theorem dX11_init_83 : decode cX11_init 83 = .ok (.multianewarray 13 2, 4) := by decide +kernel
theorem dX11_init_87 : decode cX11_init 87 = .ok (.putfield 33, 3) := by decide +kernel
theorem dX11_init_90 : decode cX11_init 90 = .ok (.aload_n 0, 1) := by decide +kernel
theorem dX11_init_91 : decode cX11_init 91 = .ok (.iconst 2, 1) := by decide +kernel
theorem dX11_init_92 : decode cX11_init 92 = .ok (.bipush 20, 2) := by decide +kernel
theorem dX11_init_94 : decode cX11_init 94 = .ok (.multianewarray 13 2, 4) := by decide +kernel
theorem dX11_init_98 : decode cX11_init 98 = .ok (.putfield 36, 3) := by decide +kernel
theorem dX11_init_101 : decode cX11_init 101 = .ok (.aload_n 0, 1) := by decide +kernel
theorem dX11_init_102 : decode cX11_init 102 = .ok (.iconst 2, 1) := by decide +kernel
theorem dX11_init_103 : decode cX11_init 103 = .ok (.newarray .int, 2) := by decide +kernel
theorem dX11_init_105 : decode cX11_init 105 = .ok (.putfield 39, 3) := by decide +kernel
theorem dX11_init_108 : decode cX11_init 108 = .ok (.aload_n 0, 1) := by decide +kernel
theorem dX11_init_109 : decode cX11_init 109 = .ok (.iconst 2, 1) := by decide +kernel
theorem dX11_init_110 : decode cX11_init 110 = .ok (.newarray .int, 2) := by decide +kernel
theorem dX11_init_112 : decode cX11_init 112 = .ok (.putfield 43, 3) := by decide +kernel
theorem dX11_init_115 : decode cX11_init 115 = .ok (.aload_n 0, 1) := by decide +kernel
theorem dX11_init_116 : decode cX11_init 116 = .ok (.iconst 2, 1) := by decide +kernel
theorem dX11_init_117 : decode cX11_init 117 = .ok (.newarray .int, 2) := by decide +kernel
theorem dX11_init_119 : decode cX11_init 119 = .ok (.putfield 46, 3) := by decide +kernel
theorem dX11_init_122 : decode cX11_init 122 = .ok (.aload_n 0, 1) := by decide +kernel
theorem dX11_init_123 : decode cX11_init 123 = .ok (.iconst 2, 1) := by decide +kernel
theorem dX11_init_124 : decode cX11_init 124 = .ok (.newarray .int, 2) := by decide +kernel
theorem dX11_init_126 : decode cX11_init 126 = .ok (.putfield 49, 3) := by decide +kernel
theorem dX11_init_129 : decode cX11_init 129 = .ok (.aload_n 0, 1) := by decide +kernel
theorem dX11_init_130 : decode cX11_init 130 = .ok (.iconst 2, 1) := by decide +kernel
theorem dX11_init_131 : decode cX11_init 131 = .ok (.newarray .int, 2) := by decide +kernel
theorem dX11_init_133 : decode cX11_init 133 = .ok (.putfield 52, 3) := by decide +kernel
theorem dX11_init_136 : decode cX11_init 136 = .ok (.aload_n 0, 1) := by decide +kernel
theorem dX11_init_137 : decode cX11_init 137 = .ok (.iconst 4, 1) := by decide +kernel
theorem dX11_init_138 : decode cX11_init 138 = .ok (.anewarray 55, 3) := by decide +kernel
theorem dX11_init_141 : decode cX11_init 141 = .ok (.dup, 1) := by decide +kernel
theorem dX11_init_142 : decode cX11_init 142 = .ok (.iconst 0, 1) := by decide +kernel
theorem dX11_init_143 : decode cX11_init 143 = .ok (.ldc 57, 2) := by decide +kernel
theorem dX11_init_145 : decode cX11_init 145 = .ok (.aastore, 1) := by decide +kernel
theorem dX11_init_146 : decode cX11_init 146 = .ok (.dup, 1) := by decide +kernel
theorem dX11_init_147 : decode cX11_init 147 = .ok (.iconst 1, 1) := by decide +kernel
theorem dX11_init_148 : decode cX11_init 148 = .ok (.ldc 59, 2) := by decide +kernel
theorem dX11_init_150 : decode cX11_init 150 = .ok (.aastore, 1) := by decide +kernel
theorem dX11_init_151 : decode cX11_init 151 = .ok (.dup, 1) := by decide +kernel
theorem dX11_init_152 : decode cX11_init 152 = .ok (.iconst 2, 1) := by decide +kernel
theorem dX11_init_153 : decode cX11_init 153 = .ok (.ldc 61, 2) := by decide +kernel
theorem dX11_init_155 : decode cX11_init 155 = .ok (.aastore, 1) := by decide +kernel
theorem dX11_init_156 : decode cX11_init 156 = .ok (.dup, 1) := by decide +kernel
theorem dX11_init_157 : decode cX11_init 157 = .ok (.iconst 3, 1) := by decide +kernel
theorem dX11_init_158 : decode cX11_init 158 = .ok (.ldc 63, 2) := by decide +kernel
theorem dX11_init_160 : decode cX11_init 160 = .ok (.aastore, 1) := by decide +kernel
theorem dX11_init_161 : decode cX11_init 161 = .ok (.putfield 65, 3) := by decide +kernel
theorem dX11_init_164 : decode cX11_init 164 = .ok (.aload_n 0, 1) := by decide +kernel
theorem dX11_init_165 : decode cX11_init 165 = .ok (.bipush 105, 2) := by decide +kernel
theorem dX11_init_167 : decode cX11_init 167 = .ok (.newarray .int, 2) := by decide +kernel
theorem dX11_init_169 : decode cX11_init 169 = .ok (.putfield 69, 3) := by decide +kernel
theorem dX11_init_172 : decode cX11_init 172 = .ok (.aload_n 0, 1) := by decide +kernel
theorem dX11_init_173 : decode cX11_init 173 = .ok (.bipush 105, 2) := by decide +kernel
theorem dX11_init_175 : decode cX11_init 175 = .ok (.newarray .int, 2) := by decide +kernel
theorem dX11_init_177 : decode cX11_init 177 = .ok (.putfield 72, 3) := by decide +kernel
theorem dX11_init_180 : decode cX11_init 180 = .ok (.aload_n 0, 1) := by decide +kernel
theorem dX11_init_181 : decode cX11_init 181 = .ok (.bipush 105, 2) := by decide +kernel
theorem dX11_init_183 : decode cX11_init 183 = .ok (.newarray .int, 2) := by decide +kernel
theorem dX11_init_185 : decode cX11_init 185 = .ok (.putfield 75, 3) := by decide +kernel
theorem dX11_init_188 : decode cX11_init 188 = .ok (.aload_n 0, 1) := by decide +kernel
theorem dX11_init_189 : decode cX11_init 189 = .ok (.sipush 5600, 3) := by decide +kernel
theorem dX11_init_192 : decode cX11_init 192 = .ok (.newarray .long, 2) := by decide +kernel
theorem dX11_init_194 : decode cX11_init 194 = .ok (.putfield 78, 3) := by decide +kernel
theorem dX11_init_197 : decode cX11_init 197 = .ok (.aload_n 0, 1) := by decide +kernel
theorem dX11_init_198 : decode cX11_init 198 = .ok (.sipush 5600, 3) := by decide +kernel
theorem dX11_init_201 : decode cX11_init 201 = .ok (.newarray .long, 2) := by decide +kernel
theorem dX11_init_203 : decode cX11_init 203 = .ok (.putfield 82, 3) := by decide +kernel
theorem dX11_init_206 : decode cX11_init 206 = .ok (.aload_n 0, 1) := by decide +kernel
theorem dX11_init_207 : decode cX11_init 207 = .ok (.sipush 5600, 3) := by decide +kernel
theorem dX11_init_210 : decode cX11_init 210 = .ok (.newarray .long, 2) := by decide +kernel
theorem dX11_init_212 : decode cX11_init 212 = .ok (.putfield 85, 3) := by decide +kernel
theorem dX11_init_215 : decode cX11_init 215 = .ok (.aload_n 0, 1) := by decide +kernel
theorem dX11_init_216 : decode cX11_init 216 = .ok (.sipush 10000, 3) := by decide +kernel
theorem dX11_init_219 : decode cX11_init 219 = .ok (.newarray .int, 2) := by decide +kernel
theorem dX11_init_221 : decode cX11_init 221 = .ok (.putfield 88, 3) := by decide +kernel
theorem dX11_init_224 : decode cX11_init 224 = .ok (.aload_n 0, 1) := by decide +kernel
theorem dX11_init_225 : decode cX11_init 225 = .ok (.sipush 10000, 3) := by decide +kernel
theorem dX11_init_228 : decode cX11_init 228 = .ok (.newarray .int, 2) := by decide +kernel
theorem dX11_init_230 : decode cX11_init 230 = .ok (.putfield 91, 3) := by decide +kernel
theorem dX11_init_233 : decode cX11_init 233 = .ok (.aload_n 0, 1) := by decide +kernel
theorem dX11_init_234 : decode cX11_init 234 = .ok (.bipush 20, 2) := by decide +kernel
theorem dX11_init_236 : decode cX11_init 236 = .ok (.newarray .int, 2) := by decide +kernel
theorem dX11_init_238 : decode cX11_init 238 = .ok (.putfield 94, 3) := by decide +kernel
theorem dX11_init_241 : decode cX11_init 241 = .ok (.aload_n 0, 1) := by decide +kernel
theorem dX11_init_242 : decode cX11_init 242 = .ok (.bipush 8, 2) := by decide +kernel
theorem dX11_init_244 : decode cX11_init 244 = .ok (.bipush 8, 2) := by decide +kernel
theorem dX11_init_246 : decode cX11_init 246 = .ok (.multianewarray 97 2, 4) := by decide +kernel
theorem dX11_init_250 : decode cX11_init 250 = .ok (.putfield 99, 3) := by decide +kernel
theorem dX11_init_253 : decode cX11_init 253 = .ok (.aload_n 0, 1) := by decide +kernel
theorem dX11_init_254 : decode cX11_init 254 = .ok (.bipush 8, 2) := by decide +kernel
theorem dX11_init_256 : decode cX11_init 256 = .ok (.newarray .long, 2) := by decide +kernel
theorem dX11_init_258 : decode cX11_init 258 = .ok (.putfield 102, 3) := by decide +kernel
theorem dX11_init_261 : decode cX11_init 261 = .ok (.aload_n 0, 1) := by decide +kernel
theorem dX11_init_262 : decode cX11_init 262 = .ok (.bipush 15, 2) := by decide +kernel
theorem dX11_init_264 : decode cX11_init 264 = .ok (.newarray .int, 2) := by decide +kernel
theorem dX11_init_266 : decode cX11_init 266 = .ok (.putfield 105, 3) := by decide +kernel
theorem dX11_init_269 : decode cX11_init 269 = .ok (.aload_n 0, 1) := by decide +kernel
theorem dX11_init_270 : decode cX11_init 270 = .ok (.bipush 15, 2) := by decide +kernel
theorem dX11_init_272 : decode cX11_init 272 = .ok (.newarray .int, 2) := by decide +kernel
theorem dX11_init_274 : decode cX11_init 274 = .ok (.putfield 108, 3) := by decide +kernel
theorem dX11_init_277 : decode cX11_init 277 = .ok (.aload_n 0, 1) := by decide +kernel
theorem dX11_init_278 : decode cX11_init 278 = .ok (.bipush 40, 2) := by decide +kernel
theorem dX11_init_280 : decode cX11_init 280 = .ok (.bipush 9, 2) := by decide +kernel
theorem dX11_init_282 : decode cX11_init 282 = .ok (.multianewarray 13 2, 4) := by decide +kernel
theorem dX11_init_286 : decode cX11_init 286 = .ok (.putfield 111, 3) := by decide +kernel
theorem dX11_init_289 : decode cX11_init 289 = .ok (.return_, 1) := by decide +kernel
theorem dX11_in_0 : decode cX11_in 0 = .ok (.lload_n 0, 1) := by decide +kernel
theorem dX11_in_1 : decode cX11_in 1 = .ok (.lload_n 2, 1) := by decide +kernel
theorem dX11_in_2 : decode cX11_in 2 = .ok (.lcmp, 1) := by decide +kernel
theorem dX11_in_3 : decode cX11_in 3 = .ok (.ifCond .lt 14, 3) := by decide +kernel
theorem dX11_in_6 : decode cX11_in 6 = .ok (.lload_n 0, 1) := by decide +kernel
theorem dX11_in_7 : decode cX11_in 7 = .ok (.lload 4, 2) := by decide +kernel
theorem dX11_in_9 : decode cX11_in 9 = .ok (.lcmp, 1) := by decide +kernel
theorem dX11_in_10 : decode cX11_in 10 = .ok (.ifCond .gt 7, 3) := by decide +kernel
theorem dX11_in_13 : decode cX11_in 13 = .ok (.iconst 1, 1) := by decide +kernel
theorem dX11_in_14 : decode cX11_in 14 = .ok (.goto 4, 3) := by decide +kernel
theorem dX11_in_17 : decode cX11_in 17 = .ok (.iconst 0, 1) := by decide +kernel
theorem dX11_in_18 : decode cX11_in 18 = .ok (.ireturn, 1) := by decide +kernel
theorem dX11_gcd_0 : decode cX11_gcd 0 = .ok (.lload_n 0, 1) := by decide +kernel
theorem dX11_gcd_1 : decode cX11_gcd 1 = .ok (.lconst 0, 1) := by decide +kernel
theorem dX11_gcd_2 : decode cX11_gcd 2 = .ok (.lcmp, 1) := by decide +kernel
theorem dX11_gcd_3 : decode cX11_gcd 3 = .ok (.ifCond .ge 8, 3) := by decide +kernel
theorem dX11_gcd_6 : decode cX11_gcd 6 = .ok (.lload_n 0, 1) := by decide +kernel
theorem dX11_gcd_7 : decode cX11_gcd 7 = .ok (.lneg, 1) := by decide +kernel
theorem dX11_gcd_8 : decode cX11_gcd 8 = .ok (.goto 4, 3) := by decide +kernel
theorem dX11_gcd_11 : decode cX11_gcd 11 = .ok (.lload_n 0, 1) := by decide +kernel
theorem dX11_gcd_12 : decode cX11_gcd 12 = .ok (.lstore 4, 2) := by decide +kernel
theorem dX11_gcd_14 : decode cX11_gcd 14 = .ok (.lload_n 2, 1) := by decide +kernel
theorem dX11_gcd_15 : decode cX11_gcd 15 = .ok (.lconst 0, 1) := by decide +kernel
theorem dX11_gcd_16 : decode cX11_gcd 16 = .ok (.lcmp, 1) := by decide +kernel
theorem dX11_gcd_17 : decode cX11_gcd 17 = .ok (.ifCond .ge 8, 3) := by decide +kernel
theorem dX11_gcd_20 : decode cX11_gcd 20 = .ok (.lload_n 2, 1) := by decide +kernel
theorem dX11_gcd_21 : decode cX11_gcd 21 = .ok (.lneg, 1) := by decide +kernel
theorem dX11_gcd_22 : decode cX11_gcd 22 = .ok (.goto 4, 3) := by decide +kernel
theorem dX11_gcd_25 : decode cX11_gcd 25 = .ok (.lload_n 2, 1) := by decide +kernel
theorem dX11_gcd_26 : decode cX11_gcd 26 = .ok (.lstore 6, 2) := by decide +kernel
theorem dX11_gcd_28 : decode cX11_gcd 28 = .ok (.lload 6, 2) := by decide +kernel
theorem dX11_gcd_30 : decode cX11_gcd 30 = .ok (.lconst 0, 1) := by decide +kernel
theorem dX11_gcd_31 : decode cX11_gcd 31 = .ok (.lcmp, 1) := by decide +kernel
theorem dX11_gcd_32 : decode cX11_gcd 32 = .ok (.ifCond .le 21, 3) := by decide +kernel
theorem dX11_gcd_35 : decode cX11_gcd 35 = .ok (.lload 4, 2) := by decide +kernel
theorem dX11_gcd_37 : decode cX11_gcd 37 = .ok (.lload 6, 2) := by decide +kernel
theorem dX11_gcd_39 : decode cX11_gcd 39 = .ok (.lrem, 1) := by decide +kernel
theorem dX11_gcd_40 : decode cX11_gcd 40 = .ok (.lstore 8, 2) := by decide +kernel
theorem dX11_gcd_42 : decode cX11_gcd 42 = .ok (.lload 6, 2) := by decide +kernel
theorem dX11_gcd_44 : decode cX11_gcd 44 = .ok (.lstore 4, 2) := by decide +kernel
theorem dX11_gcd_46 : decode cX11_gcd 46 = .ok (.lload 8, 2) := by decide +kernel
theorem dX11_gcd_48 : decode cX11_gcd 48 = .ok (.lstore 6, 2) := by decide +kernel
theorem dX11_gcd_50 : decode cX11_gcd 50 = .ok (.goto (-22), 3) := by decide +kernel
theorem dX11_gcd_53 : decode cX11_gcd 53 = .ok (.lload 4, 2) := by decide +kernel
theorem dX11_gcd_55 : decode cX11_gcd 55 = .ok (.lreturn, 1) := by decide +kernel
theorem dX11_feeds_0 : decode cX11_feeds 0 = .ok (.iconst 3, 1) := by decide +kernel
theorem dX11_feeds_1 : decode cX11_feeds 1 = .ok (.istore_n 2, 1) := by decide +kernel
theorem dX11_feeds_2 : decode cX11_feeds 2 = .ok (.iload_n 2, 1) := by decide +kernel
theorem dX11_feeds_3 : decode cX11_feeds 3 = .ok (.ifCond .lt 35, 3) := by decide +kernel
theorem dX11_feeds_6 : decode cX11_feeds 6 = .ok (.aload_n 0, 1) := by decide +kernel
theorem dX11_feeds_7 : decode cX11_feeds 7 = .ok (.getfield 9, 3) := by decide +kernel
theorem dX11_feeds_10 : decode cX11_feeds 10 = .ok (.aload_n 0, 1) := by decide +kernel
theorem dX11_feeds_11 : decode cX11_feeds 11 = .ok (.getfield 114, 3) := by decide +kernel
theorem dX11_feeds_14 : decode cX11_feeds 14 = .ok (.iload_n 1, 1) := by decide +kernel
theorem dX11_feeds_15 : decode cX11_feeds 15 = .ok (.bipush 8, 2) := by decide +kernel
theorem dX11_feeds_17 : decode cX11_feeds 17 = .ok (.iload_n 2, 1) := by decide +kernel
theorem dX11_feeds_18 : decode cX11_feeds 18 = .ok (.imul, 1) := by decide +kernel
theorem dX11_feeds_19 : decode cX11_feeds 19 = .ok (.iushr, 1) := by decide +kernel
theorem dX11_feeds_20 : decode cX11_feeds 20 = .ok (.i2b, 1) := by decide +kernel
theorem dX11_feeds_21 : decode cX11_feeds 21 = .ok (.bastore, 1) := by decide +kernel
theorem dX11_feeds_22 : decode cX11_feeds 22 = .ok (.aload_n 0, 1) := by decide +kernel
theorem dX11_feeds_23 : decode cX11_feeds 23 = .ok (.dup, 1) := by decide +kernel
theorem dX11_feeds_24 : decode cX11_feeds 24 = .ok (.getfield 114, 3) := by decide +kernel
theorem dX11_feeds_27 : decode cX11_feeds 27 = .ok (.iconst 1, 1) := by decide +kernel
theorem dX11_feeds_28 : decode cX11_feeds 28 = .ok (.iadd, 1) := by decide +kernel
theorem dX11_feeds_29 : decode cX11_feeds 29 = .ok (.putfield 114, 3) := by decide +kernel
theorem dX11_feeds_32 : decode cX11_feeds 32 = .ok (.iinc 2 (-1), 3) := by decide +kernel
theorem dX11_feeds_35 : decode cX11_feeds 35 = .ok (.goto (-33), 3) := by decide +kernel
theorem dX11_feeds_38 : decode cX11_feeds 38 = .ok (.return_, 1) := by decide +kernel
theorem dX11_feed_0 : decode cX11_feed 0 = .ok (.aload_n 0, 1) := by decide +kernel
theorem dX11_feed_1 : decode cX11_feed 1 = .ok (.getfield 114, 3) := by decide +kernel
theorem dX11_feed_4 : decode cX11_feed 4 = .ok (.bipush 20, 2) := by decide +kernel
theorem dX11_feed_6 : decode cX11_feed 6 = .ok (.iadd, 1) := by decide +kernel
theorem dX11_feed_7 : decode cX11_feed 7 = .ok (.sipush 600, 3) := by decide +kernel
theorem dX11_feed_10 : decode cX11_feed 10 = .ok (.if_icmp .le 5, 3) := by decide +kernel
theorem dX11_feed_13 : decode cX11_feed 13 = .ok (.iconst (-1), 1) := by decide +kernel
theorem dX11_feed_14 : decode cX11_feed 14 = .ok (.ireturn, 1) := by decide +kernel
theorem dX11_feed_15 : decode cX11_feed 15 = .ok (.aload_n 0, 1) := by decide +kernel
theorem dX11_feed_16 : decode cX11_feed 16 = .ok (.iload_n 1, 1) := by decide +kernel
theorem dX11_feed_17 : decode cX11_feed 17 = .ok (.invokevirtual 118, 3) := by decide +kernel
theorem dX11_feed_20 : decode cX11_feed 20 = .ok (.aload_n 0, 1) := by decide +kernel
theorem dX11_feed_21 : decode cX11_feed 21 = .ok (.iload_n 2, 1) := by decide +kernel
theorem dX11_feed_22 : decode cX11_feed 22 = .ok (.invokevirtual 118, 3) := by decide +kernel
theorem dX11_feed_25 : decode cX11_feed 25 = .ok (.aload_n 0, 1) := by decide +kernel
theorem dX11_feed_26 : decode cX11_feed 26 = .ok (.iload_n 3, 1) := by decide +kernel
theorem dX11_feed_27 : decode cX11_feed 27 = .ok (.invokevirtual 118, 3) := by decide +kernel
theorem dX11_feed_30 : decode cX11_feed 30 = .ok (.aload_n 0, 1) := by decide +kernel
theorem dX11_feed_31 : decode cX11_feed 31 = .ok (.iload 4, 2) := by decide +kernel
theorem dX11_feed_33 : decode cX11_feed 33 = .ok (.invokevirtual 118, 3) := by decide +kernel
theorem dX11_feed_36 : decode cX11_feed 36 = .ok (.aload_n 0, 1) := by decide +kernel
theorem dX11_feed_37 : decode cX11_feed 37 = .ok (.iload 5, 2) := by decide +kernel
theorem dX11_feed_39 : decode cX11_feed 39 = .ok (.invokevirtual 118, 3) := by decide +kernel
theorem dX11_feed_42 : decode cX11_feed 42 = .ok (.aload_n 0, 1) := by decide +kernel
theorem dX11_feed_43 : decode cX11_feed 43 = .ok (.getfield 114, 3) := by decide +kernel
theorem dX11_feed_46 : decode cX11_feed 46 = .ok (.ireturn, 1) := by decide +kernel
theorem dX11_end_0 : decode cX11_end 0 = .ok (.iload_n 1, 1) := by decide +kernel
theorem dX11_end_1 : decode cX11_end 1 = .ok (.i2l, 1) := by decide +kernel
theorem dX11_end_2 : decode cX11_end 2 = .ok (.lconst 0, 1) := by decide +kernel
theorem dX11_end_3 : decode cX11_end 3 = .ok (.aload_n 0, 1) := by decide +kernel
theorem dX11_end_4 : decode cX11_end 4 = .ok (.getfield 114, 3) := by decide +kernel
theorem dX11_end_7 : decode cX11_end 7 = .ok (.i2l, 1) := by decide +kernel
theorem dX11_end_8 : decode cX11_end 8 = .ok (.invokestatic 122, 3) := by decide +kernel
theorem dX11_end_11 : decode cX11_end 11 = .ok (.ifCond .ne 5, 3) := by decide +kernel
theorem dX11_end_14 : decode cX11_end 14 = .ok (.iconst 0, 1) := by decide +kernel
theorem dX11_end_15 : decode cX11_end 15 = .ok (.ireturn, 1) := by decide +kernel
theorem dX11_end_16 : decode cX11_end 16 = .ok (.aload_n 0, 1) := by decide +kernel
theorem dX11_end_17 : decode cX11_end 17 = .ok (.iload_n 1, 1) := by decide +kernel
theorem dX11_end_18 : decode cX11_end 18 = .ok (.putfield 114, 3) := by decide +kernel
theorem dX11_end_21 : decode cX11_end 21 = .ok (.iconst 1, 1) := by decide +kernel
theorem dX11_end_22 : decode cX11_end 22 = .ok (.ireturn, 1) := by decide +kernel
theorem dX11_isLetter_0 : decode cX11_isLetter 0 = .ok (.iload_n 0, 1) := by decide +kernel
theorem dX11_isLetter_1 : decode cX11_isLetter 1 = .ok (.bipush 97, 2) := by decide +kernel
theorem dX11_isLetter_3 : decode cX11_isLetter 3 = .ok (.if_icmp .lt 13, 3) := by decide +kernel
theorem dX11_isLetter_6 : decode cX11_isLetter 6 = .ok (.iload_n 0, 1) := by decide +kernel
theorem dX11_isLetter_7 : decode cX11_isLetter 7 = .ok (.bipush 122, 2) := by decide +kernel
theorem dX11_isLetter_9 : decode cX11_isLetter 9 = .ok (.if_icmp .gt 7, 3) := by decide +kernel
theorem dX11_isLetter_12 : decode cX11_isLetter 12 = .ok (.iconst 1, 1) := by decide +kernel
theorem dX11_isLetter_13 : decode cX11_isLetter 13 = .ok (.goto 4, 3) := by decide +kernel
theorem dX11_isLetter_16 : decode cX11_isLetter 16 = .ok (.iconst 0, 1) := by decide +kernel
theorem dX11_isLetter_17 : decode cX11_isLetter 17 = .ok (.ireturn, 1) := by decide +kernel
theorem dX11_isDigit_0 : decode cX11_isDigit 0 = .ok (.iload_n 0, 1) := by decide +kernel
theorem dX11_isDigit_1 : decode cX11_isDigit 1 = .ok (.bipush 48, 2) := by decide +kernel
theorem dX11_isDigit_3 : decode cX11_isDigit 3 = .ok (.if_icmp .lt 13, 3) := by decide +kernel
theorem dX11_isDigit_6 : decode cX11_isDigit 6 = .ok (.iload_n 0, 1) := by decide +kernel
theorem dX11_isDigit_7 : decode cX11_isDigit 7 = .ok (.bipush 57, 2) := by decide +kernel
theorem dX11_isDigit_9 : decode cX11_isDigit 9 = .ok (.if_icmp .gt 7, 3) := by decide +kernel
theorem dX11_isDigit_12 : decode cX11_isDigit 12 = .ok (.iconst 1, 1) := by decide +kernel
theorem dX11_isDigit_13 : decode cX11_isDigit 13 = .ok (.goto 4, 3) := by decide +kernel
theorem dX11_isDigit_16 : decode cX11_isDigit 16 = .ok (.iconst 0, 1) := by decide +kernel
theorem dX11_isDigit_17 : decode cX11_isDigit 17 = .ok (.ireturn, 1) := by decide +kernel
theorem dX11_skips_0 : decode cX11_skips 0 = .ok (.aload_n 0, 1) := by decide +kernel
theorem dX11_skips_1 : decode cX11_skips 1 = .ok (.getfield 126, 3) := by decide +kernel
theorem dX11_skips_4 : decode cX11_skips 4 = .ok (.aload_n 0, 1) := by decide +kernel
theorem dX11_skips_5 : decode cX11_skips 5 = .ok (.getfield 114, 3) := by decide +kernel
theorem dX11_skips_8 : decode cX11_skips 8 = .ok (.if_icmp .ge 44, 3) := by decide +kernel
theorem dX11_skips_11 : decode cX11_skips 11 = .ok (.aload_n 0, 1) := by decide +kernel
theorem dX11_skips_12 : decode cX11_skips 12 = .ok (.getfield 9, 3) := by decide +kernel
theorem dX11_skips_15 : decode cX11_skips 15 = .ok (.aload_n 0, 1) := by decide +kernel
theorem dX11_skips_16 : decode cX11_skips 16 = .ok (.getfield 126, 3) := by decide +kernel
theorem dX11_skips_19 : decode cX11_skips 19 = .ok (.baload, 1) := by decide +kernel
theorem dX11_skips_20 : decode cX11_skips 20 = .ok (.bipush 32, 2) := by decide +kernel
theorem dX11_skips_22 : decode cX11_skips 22 = .ok (.if_icmp .eq 17, 3) := by decide +kernel
theorem dX11_skips_25 : decode cX11_skips 25 = .ok (.aload_n 0, 1) := by decide +kernel
theorem dX11_skips_26 : decode cX11_skips 26 = .ok (.getfield 9, 3) := by decide +kernel
theorem dX11_skips_29 : decode cX11_skips 29 = .ok (.aload_n 0, 1) := by decide +kernel
theorem dX11_skips_30 : decode cX11_skips 30 = .ok (.getfield 126, 3) := by decide +kernel
theorem dX11_skips_33 : decode cX11_skips 33 = .ok (.baload, 1) := by decide +kernel
theorem dX11_skips_34 : decode cX11_skips 34 = .ok (.bipush 10, 2) := by decide +kernel
theorem dX11_skips_36 : decode cX11_skips 36 = .ok (.if_icmp .ne 16, 3) := by decide +kernel
theorem dX11_skips_39 : decode cX11_skips 39 = .ok (.aload_n 0, 1) := by decide +kernel
theorem dX11_skips_40 : decode cX11_skips 40 = .ok (.dup, 1) := by decide +kernel
theorem dX11_skips_41 : decode cX11_skips 41 = .ok (.getfield 126, 3) := by decide +kernel
theorem dX11_skips_44 : decode cX11_skips 44 = .ok (.iconst 1, 1) := by decide +kernel
theorem dX11_skips_45 : decode cX11_skips 45 = .ok (.iadd, 1) := by decide +kernel
theorem dX11_skips_46 : decode cX11_skips 46 = .ok (.putfield 126, 3) := by decide +kernel
theorem dX11_skips_49 : decode cX11_skips 49 = .ok (.goto (-49), 3) := by decide +kernel
theorem dX11_skips_52 : decode cX11_skips 52 = .ok (.aload_n 0, 1) := by decide +kernel
theorem dX11_skips_53 : decode cX11_skips 53 = .ok (.aload_n 0, 1) := by decide +kernel
theorem dX11_skips_54 : decode cX11_skips 54 = .ok (.getfield 126, 3) := by decide +kernel
theorem dX11_skips_57 : decode cX11_skips 57 = .ok (.putfield 129, 3) := by decide +kernel
theorem dX11_skips_60 : decode cX11_skips 60 = .ok (.aload_n 0, 1) := by decide +kernel
theorem dX11_skips_61 : decode cX11_skips 61 = .ok (.getfield 126, 3) := by decide +kernel
theorem dX11_skips_64 : decode cX11_skips 64 = .ok (.aload_n 0, 1) := by decide +kernel
theorem dX11_skips_65 : decode cX11_skips 65 = .ok (.getfield 114, 3) := by decide +kernel
theorem dX11_skips_68 : decode cX11_skips 68 = .ok (.if_icmp .ne 4, 3) := by decide +kernel
theorem dX11_skips_71 : decode cX11_skips 71 = .ok (.return_, 1) := by decide +kernel
theorem dX11_skips_72 : decode cX11_skips 72 = .ok (.aload_n 0, 1) := by decide +kernel
theorem dX11_skips_73 : decode cX11_skips 73 = .ok (.getfield 9, 3) := by decide +kernel
theorem dX11_skips_76 : decode cX11_skips 76 = .ok (.aload_n 0, 1) := by decide +kernel
theorem dX11_skips_77 : decode cX11_skips 77 = .ok (.getfield 126, 3) := by decide +kernel
theorem dX11_skips_80 : decode cX11_skips 80 = .ok (.baload, 1) := by decide +kernel
theorem dX11_skips_81 : decode cX11_skips 81 = .ok (.invokestatic 132, 3) := by decide +kernel
theorem dX11_skips_84 : decode cX11_skips 84 = .ok (.ifCond .eq 42, 3) := by decide +kernel
theorem dX11_skips_87 : decode cX11_skips 87 = .ok (.aload_n 0, 1) := by decide +kernel
theorem dX11_skips_88 : decode cX11_skips 88 = .ok (.getfield 129, 3) := by decide +kernel
theorem dX11_skips_91 : decode cX11_skips 91 = .ok (.aload_n 0, 1) := by decide +kernel
theorem dX11_skips_92 : decode cX11_skips 92 = .ok (.getfield 114, 3) := by decide +kernel
theorem dX11_skips_95 : decode cX11_skips 95 = .ok (.if_icmp .ge 95, 3) := by decide +kernel
theorem dX11_skips_98 : decode cX11_skips 98 = .ok (.aload_n 0, 1) := by decide +kernel
theorem dX11_skips_99 : decode cX11_skips 99 = .ok (.getfield 9, 3) := by decide +kernel
theorem dX11_skips_102 : decode cX11_skips 102 = .ok (.aload_n 0, 1) := by decide +kernel
theorem dX11_skips_103 : decode cX11_skips 103 = .ok (.getfield 129, 3) := by decide +kernel
theorem dX11_skips_106 : decode cX11_skips 106 = .ok (.baload, 1) := by decide +kernel
theorem dX11_skips_107 : decode cX11_skips 107 = .ok (.invokestatic 132, 3) := by decide +kernel
theorem dX11_skips_110 : decode cX11_skips 110 = .ok (.ifCond .eq 80, 3) := by decide +kernel
theorem dX11_skips_113 : decode cX11_skips 113 = .ok (.aload_n 0, 1) := by decide +kernel
theorem dX11_skips_114 : decode cX11_skips 114 = .ok (.dup, 1) := by decide +kernel
theorem dX11_skips_115 : decode cX11_skips 115 = .ok (.getfield 129, 3) := by decide +kernel
theorem dX11_skips_118 : decode cX11_skips 118 = .ok (.iconst 1, 1) := by decide +kernel
theorem dX11_skips_119 : decode cX11_skips 119 = .ok (.iadd, 1) := by decide +kernel
theorem dX11_skips_120 : decode cX11_skips 120 = .ok (.putfield 129, 3) := by decide +kernel
theorem dX11_skips_123 : decode cX11_skips 123 = .ok (.goto (-36), 3) := by decide +kernel
theorem dX11_skips_126 : decode cX11_skips 126 = .ok (.aload_n 0, 1) := by decide +kernel
theorem dX11_skips_127 : decode cX11_skips 127 = .ok (.getfield 9, 3) := by decide +kernel
theorem dX11_skips_130 : decode cX11_skips 130 = .ok (.aload_n 0, 1) := by decide +kernel
theorem dX11_skips_131 : decode cX11_skips 131 = .ok (.getfield 126, 3) := by decide +kernel
theorem dX11_skips_134 : decode cX11_skips 134 = .ok (.baload, 1) := by decide +kernel
theorem dX11_skips_135 : decode cX11_skips 135 = .ok (.invokestatic 136, 3) := by decide +kernel
theorem dX11_skips_138 : decode cX11_skips 138 = .ok (.ifCond .eq 42, 3) := by decide +kernel
theorem dX11_skips_141 : decode cX11_skips 141 = .ok (.aload_n 0, 1) := by decide +kernel
theorem dX11_skips_142 : decode cX11_skips 142 = .ok (.getfield 129, 3) := by decide +kernel
theorem dX11_skips_145 : decode cX11_skips 145 = .ok (.aload_n 0, 1) := by decide +kernel
theorem dX11_skips_146 : decode cX11_skips 146 = .ok (.getfield 114, 3) := by decide +kernel
theorem dX11_skips_149 : decode cX11_skips 149 = .ok (.if_icmp .ge 41, 3) := by decide +kernel
theorem dX11_skips_152 : decode cX11_skips 152 = .ok (.aload_n 0, 1) := by decide +kernel
theorem dX11_skips_153 : decode cX11_skips 153 = .ok (.getfield 9, 3) := by decide +kernel
theorem dX11_skips_156 : decode cX11_skips 156 = .ok (.aload_n 0, 1) := by decide +kernel
theorem dX11_skips_157 : decode cX11_skips 157 = .ok (.getfield 129, 3) := by decide +kernel
theorem dX11_skips_160 : decode cX11_skips 160 = .ok (.baload, 1) := by decide +kernel
theorem dX11_skips_161 : decode cX11_skips 161 = .ok (.invokestatic 136, 3) := by decide +kernel
theorem dX11_skips_164 : decode cX11_skips 164 = .ok (.ifCond .eq 26, 3) := by decide +kernel
theorem dX11_skips_167 : decode cX11_skips 167 = .ok (.aload_n 0, 1) := by decide +kernel
theorem dX11_skips_168 : decode cX11_skips 168 = .ok (.dup, 1) := by decide +kernel
theorem dX11_skips_169 : decode cX11_skips 169 = .ok (.getfield 129, 3) := by decide +kernel
theorem dX11_skips_172 : decode cX11_skips 172 = .ok (.iconst 1, 1) := by decide +kernel
theorem dX11_skips_173 : decode cX11_skips 173 = .ok (.iadd, 1) := by decide +kernel
theorem dX11_skips_174 : decode cX11_skips 174 = .ok (.putfield 129, 3) := by decide +kernel
theorem dX11_skips_177 : decode cX11_skips 177 = .ok (.goto (-36), 3) := by decide +kernel
theorem dX11_skips_180 : decode cX11_skips 180 = .ok (.aload_n 0, 1) := by decide +kernel
theorem dX11_skips_181 : decode cX11_skips 181 = .ok (.aload_n 0, 1) := by decide +kernel
theorem dX11_skips_182 : decode cX11_skips 182 = .ok (.getfield 126, 3) := by decide +kernel
theorem dX11_skips_185 : decode cX11_skips 185 = .ok (.iconst 1, 1) := by decide +kernel
theorem dX11_skips_186 : decode cX11_skips 186 = .ok (.iadd, 1) := by decide +kernel
theorem dX11_skips_187 : decode cX11_skips 187 = .ok (.putfield 129, 3) := by decide +kernel
theorem dX11_skips_190 : decode cX11_skips 190 = .ok (.return_, 1) := by decide +kernel
theorem dX11_isWord_0 : decode cX11_isWord 0 = .ok (.aload_n 0, 1) := by decide +kernel
theorem dX11_isWord_1 : decode cX11_isWord 1 = .ok (.getfield 126, 3) := by decide +kernel
theorem dX11_isWord_4 : decode cX11_isWord 4 = .ok (.aload_n 0, 1) := by decide +kernel
theorem dX11_isWord_5 : decode cX11_isWord 5 = .ok (.getfield 114, 3) := by decide +kernel
theorem dX11_isWord_8 : decode cX11_isWord 8 = .ok (.if_icmp .eq 19, 3) := by decide +kernel
theorem dX11_isWord_11 : decode cX11_isWord 11 = .ok (.aload_n 0, 1) := by decide +kernel
theorem dX11_isWord_12 : decode cX11_isWord 12 = .ok (.getfield 129, 3) := by decide +kernel
theorem dX11_isWord_15 : decode cX11_isWord 15 = .ok (.aload_n 0, 1) := by decide +kernel
theorem dX11_isWord_16 : decode cX11_isWord 16 = .ok (.getfield 126, 3) := by decide +kernel
theorem dX11_isWord_19 : decode cX11_isWord 19 = .ok (.isub, 1) := by decide +kernel
theorem dX11_isWord_20 : decode cX11_isWord 20 = .ok (.aload_n 1, 1) := by decide +kernel
theorem dX11_isWord_21 : decode cX11_isWord 21 = .ok (.invokevirtual 139, 3) := by decide +kernel
theorem dX11_isWord_24 : decode cX11_isWord 24 = .ok (.if_icmp .eq 5, 3) := by decide +kernel
theorem dX11_isWord_27 : decode cX11_isWord 27 = .ok (.iconst 0, 1) := by decide +kernel
theorem dX11_isWord_28 : decode cX11_isWord 28 = .ok (.ireturn, 1) := by decide +kernel
theorem dX11_isWord_29 : decode cX11_isWord 29 = .ok (.iconst 0, 1) := by decide +kernel
theorem dX11_isWord_30 : decode cX11_isWord 30 = .ok (.istore_n 2, 1) := by decide +kernel
theorem dX11_isWord_31 : decode cX11_isWord 31 = .ok (.iload_n 2, 1) := by decide +kernel
theorem dX11_isWord_32 : decode cX11_isWord 32 = .ok (.aload_n 1, 1) := by decide +kernel
theorem dX11_isWord_33 : decode cX11_isWord 33 = .ok (.invokevirtual 139, 3) := by decide +kernel
theorem dX11_isWord_36 : decode cX11_isWord 36 = .ok (.if_icmp .ge 30, 3) := by decide +kernel
theorem dX11_isWord_39 : decode cX11_isWord 39 = .ok (.aload_n 0, 1) := by decide +kernel
theorem dX11_isWord_40 : decode cX11_isWord 40 = .ok (.getfield 9, 3) := by decide +kernel
theorem dX11_isWord_43 : decode cX11_isWord 43 = .ok (.aload_n 0, 1) := by decide +kernel
theorem dX11_isWord_44 : decode cX11_isWord 44 = .ok (.getfield 126, 3) := by decide +kernel
theorem dX11_isWord_47 : decode cX11_isWord 47 = .ok (.iload_n 2, 1) := by decide +kernel
theorem dX11_isWord_48 : decode cX11_isWord 48 = .ok (.iadd, 1) := by decide +kernel
theorem dX11_isWord_49 : decode cX11_isWord 49 = .ok (.baload, 1) := by decide +kernel
theorem dX11_isWord_50 : decode cX11_isWord 50 = .ok (.aload_n 1, 1) := by decide +kernel
theorem dX11_isWord_51 : decode cX11_isWord 51 = .ok (.iload_n 2, 1) := by decide +kernel
theorem dX11_isWord_52 : decode cX11_isWord 52 = .ok (.invokevirtual 143, 3) := by decide +kernel
theorem dX11_isWord_55 : decode cX11_isWord 55 = .ok (.if_icmp .eq 5, 3) := by decide +kernel
theorem dX11_isWord_58 : decode cX11_isWord 58 = .ok (.iconst 0, 1) := by decide +kernel
theorem dX11_isWord_59 : decode cX11_isWord 59 = .ok (.ireturn, 1) := by decide +kernel
theorem dX11_isWord_60 : decode cX11_isWord 60 = .ok (.iinc 2 1, 3) := by decide +kernel
theorem dX11_isWord_63 : decode cX11_isWord 63 = .ok (.goto (-32), 3) := by decide +kernel
theorem dX11_isWord_66 : decode cX11_isWord 66 = .ok (.iconst 1, 1) := by decide +kernel
theorem dX11_isWord_67 : decode cX11_isWord 67 = .ok (.ireturn, 1) := by decide +kernel
theorem dX11_isSign_0 : decode cX11_isSign 0 = .ok (.aload_n 0, 1) := by decide +kernel
theorem dX11_isSign_1 : decode cX11_isSign 1 = .ok (.getfield 126, 3) := by decide +kernel
theorem dX11_isSign_4 : decode cX11_isSign 4 = .ok (.aload_n 0, 1) := by decide +kernel
theorem dX11_isSign_5 : decode cX11_isSign 5 = .ok (.getfield 114, 3) := by decide +kernel
theorem dX11_isSign_8 : decode cX11_isSign 8 = .ok (.if_icmp .ge 20, 3) := by decide +kernel
theorem dX11_isSign_11 : decode cX11_isSign 11 = .ok (.aload_n 0, 1) := by decide +kernel
theorem dX11_isSign_12 : decode cX11_isSign 12 = .ok (.getfield 9, 3) := by decide +kernel
theorem dX11_isSign_15 : decode cX11_isSign 15 = .ok (.aload_n 0, 1) := by decide +kernel
theorem dX11_isSign_16 : decode cX11_isSign 16 = .ok (.getfield 126, 3) := by decide +kernel
theorem dX11_isSign_19 : decode cX11_isSign 19 = .ok (.baload, 1) := by decide +kernel
theorem dX11_isSign_20 : decode cX11_isSign 20 = .ok (.iload_n 1, 1) := by decide +kernel
theorem dX11_isSign_21 : decode cX11_isSign 21 = .ok (.if_icmp .ne 7, 3) := by decide +kernel
theorem dX11_isSign_24 : decode cX11_isSign 24 = .ok (.iconst 1, 1) := by decide +kernel
theorem dX11_isSign_25 : decode cX11_isSign 25 = .ok (.goto 4, 3) := by decide +kernel
theorem dX11_isSign_28 : decode cX11_isSign 28 = .ok (.iconst 0, 1) := by decide +kernel
theorem dX11_isSign_29 : decode cX11_isSign 29 = .ok (.ireturn, 1) := by decide +kernel
theorem dX11_passes_0 : decode cX11_passes 0 = .ok (.iload_n 1, 1) := by decide +kernel
theorem dX11_passes_1 : decode cX11_passes 1 = .ok (.ifCond .ne 21, 3) := by decide +kernel
theorem dX11_passes_4 : decode cX11_passes 4 = .ok (.aload_n 0, 1) := by decide +kernel
theorem dX11_passes_5 : decode cX11_passes 5 = .ok (.getfield 147, 3) := by decide +kernel
theorem dX11_passes_8 : decode cX11_passes 8 = .ok (.iconst (-1), 1) := by decide +kernel
theorem dX11_passes_9 : decode cX11_passes 9 = .ok (.if_icmp .ne 11, 3) := by decide +kernel
theorem dX11_passes_12 : decode cX11_passes 12 = .ok (.aload_n 0, 1) := by decide +kernel
theorem dX11_passes_13 : decode cX11_passes 13 = .ok (.aload_n 0, 1) := by decide +kernel
theorem dX11_passes_14 : decode cX11_passes 14 = .ok (.getfield 126, 3) := by decide +kernel
theorem dX11_passes_17 : decode cX11_passes 17 = .ok (.putfield 147, 3) := by decide +kernel
theorem dX11_passes_20 : decode cX11_passes 20 = .ok (.iconst 0, 1) := by decide +kernel
theorem dX11_passes_21 : decode cX11_passes 21 = .ok (.ireturn, 1) := by decide +kernel
theorem dX11_passes_22 : decode cX11_passes 22 = .ok (.aload_n 0, 1) := by decide +kernel
theorem dX11_passes_23 : decode cX11_passes 23 = .ok (.aload_n 0, 1) := by decide +kernel
theorem dX11_passes_24 : decode cX11_passes 24 = .ok (.getfield 129, 3) := by decide +kernel
theorem dX11_passes_27 : decode cX11_passes 27 = .ok (.putfield 126, 3) := by decide +kernel
theorem dX11_passes_30 : decode cX11_passes 30 = .ok (.aload_n 0, 1) := by decide +kernel
theorem dX11_passes_31 : decode cX11_passes 31 = .ok (.invokevirtual 150, 3) := by decide +kernel
theorem dX11_passes_34 : decode cX11_passes 34 = .ok (.iconst 1, 1) := by decide +kernel
theorem dX11_passes_35 : decode cX11_passes 35 = .ok (.ireturn, 1) := by decide +kernel
theorem dX11_number_0 : decode cX11_number 0 = .ok (.aload_n 0, 1) := by decide +kernel
theorem dX11_number_1 : decode cX11_number 1 = .ok (.getfield 126, 3) := by decide +kernel
theorem dX11_number_4 : decode cX11_number 4 = .ok (.aload_n 0, 1) := by decide +kernel
theorem dX11_number_5 : decode cX11_number 5 = .ok (.getfield 114, 3) := by decide +kernel
theorem dX11_number_8 : decode cX11_number 8 = .ok (.if_icmp .ge 22, 3) := by decide +kernel
theorem dX11_number_11 : decode cX11_number 11 = .ok (.aload_n 0, 1) := by decide +kernel
theorem dX11_number_12 : decode cX11_number 12 = .ok (.getfield 9, 3) := by decide +kernel
theorem dX11_number_15 : decode cX11_number 15 = .ok (.aload_n 0, 1) := by decide +kernel
theorem dX11_number_16 : decode cX11_number 16 = .ok (.getfield 126, 3) := by decide +kernel
theorem dX11_number_19 : decode cX11_number 19 = .ok (.baload, 1) := by decide +kernel
theorem dX11_number_20 : decode cX11_number 20 = .ok (.invokestatic 136, 3) := by decide +kernel
theorem dX11_number_23 : decode cX11_number 23 = .ok (.ifCond .eq 7, 3) := by decide +kernel
theorem dX11_number_26 : decode cX11_number 26 = .ok (.iconst 1, 1) := by decide +kernel
theorem dX11_number_27 : decode cX11_number 27 = .ok (.goto 4, 3) := by decide +kernel
theorem dX11_number_30 : decode cX11_number 30 = .ok (.iconst 0, 1) := by decide +kernel
theorem dX11_number_31 : decode cX11_number 31 = .ok (.istore_n 3, 1) := by decide +kernel
theorem dX11_number_32 : decode cX11_number 32 = .ok (.iconst 0, 1) := by decide +kernel
theorem dX11_number_33 : decode cX11_number 33 = .ok (.istore 4, 2) := by decide +kernel
theorem dX11_number_35 : decode cX11_number 35 = .ok (.aload_n 0, 1) := by decide +kernel
theorem dX11_number_36 : decode cX11_number 36 = .ok (.getfield 126, 3) := by decide +kernel
theorem dX11_number_39 : decode cX11_number 39 = .ok (.istore 5, 2) := by decide +kernel
theorem dX11_number_41 : decode cX11_number 41 = .ok (.iload_n 3, 1) := by decide +kernel
theorem dX11_number_42 : decode cX11_number 42 = .ok (.ifCond .eq 50, 3) := by decide +kernel
theorem dX11_number_45 : decode cX11_number 45 = .ok (.iload 5, 2) := by decide +kernel
theorem dX11_number_47 : decode cX11_number 47 = .ok (.aload_n 0, 1) := by decide +kernel
theorem dX11_number_48 : decode cX11_number 48 = .ok (.getfield 129, 3) := by decide +kernel
theorem dX11_number_51 : decode cX11_number 51 = .ok (.if_icmp .ge 41, 3) := by decide +kernel
theorem dX11_number_54 : decode cX11_number 54 = .ok (.iload 4, 2) := by decide +kernel
theorem dX11_number_56 : decode cX11_number 56 = .ok (.sipush 999, 3) := by decide +kernel
theorem dX11_number_59 : decode cX11_number 59 = .ok (.if_icmp .le 9, 3) := by decide +kernel
theorem dX11_number_62 : decode cX11_number 62 = .ok (.sipush 9999, 3) := by decide +kernel
theorem dX11_number_65 : decode cX11_number 65 = .ok (.goto 19, 3) := by decide +kernel
theorem dX11_number_68 : decode cX11_number 68 = .ok (.bipush 10, 2) := by decide +kernel
theorem dX11_number_70 : decode cX11_number 70 = .ok (.iload 4, 2) := by decide +kernel
theorem dX11_number_72 : decode cX11_number 72 = .ok (.imul, 1) := by decide +kernel
theorem dX11_number_73 : decode cX11_number 73 = .ok (.aload_n 0, 1) := by decide +kernel
theorem dX11_number_74 : decode cX11_number 74 = .ok (.getfield 9, 3) := by decide +kernel
theorem dX11_number_77 : decode cX11_number 77 = .ok (.iload 5, 2) := by decide +kernel
theorem dX11_number_79 : decode cX11_number 79 = .ok (.baload, 1) := by decide +kernel
theorem dX11_number_80 : decode cX11_number 80 = .ok (.iadd, 1) := by decide +kernel
theorem dX11_number_81 : decode cX11_number 81 = .ok (.bipush 48, 2) := by decide +kernel
theorem dX11_number_83 : decode cX11_number 83 = .ok (.isub, 1) := by decide +kernel
theorem dX11_number_84 : decode cX11_number 84 = .ok (.istore 4, 2) := by decide +kernel
theorem dX11_number_86 : decode cX11_number 86 = .ok (.iinc 5 1, 3) := by decide +kernel
theorem dX11_number_89 : decode cX11_number 89 = .ok (.goto (-48), 3) := by decide +kernel
theorem dX11_number_92 : decode cX11_number 92 = .ok (.aload_n 0, 1) := by decide +kernel
theorem dX11_number_93 : decode cX11_number 93 = .ok (.iload 4, 2) := by decide +kernel
theorem dX11_number_95 : decode cX11_number 95 = .ok (.putfield 153, 3) := by decide +kernel
theorem dX11_number_98 : decode cX11_number 98 = .ok (.aload_n 0, 1) := by decide +kernel
theorem dX11_number_99 : decode cX11_number 99 = .ok (.iload_n 3, 1) := by decide +kernel
theorem dX11_number_100 : decode cX11_number 100 = .ok (.ifCond .eq 20, 3) := by decide +kernel
theorem dX11_number_103 : decode cX11_number 103 = .ok (.iload 4, 2) := by decide +kernel
theorem dX11_number_105 : decode cX11_number 105 = .ok (.i2l, 1) := by decide +kernel
theorem dX11_number_106 : decode cX11_number 106 = .ok (.iload_n 1, 1) := by decide +kernel
theorem dX11_number_107 : decode cX11_number 107 = .ok (.i2l, 1) := by decide +kernel
theorem dX11_number_108 : decode cX11_number 108 = .ok (.iload_n 2, 1) := by decide +kernel
theorem dX11_number_109 : decode cX11_number 109 = .ok (.i2l, 1) := by decide +kernel
theorem dX11_number_110 : decode cX11_number 110 = .ok (.invokestatic 122, 3) := by decide +kernel
theorem dX11_number_113 : decode cX11_number 113 = .ok (.ifCond .eq 7, 3) := by decide +kernel
theorem dX11_number_116 : decode cX11_number 116 = .ok (.iconst 1, 1) := by decide +kernel
theorem dX11_number_117 : decode cX11_number 117 = .ok (.goto 4, 3) := by decide +kernel
theorem dX11_number_120 : decode cX11_number 120 = .ok (.iconst 0, 1) := by decide +kernel
theorem dX11_number_121 : decode cX11_number 121 = .ok (.invokevirtual 156, 3) := by decide +kernel
theorem dX11_number_124 : decode cX11_number 124 = .ok (.ireturn, 1) := by decide +kernel
theorem dX11_near_0 : decode cX11_near 0 = .ok (.iconst (-1), 1) := by decide +kernel
theorem dX11_near_1 : decode cX11_near 1 = .ok (.istore_n 1, 1) := by decide +kernel
theorem dX11_near_2 : decode cX11_near 2 = .ok (.iconst 0, 1) := by decide +kernel
theorem dX11_near_3 : decode cX11_near 3 = .ok (.istore_n 2, 1) := by decide +kernel
theorem dX11_near_4 : decode cX11_near 4 = .ok (.iload_n 2, 1) := by decide +kernel
theorem dX11_near_5 : decode cX11_near 5 = .ok (.iconst 4, 1) := by decide +kernel
theorem dX11_near_6 : decode cX11_near 6 = .ok (.if_icmp .ge 24, 3) := by decide +kernel
theorem dX11_near_9 : decode cX11_near 9 = .ok (.aload_n 0, 1) := by decide +kernel
theorem dX11_near_10 : decode cX11_near 10 = .ok (.aload_n 0, 1) := by decide +kernel
theorem dX11_near_11 : decode cX11_near 11 = .ok (.getfield 65, 3) := by decide +kernel
theorem dX11_near_14 : decode cX11_near 14 = .ok (.iload_n 2, 1) := by decide +kernel
theorem dX11_near_15 : decode cX11_near 15 = .ok (.aaload, 1) := by decide +kernel
theorem dX11_near_16 : decode cX11_near 16 = .ok (.invokevirtual 160, 3) := by decide +kernel
theorem dX11_near_19 : decode cX11_near 19 = .ok (.ifCond .eq 5, 3) := by decide +kernel
theorem dX11_near_22 : decode cX11_near 22 = .ok (.iload_n 2, 1) := by decide +kernel
theorem dX11_near_23 : decode cX11_near 23 = .ok (.istore_n 1, 1) := by decide +kernel
theorem dX11_near_24 : decode cX11_near 24 = .ok (.iinc 2 1, 3) := by decide +kernel
theorem dX11_near_27 : decode cX11_near 27 = .ok (.goto (-23), 3) := by decide +kernel
theorem dX11_near_30 : decode cX11_near 30 = .ok (.aload_n 0, 1) := by decide +kernel
theorem dX11_near_31 : decode cX11_near 31 = .ok (.iload_n 1, 1) := by decide +kernel
theorem dX11_near_32 : decode cX11_near 32 = .ok (.putfield 164, 3) := by decide +kernel
theorem dX11_near_35 : decode cX11_near 35 = .ok (.aload_n 0, 1) := by decide +kernel
theorem dX11_near_36 : decode cX11_near 36 = .ok (.iload_n 1, 1) := by decide +kernel
theorem dX11_near_37 : decode cX11_near 37 = .ok (.iconst (-1), 1) := by decide +kernel
theorem dX11_near_38 : decode cX11_near 38 = .ok (.if_icmp .eq 7, 3) := by decide +kernel
theorem dX11_near_41 : decode cX11_near 41 = .ok (.iconst 1, 1) := by decide +kernel
theorem dX11_near_42 : decode cX11_near 42 = .ok (.goto 4, 3) := by decide +kernel
theorem dX11_near_45 : decode cX11_near 45 = .ok (.iconst 0, 1) := by decide +kernel
theorem dX11_near_46 : decode cX11_near 46 = .ok (.invokevirtual 156, 3) := by decide +kernel
theorem dX11_near_49 : decode cX11_near 49 = .ok (.ifCond .eq 20, 3) := by decide +kernel
theorem dX11_near_52 : decode cX11_near 52 = .ok (.aload_n 0, 1) := by decide +kernel
theorem dX11_near_53 : decode cX11_near 53 = .ok (.aload_n 0, 1) := by decide +kernel
theorem dX11_near_54 : decode cX11_near 54 = .ok (.bipush 59, 2) := by decide +kernel
theorem dX11_near_56 : decode cX11_near 56 = .ok (.invokevirtual 167, 3) := by decide +kernel
theorem dX11_near_59 : decode cX11_near 59 = .ok (.invokevirtual 156, 3) := by decide +kernel
theorem dX11_near_62 : decode cX11_near 62 = .ok (.ifCond .eq 7, 3) := by decide +kernel
theorem dX11_near_65 : decode cX11_near 65 = .ok (.iconst 1, 1) := by decide +kernel
theorem dX11_near_66 : decode cX11_near 66 = .ok (.goto 4, 3) := by decide +kernel
theorem dX11_near_69 : decode cX11_near 69 = .ok (.iconst 0, 1) := by decide +kernel
theorem dX11_near_70 : decode cX11_near 70 = .ok (.ireturn, 1) := by decide +kernel
theorem dX11_stretch_0 : decode cX11_stretch 0 = .ok (.aload_n 0, 1) := by decide +kernel
theorem dX11_stretch_1 : decode cX11_stretch 1 = .ok (.iconst 1, 1) := by decide +kernel
theorem dX11_stretch_2 : decode cX11_stretch 2 = .ok (.bipush 9, 2) := by decide +kernel
theorem dX11_stretch_4 : decode cX11_stretch 4 = .ok (.invokevirtual 170, 3) := by decide +kernel
theorem dX11_stretch_7 : decode cX11_stretch 7 = .ok (.ifCond .ne 5, 3) := by decide +kernel
theorem dX11_stretch_10 : decode cX11_stretch 10 = .ok (.iconst 0, 1) := by decide +kernel
theorem dX11_stretch_11 : decode cX11_stretch 11 = .ok (.ireturn, 1) := by decide +kernel
theorem dX11_stretch_12 : decode cX11_stretch 12 = .ok (.aload_n 0, 1) := by decide +kernel
theorem dX11_stretch_13 : decode cX11_stretch 13 = .ok (.getfield 153, 3) := by decide +kernel
theorem dX11_stretch_16 : decode cX11_stretch 16 = .ok (.istore_n 1, 1) := by decide +kernel
theorem dX11_stretch_17 : decode cX11_stretch 17 = .ok (.aload_n 0, 1) := by decide +kernel
theorem dX11_stretch_18 : decode cX11_stretch 18 = .ok (.iconst 1, 1) := by decide +kernel
theorem dX11_stretch_19 : decode cX11_stretch 19 = .ok (.bipush 9, 2) := by decide +kernel
theorem dX11_stretch_21 : decode cX11_stretch 21 = .ok (.invokevirtual 170, 3) := by decide +kernel
theorem dX11_stretch_24 : decode cX11_stretch 24 = .ok (.ifCond .ne 5, 3) := by decide +kernel
theorem dX11_stretch_27 : decode cX11_stretch 27 = .ok (.iconst 0, 1) := by decide +kernel
theorem dX11_stretch_28 : decode cX11_stretch 28 = .ok (.ireturn, 1) := by decide +kernel
theorem dX11_stretch_29 : decode cX11_stretch 29 = .ok (.aload_n 0, 1) := by decide +kernel
theorem dX11_stretch_30 : decode cX11_stretch 30 = .ok (.iload_n 1, 1) := by decide +kernel
theorem dX11_stretch_31 : decode cX11_stretch 31 = .ok (.putfield 174, 3) := by decide +kernel
theorem dX11_stretch_34 : decode cX11_stretch 34 = .ok (.aload_n 0, 1) := by decide +kernel
theorem dX11_stretch_35 : decode cX11_stretch 35 = .ok (.aload_n 0, 1) := by decide +kernel
theorem dX11_stretch_36 : decode cX11_stretch 36 = .ok (.getfield 153, 3) := by decide +kernel
theorem dX11_stretch_39 : decode cX11_stretch 39 = .ok (.putfield 177, 3) := by decide +kernel
theorem dX11_stretch_42 : decode cX11_stretch 42 = .ok (.aload_n 0, 1) := by decide +kernel
theorem dX11_stretch_43 : decode cX11_stretch 43 = .ok (.aload_n 0, 1) := by decide +kernel
theorem dX11_stretch_44 : decode cX11_stretch 44 = .ok (.bipush 59, 2) := by decide +kernel
theorem dX11_stretch_46 : decode cX11_stretch 46 = .ok (.invokevirtual 167, 3) := by decide +kernel
theorem dX11_stretch_49 : decode cX11_stretch 49 = .ok (.invokevirtual 156, 3) := by decide +kernel
theorem dX11_stretch_52 : decode cX11_stretch 52 = .ok (.ireturn, 1) := by decide +kernel
theorem dX11_voterRead_0 : decode cX11_voterRead 0 = .ok (.aload_n 0, 1) := by decide +kernel
theorem dX11_voterRead_1 : decode cX11_voterRead 1 = .ok (.getfield 39, 3) := by decide +kernel
theorem dX11_voterRead_4 : decode cX11_voterRead 4 = .ok (.iconst 1, 1) := by decide +kernel
theorem dX11_voterRead_5 : decode cX11_voterRead 5 = .ok (.iaload, 1) := by decide +kernel
theorem dX11_voterRead_6 : decode cX11_voterRead 6 = .ok (.istore_n 1, 1) := by decide +kernel
theorem dX11_voterRead_7 : decode cX11_voterRead 7 = .ok (.aload_n 0, 1) := by decide +kernel
theorem dX11_voterRead_8 : decode cX11_voterRead 8 = .ok (.iconst 0, 1) := by decide +kernel
theorem dX11_voterRead_9 : decode cX11_voterRead 9 = .ok (.bipush 99, 2) := by decide +kernel
theorem dX11_voterRead_11 : decode cX11_voterRead 11 = .ok (.invokevirtual 170, 3) := by decide +kernel
theorem dX11_voterRead_14 : decode cX11_voterRead 14 = .ok (.ifCond .ne 5, 3) := by decide +kernel
theorem dX11_voterRead_17 : decode cX11_voterRead 17 = .ok (.iconst 0, 1) := by decide +kernel
theorem dX11_voterRead_18 : decode cX11_voterRead 18 = .ok (.ireturn, 1) := by decide +kernel
theorem dX11_voterRead_19 : decode cX11_voterRead 19 = .ok (.aload_n 0, 1) := by decide +kernel
theorem dX11_voterRead_20 : decode cX11_voterRead 20 = .ok (.getfield 15, 3) := by decide +kernel
theorem dX11_voterRead_23 : decode cX11_voterRead 23 = .ok (.iconst 1, 1) := by decide +kernel
theorem dX11_voterRead_24 : decode cX11_voterRead 24 = .ok (.aaload, 1) := by decide +kernel
theorem dX11_voterRead_25 : decode cX11_voterRead 25 = .ok (.iload_n 1, 1) := by decide +kernel
theorem dX11_voterRead_26 : decode cX11_voterRead 26 = .ok (.aload_n 0, 1) := by decide +kernel
theorem dX11_voterRead_27 : decode cX11_voterRead 27 = .ok (.getfield 153, 3) := by decide +kernel
theorem dX11_voterRead_30 : decode cX11_voterRead 30 = .ok (.iastore, 1) := by decide +kernel
theorem dX11_voterRead_31 : decode cX11_voterRead 31 = .ok (.aload_n 0, 1) := by decide +kernel
theorem dX11_voterRead_32 : decode cX11_voterRead 32 = .ok (.iconst 0, 1) := by decide +kernel
theorem dX11_voterRead_33 : decode cX11_voterRead 33 = .ok (.bipush 99, 2) := by decide +kernel
theorem dX11_voterRead_35 : decode cX11_voterRead 35 = .ok (.invokevirtual 170, 3) := by decide +kernel
theorem dX11_voterRead_38 : decode cX11_voterRead 38 = .ok (.ifCond .ne 5, 3) := by decide +kernel
theorem dX11_voterRead_41 : decode cX11_voterRead 41 = .ok (.iconst 0, 1) := by decide +kernel
theorem dX11_voterRead_42 : decode cX11_voterRead 42 = .ok (.ireturn, 1) := by decide +kernel
theorem dX11_voterRead_43 : decode cX11_voterRead 43 = .ok (.aload_n 0, 1) := by decide +kernel
theorem dX11_voterRead_44 : decode cX11_voterRead 44 = .ok (.getfield 18, 3) := by decide +kernel
theorem dX11_voterRead_47 : decode cX11_voterRead 47 = .ok (.iconst 1, 1) := by decide +kernel
theorem dX11_voterRead_48 : decode cX11_voterRead 48 = .ok (.aaload, 1) := by decide +kernel
theorem dX11_voterRead_49 : decode cX11_voterRead 49 = .ok (.iload_n 1, 1) := by decide +kernel
theorem dX11_voterRead_50 : decode cX11_voterRead 50 = .ok (.aload_n 0, 1) := by decide +kernel
theorem dX11_voterRead_51 : decode cX11_voterRead 51 = .ok (.getfield 153, 3) := by decide +kernel
theorem dX11_voterRead_54 : decode cX11_voterRead 54 = .ok (.iastore, 1) := by decide +kernel
theorem dX11_voterRead_55 : decode cX11_voterRead 55 = .ok (.aload_n 0, 1) := by decide +kernel
theorem dX11_voterRead_56 : decode cX11_voterRead 56 = .ok (.getfield 21, 3) := by decide +kernel
theorem dX11_voterRead_59 : decode cX11_voterRead 59 = .ok (.iconst 1, 1) := by decide +kernel
theorem dX11_voterRead_60 : decode cX11_voterRead 60 = .ok (.aaload, 1) := by decide +kernel
theorem dX11_voterRead_61 : decode cX11_voterRead 61 = .ok (.iload_n 1, 1) := by decide +kernel
theorem dX11_voterRead_62 : decode cX11_voterRead 62 = .ok (.iconst 1, 1) := by decide +kernel
theorem dX11_voterRead_63 : decode cX11_voterRead 63 = .ok (.iastore, 1) := by decide +kernel
theorem dX11_voterRead_64 : decode cX11_voterRead 64 = .ok (.aload_n 0, 1) := by decide +kernel
theorem dX11_voterRead_65 : decode cX11_voterRead 65 = .ok (.getfield 24, 3) := by decide +kernel
theorem dX11_voterRead_68 : decode cX11_voterRead 68 = .ok (.iconst 1, 1) := by decide +kernel
theorem dX11_voterRead_69 : decode cX11_voterRead 69 = .ok (.aaload, 1) := by decide +kernel
theorem dX11_voterRead_70 : decode cX11_voterRead 70 = .ok (.iload_n 1, 1) := by decide +kernel
theorem dX11_voterRead_71 : decode cX11_voterRead 71 = .ok (.aload_n 0, 1) := by decide +kernel
theorem dX11_voterRead_72 : decode cX11_voterRead 72 = .ok (.getfield 164, 3) := by decide +kernel
theorem dX11_voterRead_75 : decode cX11_voterRead 75 = .ok (.iastore, 1) := by decide +kernel
theorem dX11_voterRead_76 : decode cX11_voterRead 76 = .ok (.aload_n 0, 1) := by decide +kernel
theorem dX11_voterRead_77 : decode cX11_voterRead 77 = .ok (.getfield 27, 3) := by decide +kernel
theorem dX11_voterRead_80 : decode cX11_voterRead 80 = .ok (.iconst 1, 1) := by decide +kernel
theorem dX11_voterRead_81 : decode cX11_voterRead 81 = .ok (.aaload, 1) := by decide +kernel
theorem dX11_voterRead_82 : decode cX11_voterRead 82 = .ok (.iload_n 1, 1) := by decide +kernel
theorem dX11_voterRead_83 : decode cX11_voterRead 83 = .ok (.aload_n 0, 1) := by decide +kernel
theorem dX11_voterRead_84 : decode cX11_voterRead 84 = .ok (.getfield 174, 3) := by decide +kernel
theorem dX11_voterRead_87 : decode cX11_voterRead 87 = .ok (.iastore, 1) := by decide +kernel
theorem dX11_voterRead_88 : decode cX11_voterRead 88 = .ok (.aload_n 0, 1) := by decide +kernel
theorem dX11_voterRead_89 : decode cX11_voterRead 89 = .ok (.getfield 30, 3) := by decide +kernel
theorem dX11_voterRead_92 : decode cX11_voterRead 92 = .ok (.iconst 1, 1) := by decide +kernel
theorem dX11_voterRead_93 : decode cX11_voterRead 93 = .ok (.aaload, 1) := by decide +kernel
theorem dX11_voterRead_94 : decode cX11_voterRead 94 = .ok (.iload_n 1, 1) := by decide +kernel
theorem dX11_voterRead_95 : decode cX11_voterRead 95 = .ok (.aload_n 0, 1) := by decide +kernel
theorem dX11_voterRead_96 : decode cX11_voterRead 96 = .ok (.getfield 177, 3) := by decide +kernel
theorem dX11_voterRead_99 : decode cX11_voterRead 99 = .ok (.iastore, 1) := by decide +kernel
theorem dX11_voterRead_100 : decode cX11_voterRead 100 = .ok (.aload_n 0, 1) := by decide +kernel
theorem dX11_voterRead_101 : decode cX11_voterRead 101 = .ok (.ldc 180, 2) := by decide +kernel
theorem dX11_voterRead_103 : decode cX11_voterRead 103 = .ok (.invokevirtual 160, 3) := by decide +kernel
theorem dX11_voterRead_106 : decode cX11_voterRead 106 = .ok (.ifCond .eq 35, 3) := by decide +kernel
theorem dX11_voterRead_109 : decode cX11_voterRead 109 = .ok (.aload_n 0, 1) := by decide +kernel
theorem dX11_voterRead_110 : decode cX11_voterRead 110 = .ok (.iconst 1, 1) := by decide +kernel
theorem dX11_voterRead_111 : decode cX11_voterRead 111 = .ok (.invokevirtual 156, 3) := by decide +kernel
theorem dX11_voterRead_114 : decode cX11_voterRead 114 = .ok (.ifCond .eq 13, 3) := by decide +kernel
theorem dX11_voterRead_117 : decode cX11_voterRead 117 = .ok (.aload_n 0, 1) := by decide +kernel
theorem dX11_voterRead_118 : decode cX11_voterRead 118 = .ok (.iconst 1, 1) := by decide +kernel
theorem dX11_voterRead_119 : decode cX11_voterRead 119 = .ok (.bipush 9, 2) := by decide +kernel
theorem dX11_voterRead_121 : decode cX11_voterRead 121 = .ok (.invokevirtual 170, 3) := by decide +kernel
theorem dX11_voterRead_124 : decode cX11_voterRead 124 = .ok (.ifCond .ne 5, 3) := by decide +kernel
theorem dX11_voterRead_127 : decode cX11_voterRead 127 = .ok (.iconst 0, 1) := by decide +kernel
theorem dX11_voterRead_128 : decode cX11_voterRead 128 = .ok (.ireturn, 1) := by decide +kernel
theorem dX11_voterRead_129 : decode cX11_voterRead 129 = .ok (.aload_n 0, 1) := by decide +kernel
theorem dX11_voterRead_130 : decode cX11_voterRead 130 = .ok (.getfield 21, 3) := by decide +kernel
theorem dX11_voterRead_133 : decode cX11_voterRead 133 = .ok (.iconst 1, 1) := by decide +kernel
theorem dX11_voterRead_134 : decode cX11_voterRead 134 = .ok (.aaload, 1) := by decide +kernel
theorem dX11_voterRead_135 : decode cX11_voterRead 135 = .ok (.iload_n 1, 1) := by decide +kernel
theorem dX11_voterRead_136 : decode cX11_voterRead 136 = .ok (.aload_n 0, 1) := by decide +kernel
theorem dX11_voterRead_137 : decode cX11_voterRead 137 = .ok (.getfield 153, 3) := by decide +kernel
theorem dX11_voterRead_140 : decode cX11_voterRead 140 = .ok (.iastore, 1) := by decide +kernel
theorem dX11_voterRead_141 : decode cX11_voterRead 141 = .ok (.aload_n 0, 1) := by decide +kernel
theorem dX11_voterRead_142 : decode cX11_voterRead 142 = .ok (.getfield 39, 3) := by decide +kernel
theorem dX11_voterRead_145 : decode cX11_voterRead 145 = .ok (.iconst 1, 1) := by decide +kernel
theorem dX11_voterRead_146 : decode cX11_voterRead 146 = .ok (.dup2, 1) := by decide +kernel
theorem dX11_voterRead_147 : decode cX11_voterRead 147 = .ok (.iaload, 1) := by decide +kernel
theorem dX11_voterRead_148 : decode cX11_voterRead 148 = .ok (.iconst 1, 1) := by decide +kernel
theorem dX11_voterRead_149 : decode cX11_voterRead 149 = .ok (.iadd, 1) := by decide +kernel
theorem dX11_voterRead_150 : decode cX11_voterRead 150 = .ok (.iastore, 1) := by decide +kernel
theorem dX11_voterRead_151 : decode cX11_voterRead 151 = .ok (.aload_n 0, 1) := by decide +kernel
theorem dX11_voterRead_152 : decode cX11_voterRead 152 = .ok (.aload_n 0, 1) := by decide +kernel
theorem dX11_voterRead_153 : decode cX11_voterRead 153 = .ok (.bipush 59, 2) := by decide +kernel
theorem dX11_voterRead_155 : decode cX11_voterRead 155 = .ok (.invokevirtual 167, 3) := by decide +kernel
theorem dX11_voterRead_158 : decode cX11_voterRead 158 = .ok (.invokevirtual 156, 3) := by decide +kernel
theorem dX11_voterRead_161 : decode cX11_voterRead 161 = .ok (.ireturn, 1) := by decide +kernel
theorem dX11_placeRead_0 : decode cX11_placeRead 0 = .ok (.aload_n 0, 1) := by decide +kernel
theorem dX11_placeRead_1 : decode cX11_placeRead 1 = .ok (.getfield 43, 3) := by decide +kernel
theorem dX11_placeRead_4 : decode cX11_placeRead 4 = .ok (.iconst 1, 1) := by decide +kernel
theorem dX11_placeRead_5 : decode cX11_placeRead 5 = .ok (.iaload, 1) := by decide +kernel
theorem dX11_placeRead_6 : decode cX11_placeRead 6 = .ok (.istore_n 1, 1) := by decide +kernel
theorem dX11_placeRead_7 : decode cX11_placeRead 7 = .ok (.aload_n 0, 1) := by decide +kernel
theorem dX11_placeRead_8 : decode cX11_placeRead 8 = .ok (.iconst 0, 1) := by decide +kernel
theorem dX11_placeRead_9 : decode cX11_placeRead 9 = .ok (.bipush 99, 2) := by decide +kernel
theorem dX11_placeRead_11 : decode cX11_placeRead 11 = .ok (.invokevirtual 170, 3) := by decide +kernel
theorem dX11_placeRead_14 : decode cX11_placeRead 14 = .ok (.ifCond .ne 5, 3) := by decide +kernel
theorem dX11_placeRead_17 : decode cX11_placeRead 17 = .ok (.iconst 0, 1) := by decide +kernel
theorem dX11_placeRead_18 : decode cX11_placeRead 18 = .ok (.ireturn, 1) := by decide +kernel
theorem dX11_placeRead_19 : decode cX11_placeRead 19 = .ok (.aload_n 0, 1) := by decide +kernel
theorem dX11_placeRead_20 : decode cX11_placeRead 20 = .ok (.getfield 33, 3) := by decide +kernel
theorem dX11_placeRead_23 : decode cX11_placeRead 23 = .ok (.iconst 1, 1) := by decide +kernel
theorem dX11_placeRead_24 : decode cX11_placeRead 24 = .ok (.aaload, 1) := by decide +kernel
theorem dX11_placeRead_25 : decode cX11_placeRead 25 = .ok (.iload_n 1, 1) := by decide +kernel
theorem dX11_placeRead_26 : decode cX11_placeRead 26 = .ok (.aload_n 0, 1) := by decide +kernel
theorem dX11_placeRead_27 : decode cX11_placeRead 27 = .ok (.getfield 153, 3) := by decide +kernel
theorem dX11_placeRead_30 : decode cX11_placeRead 30 = .ok (.iastore, 1) := by decide +kernel
theorem dX11_placeRead_31 : decode cX11_placeRead 31 = .ok (.aload_n 0, 1) := by decide +kernel
theorem dX11_placeRead_32 : decode cX11_placeRead 32 = .ok (.iconst 0, 1) := by decide +kernel
theorem dX11_placeRead_33 : decode cX11_placeRead 33 = .ok (.bipush 99, 2) := by decide +kernel
theorem dX11_placeRead_35 : decode cX11_placeRead 35 = .ok (.invokevirtual 170, 3) := by decide +kernel
theorem dX11_placeRead_38 : decode cX11_placeRead 38 = .ok (.ifCond .ne 5, 3) := by decide +kernel
theorem dX11_placeRead_41 : decode cX11_placeRead 41 = .ok (.iconst 0, 1) := by decide +kernel
theorem dX11_placeRead_42 : decode cX11_placeRead 42 = .ok (.ireturn, 1) := by decide +kernel
theorem dX11_placeRead_43 : decode cX11_placeRead 43 = .ok (.aload_n 0, 1) := by decide +kernel
theorem dX11_placeRead_44 : decode cX11_placeRead 44 = .ok (.getfield 36, 3) := by decide +kernel
theorem dX11_placeRead_47 : decode cX11_placeRead 47 = .ok (.iconst 1, 1) := by decide +kernel
theorem dX11_placeRead_48 : decode cX11_placeRead 48 = .ok (.aaload, 1) := by decide +kernel
theorem dX11_placeRead_49 : decode cX11_placeRead 49 = .ok (.iload_n 1, 1) := by decide +kernel
theorem dX11_placeRead_50 : decode cX11_placeRead 50 = .ok (.aload_n 0, 1) := by decide +kernel
theorem dX11_placeRead_51 : decode cX11_placeRead 51 = .ok (.getfield 153, 3) := by decide +kernel
theorem dX11_placeRead_54 : decode cX11_placeRead 54 = .ok (.iastore, 1) := by decide +kernel
theorem dX11_placeRead_55 : decode cX11_placeRead 55 = .ok (.aload_n 0, 1) := by decide +kernel
theorem dX11_placeRead_56 : decode cX11_placeRead 56 = .ok (.getfield 43, 3) := by decide +kernel
theorem dX11_placeRead_59 : decode cX11_placeRead 59 = .ok (.iconst 1, 1) := by decide +kernel
theorem dX11_placeRead_60 : decode cX11_placeRead 60 = .ok (.dup2, 1) := by decide +kernel
theorem dX11_placeRead_61 : decode cX11_placeRead 61 = .ok (.iaload, 1) := by decide +kernel
theorem dX11_placeRead_62 : decode cX11_placeRead 62 = .ok (.iconst 1, 1) := by decide +kernel
theorem dX11_placeRead_63 : decode cX11_placeRead 63 = .ok (.iadd, 1) := by decide +kernel
theorem dX11_placeRead_64 : decode cX11_placeRead 64 = .ok (.iastore, 1) := by decide +kernel
theorem dX11_placeRead_65 : decode cX11_placeRead 65 = .ok (.aload_n 0, 1) := by decide +kernel
theorem dX11_placeRead_66 : decode cX11_placeRead 66 = .ok (.aload_n 0, 1) := by decide +kernel
theorem dX11_placeRead_67 : decode cX11_placeRead 67 = .ok (.bipush 59, 2) := by decide +kernel
theorem dX11_placeRead_69 : decode cX11_placeRead 69 = .ok (.invokevirtual 167, 3) := by decide +kernel
theorem dX11_placeRead_72 : decode cX11_placeRead 72 = .ok (.invokevirtual 156, 3) := by decide +kernel
theorem dX11_placeRead_75 : decode cX11_placeRead 75 = .ok (.ireturn, 1) := by decide +kernel
theorem dX11_winRead_0 : decode cX11_winRead 0 = .ok (.aload_n 0, 1) := by decide +kernel
theorem dX11_winRead_1 : decode cX11_winRead 1 = .ok (.iconst 1, 1) := by decide +kernel
theorem dX11_winRead_2 : decode cX11_winRead 2 = .ok (.putfield 182, 3) := by decide +kernel
theorem dX11_winRead_5 : decode cX11_winRead 5 = .ok (.aload_n 0, 1) := by decide +kernel
theorem dX11_winRead_6 : decode cX11_winRead 6 = .ok (.ldc 186, 2) := by decide +kernel
theorem dX11_winRead_8 : decode cX11_winRead 8 = .ok (.invokevirtual 160, 3) := by decide +kernel
theorem dX11_winRead_11 : decode cX11_winRead 11 = .ok (.ifCond .eq 30, 3) := by decide +kernel
theorem dX11_winRead_14 : decode cX11_winRead 14 = .ok (.aload_n 0, 1) := by decide +kernel
theorem dX11_winRead_15 : decode cX11_winRead 15 = .ok (.iconst 1, 1) := by decide +kernel
theorem dX11_winRead_16 : decode cX11_winRead 16 = .ok (.invokevirtual 156, 3) := by decide +kernel
theorem dX11_winRead_19 : decode cX11_winRead 19 = .ok (.ifCond .eq 20, 3) := by decide +kernel
theorem dX11_winRead_22 : decode cX11_winRead 22 = .ok (.aload_n 0, 1) := by decide +kernel
theorem dX11_winRead_23 : decode cX11_winRead 23 = .ok (.aload_n 0, 1) := by decide +kernel
theorem dX11_winRead_24 : decode cX11_winRead 24 = .ok (.bipush 59, 2) := by decide +kernel
theorem dX11_winRead_26 : decode cX11_winRead 26 = .ok (.invokevirtual 167, 3) := by decide +kernel
theorem dX11_winRead_29 : decode cX11_winRead 29 = .ok (.invokevirtual 156, 3) := by decide +kernel
theorem dX11_winRead_32 : decode cX11_winRead 32 = .ok (.ifCond .eq 7, 3) := by decide +kernel
theorem dX11_winRead_35 : decode cX11_winRead 35 = .ok (.iconst 1, 1) := by decide +kernel
theorem dX11_winRead_36 : decode cX11_winRead 36 = .ok (.goto 4, 3) := by decide +kernel
theorem dX11_winRead_39 : decode cX11_winRead 39 = .ok (.iconst 0, 1) := by decide +kernel
theorem dX11_winRead_40 : decode cX11_winRead 40 = .ok (.ireturn, 1) := by decide +kernel
theorem dX11_winRead_41 : decode cX11_winRead 41 = .ok (.aload_n 0, 1) := by decide +kernel
theorem dX11_winRead_42 : decode cX11_winRead 42 = .ok (.getfield 46, 3) := by decide +kernel
theorem dX11_winRead_45 : decode cX11_winRead 45 = .ok (.iconst 1, 1) := by decide +kernel
theorem dX11_winRead_46 : decode cX11_winRead 46 = .ok (.aload_n 0, 1) := by decide +kernel
theorem dX11_winRead_47 : decode cX11_winRead 47 = .ok (.ldc 188, 2) := by decide +kernel
theorem dX11_winRead_49 : decode cX11_winRead 49 = .ok (.invokevirtual 160, 3) := by decide +kernel
theorem dX11_winRead_52 : decode cX11_winRead 52 = .ok (.ifCond .eq 7, 3) := by decide +kernel
theorem dX11_winRead_55 : decode cX11_winRead 55 = .ok (.iconst 1, 1) := by decide +kernel
theorem dX11_winRead_56 : decode cX11_winRead 56 = .ok (.goto 4, 3) := by decide +kernel
theorem dX11_winRead_59 : decode cX11_winRead 59 = .ok (.iconst 2, 1) := by decide +kernel
theorem dX11_winRead_60 : decode cX11_winRead 60 = .ok (.iastore, 1) := by decide +kernel
theorem dX11_winRead_61 : decode cX11_winRead 61 = .ok (.aload_n 0, 1) := by decide +kernel
theorem dX11_winRead_62 : decode cX11_winRead 62 = .ok (.aload_n 0, 1) := by decide +kernel
theorem dX11_winRead_63 : decode cX11_winRead 63 = .ok (.ldc 188, 2) := by decide +kernel
theorem dX11_winRead_65 : decode cX11_winRead 65 = .ok (.invokevirtual 160, 3) := by decide +kernel
theorem dX11_winRead_68 : decode cX11_winRead 68 = .ok (.ifCond .ne 12, 3) := by decide +kernel
theorem dX11_winRead_71 : decode cX11_winRead 71 = .ok (.aload_n 0, 1) := by decide +kernel
theorem dX11_winRead_72 : decode cX11_winRead 72 = .ok (.ldc 190, 2) := by decide +kernel
theorem dX11_winRead_74 : decode cX11_winRead 74 = .ok (.invokevirtual 160, 3) := by decide +kernel
theorem dX11_winRead_77 : decode cX11_winRead 77 = .ok (.ifCond .eq 7, 3) := by decide +kernel
theorem dX11_winRead_80 : decode cX11_winRead 80 = .ok (.iconst 1, 1) := by decide +kernel
theorem dX11_winRead_81 : decode cX11_winRead 81 = .ok (.goto 4, 3) := by decide +kernel
theorem dX11_winRead_84 : decode cX11_winRead 84 = .ok (.iconst 0, 1) := by decide +kernel
theorem dX11_winRead_85 : decode cX11_winRead 85 = .ok (.invokevirtual 156, 3) := by decide +kernel
theorem dX11_winRead_88 : decode cX11_winRead 88 = .ok (.ifCond .eq 13, 3) := by decide +kernel
theorem dX11_winRead_91 : decode cX11_winRead 91 = .ok (.aload_n 0, 1) := by decide +kernel
theorem dX11_winRead_92 : decode cX11_winRead 92 = .ok (.iconst 1, 1) := by decide +kernel
theorem dX11_winRead_93 : decode cX11_winRead 93 = .ok (.bipush 99, 2) := by decide +kernel
theorem dX11_winRead_95 : decode cX11_winRead 95 = .ok (.invokevirtual 170, 3) := by decide +kernel
theorem dX11_winRead_98 : decode cX11_winRead 98 = .ok (.ifCond .ne 5, 3) := by decide +kernel
theorem dX11_winRead_101 : decode cX11_winRead 101 = .ok (.iconst 0, 1) := by decide +kernel
theorem dX11_winRead_102 : decode cX11_winRead 102 = .ok (.ireturn, 1) := by decide +kernel
theorem dX11_winRead_103 : decode cX11_winRead 103 = .ok (.aload_n 0, 1) := by decide +kernel
theorem dX11_winRead_104 : decode cX11_winRead 104 = .ok (.getfield 49, 3) := by decide +kernel
theorem dX11_winRead_107 : decode cX11_winRead 107 = .ok (.iconst 1, 1) := by decide +kernel
theorem dX11_winRead_108 : decode cX11_winRead 108 = .ok (.aload_n 0, 1) := by decide +kernel
theorem dX11_winRead_109 : decode cX11_winRead 109 = .ok (.getfield 153, 3) := by decide +kernel
theorem dX11_winRead_112 : decode cX11_winRead 112 = .ok (.iastore, 1) := by decide +kernel
theorem dX11_winRead_113 : decode cX11_winRead 113 = .ok (.aload_n 0, 1) := by decide +kernel
theorem dX11_winRead_114 : decode cX11_winRead 114 = .ok (.aload_n 0, 1) := by decide +kernel
theorem dX11_winRead_115 : decode cX11_winRead 115 = .ok (.bipush 47, 2) := by decide +kernel
theorem dX11_winRead_117 : decode cX11_winRead 117 = .ok (.invokevirtual 167, 3) := by decide +kernel
theorem dX11_winRead_120 : decode cX11_winRead 120 = .ok (.invokevirtual 156, 3) := by decide +kernel
theorem dX11_winRead_123 : decode cX11_winRead 123 = .ok (.ifCond .eq 33, 3) := by decide +kernel
theorem dX11_winRead_126 : decode cX11_winRead 126 = .ok (.aload_n 0, 1) := by decide +kernel
theorem dX11_winRead_127 : decode cX11_winRead 127 = .ok (.iconst 1, 1) := by decide +kernel
theorem dX11_winRead_128 : decode cX11_winRead 128 = .ok (.aload_n 0, 1) := by decide +kernel
theorem dX11_winRead_129 : decode cX11_winRead 129 = .ok (.getfield 49, 3) := by decide +kernel
theorem dX11_winRead_132 : decode cX11_winRead 132 = .ok (.iconst 1, 1) := by decide +kernel
theorem dX11_winRead_133 : decode cX11_winRead 133 = .ok (.iaload, 1) := by decide +kernel
theorem dX11_winRead_134 : decode cX11_winRead 134 = .ok (.invokestatic 192, 3) := by decide +kernel
theorem dX11_winRead_137 : decode cX11_winRead 137 = .ok (.bipush 99, 2) := by decide +kernel
theorem dX11_winRead_139 : decode cX11_winRead 139 = .ok (.iconst 2, 1) := by decide +kernel
theorem dX11_winRead_140 : decode cX11_winRead 140 = .ok (.aload_n 0, 1) := by decide +kernel
theorem dX11_winRead_141 : decode cX11_winRead 141 = .ok (.getfield 49, 3) := by decide +kernel
theorem dX11_winRead_144 : decode cX11_winRead 144 = .ok (.iconst 1, 1) := by decide +kernel
theorem dX11_winRead_145 : decode cX11_winRead 145 = .ok (.iaload, 1) := by decide +kernel
theorem dX11_winRead_146 : decode cX11_winRead 146 = .ok (.imul, 1) := by decide +kernel
theorem dX11_winRead_147 : decode cX11_winRead 147 = .ok (.invokestatic 198, 3) := by decide +kernel
theorem dX11_winRead_150 : decode cX11_winRead 150 = .ok (.invokevirtual 170, 3) := by decide +kernel
theorem dX11_winRead_153 : decode cX11_winRead 153 = .ok (.ifCond .ne 5, 3) := by decide +kernel
theorem dX11_winRead_156 : decode cX11_winRead 156 = .ok (.iconst 0, 1) := by decide +kernel
theorem dX11_winRead_157 : decode cX11_winRead 157 = .ok (.ireturn, 1) := by decide +kernel
theorem dX11_winRead_158 : decode cX11_winRead 158 = .ok (.aload_n 0, 1) := by decide +kernel
theorem dX11_winRead_159 : decode cX11_winRead 159 = .ok (.getfield 52, 3) := by decide +kernel
theorem dX11_winRead_162 : decode cX11_winRead 162 = .ok (.iconst 1, 1) := by decide +kernel
theorem dX11_winRead_163 : decode cX11_winRead 163 = .ok (.aload_n 0, 1) := by decide +kernel
theorem dX11_winRead_164 : decode cX11_winRead 164 = .ok (.getfield 153, 3) := by decide +kernel
theorem dX11_winRead_167 : decode cX11_winRead 167 = .ok (.iastore, 1) := by decide +kernel
theorem dX11_winRead_168 : decode cX11_winRead 168 = .ok (.aload_n 0, 1) := by decide +kernel
theorem dX11_winRead_169 : decode cX11_winRead 169 = .ok (.aload_n 0, 1) := by decide +kernel
theorem dX11_winRead_170 : decode cX11_winRead 170 = .ok (.bipush 59, 2) := by decide +kernel
theorem dX11_winRead_172 : decode cX11_winRead 172 = .ok (.invokevirtual 167, 3) := by decide +kernel
theorem dX11_winRead_175 : decode cX11_winRead 175 = .ok (.invokevirtual 156, 3) := by decide +kernel
theorem dX11_winRead_178 : decode cX11_winRead 178 = .ok (.ireturn, 1) := by decide +kernel
theorem dX11_told_0 : decode cX11_told 0 = .ok (.aload_n 0, 1) := by decide +kernel
theorem dX11_told_1 : decode cX11_told 1 = .ok (.ldc 201, 2) := by decide +kernel
theorem dX11_told_3 : decode cX11_told 3 = .ok (.invokevirtual 160, 3) := by decide +kernel
theorem dX11_told_6 : decode cX11_told 6 = .ok (.ifCond .eq 24, 3) := by decide +kernel
theorem dX11_told_9 : decode cX11_told 9 = .ok (.aload_n 0, 1) := by decide +kernel
theorem dX11_told_10 : decode cX11_told 10 = .ok (.iconst 1, 1) := by decide +kernel
theorem dX11_told_11 : decode cX11_told 11 = .ok (.invokevirtual 156, 3) := by decide +kernel
theorem dX11_told_14 : decode cX11_told 14 = .ok (.ifCond .eq 14, 3) := by decide +kernel
theorem dX11_told_17 : decode cX11_told 17 = .ok (.aload_n 0, 1) := by decide +kernel
theorem dX11_told_18 : decode cX11_told 18 = .ok (.invokevirtual 203, 3) := by decide +kernel
theorem dX11_told_21 : decode cX11_told 21 = .ok (.ifCond .eq 7, 3) := by decide +kernel
theorem dX11_told_24 : decode cX11_told 24 = .ok (.iconst 1, 1) := by decide +kernel
theorem dX11_told_25 : decode cX11_told 25 = .ok (.goto 4, 3) := by decide +kernel
theorem dX11_told_28 : decode cX11_told 28 = .ok (.iconst 0, 1) := by decide +kernel
theorem dX11_told_29 : decode cX11_told 29 = .ok (.ireturn, 1) := by decide +kernel
theorem dX11_told_30 : decode cX11_told 30 = .ok (.aload_n 0, 1) := by decide +kernel
theorem dX11_told_31 : decode cX11_told 31 = .ok (.ldc 206, 2) := by decide +kernel
theorem dX11_told_33 : decode cX11_told 33 = .ok (.invokevirtual 160, 3) := by decide +kernel
theorem dX11_told_36 : decode cX11_told 36 = .ok (.ifCond .eq 24, 3) := by decide +kernel
theorem dX11_told_39 : decode cX11_told 39 = .ok (.aload_n 0, 1) := by decide +kernel
theorem dX11_told_40 : decode cX11_told 40 = .ok (.iconst 1, 1) := by decide +kernel
theorem dX11_told_41 : decode cX11_told 41 = .ok (.invokevirtual 156, 3) := by decide +kernel
theorem dX11_told_44 : decode cX11_told 44 = .ok (.ifCond .eq 14, 3) := by decide +kernel
theorem dX11_told_47 : decode cX11_told 47 = .ok (.aload_n 0, 1) := by decide +kernel
theorem dX11_told_48 : decode cX11_told 48 = .ok (.invokevirtual 208, 3) := by decide +kernel
theorem dX11_told_51 : decode cX11_told 51 = .ok (.ifCond .eq 7, 3) := by decide +kernel
theorem dX11_told_54 : decode cX11_told 54 = .ok (.iconst 1, 1) := by decide +kernel
theorem dX11_told_55 : decode cX11_told 55 = .ok (.goto 4, 3) := by decide +kernel
theorem dX11_told_58 : decode cX11_told 58 = .ok (.iconst 0, 1) := by decide +kernel
theorem dX11_told_59 : decode cX11_told 59 = .ok (.ireturn, 1) := by decide +kernel
theorem dX11_told_60 : decode cX11_told 60 = .ok (.aload_n 0, 1) := by decide +kernel
theorem dX11_told_61 : decode cX11_told 61 = .ok (.ldc 210, 2) := by decide +kernel
theorem dX11_told_63 : decode cX11_told 63 = .ok (.invokevirtual 160, 3) := by decide +kernel
theorem dX11_told_66 : decode cX11_told 66 = .ok (.ifCond .eq 39, 3) := by decide +kernel
theorem dX11_told_69 : decode cX11_told 69 = .ok (.aload_n 0, 1) := by decide +kernel
theorem dX11_told_70 : decode cX11_told 70 = .ok (.aload_n 0, 1) := by decide +kernel
theorem dX11_told_71 : decode cX11_told 71 = .ok (.getfield 39, 3) := by decide +kernel
theorem dX11_told_74 : decode cX11_told 74 = .ok (.iconst 1, 1) := by decide +kernel
theorem dX11_told_75 : decode cX11_told 75 = .ok (.iaload, 1) := by decide +kernel
theorem dX11_told_76 : decode cX11_told 76 = .ok (.bipush 15, 2) := by decide +kernel
theorem dX11_told_78 : decode cX11_told 78 = .ok (.if_icmp .ge 7, 3) := by decide +kernel
theorem dX11_told_81 : decode cX11_told 81 = .ok (.iconst 1, 1) := by decide +kernel
theorem dX11_told_82 : decode cX11_told 82 = .ok (.goto 4, 3) := by decide +kernel
theorem dX11_told_85 : decode cX11_told 85 = .ok (.iconst 0, 1) := by decide +kernel
theorem dX11_told_86 : decode cX11_told 86 = .ok (.invokevirtual 156, 3) := by decide +kernel
theorem dX11_told_89 : decode cX11_told 89 = .ok (.ifCond .eq 14, 3) := by decide +kernel
theorem dX11_told_92 : decode cX11_told 92 = .ok (.aload_n 0, 1) := by decide +kernel
theorem dX11_told_93 : decode cX11_told 93 = .ok (.invokevirtual 212, 3) := by decide +kernel
theorem dX11_told_96 : decode cX11_told 96 = .ok (.ifCond .eq 7, 3) := by decide +kernel
theorem dX11_told_99 : decode cX11_told 99 = .ok (.iconst 1, 1) := by decide +kernel
theorem dX11_told_100 : decode cX11_told 100 = .ok (.goto 4, 3) := by decide +kernel
theorem dX11_told_103 : decode cX11_told 103 = .ok (.iconst 0, 1) := by decide +kernel
theorem dX11_told_104 : decode cX11_told 104 = .ok (.ireturn, 1) := by decide +kernel
theorem dX11_told_105 : decode cX11_told 105 = .ok (.aload_n 0, 1) := by decide +kernel
theorem dX11_told_106 : decode cX11_told 106 = .ok (.ldc 215, 2) := by decide +kernel
theorem dX11_told_108 : decode cX11_told 108 = .ok (.invokevirtual 160, 3) := by decide +kernel
theorem dX11_told_111 : decode cX11_told 111 = .ok (.ifCond .eq 39, 3) := by decide +kernel
theorem dX11_told_114 : decode cX11_told 114 = .ok (.aload_n 0, 1) := by decide +kernel
theorem dX11_told_115 : decode cX11_told 115 = .ok (.aload_n 0, 1) := by decide +kernel
theorem dX11_told_116 : decode cX11_told 116 = .ok (.getfield 43, 3) := by decide +kernel
theorem dX11_told_119 : decode cX11_told 119 = .ok (.iconst 1, 1) := by decide +kernel
theorem dX11_told_120 : decode cX11_told 120 = .ok (.iaload, 1) := by decide +kernel
theorem dX11_told_121 : decode cX11_told 121 = .ok (.bipush 20, 2) := by decide +kernel
theorem dX11_told_123 : decode cX11_told 123 = .ok (.if_icmp .ge 7, 3) := by decide +kernel
theorem dX11_told_126 : decode cX11_told 126 = .ok (.iconst 1, 1) := by decide +kernel
theorem dX11_told_127 : decode cX11_told 127 = .ok (.goto 4, 3) := by decide +kernel
theorem dX11_told_130 : decode cX11_told 130 = .ok (.iconst 0, 1) := by decide +kernel
theorem dX11_told_131 : decode cX11_told 131 = .ok (.invokevirtual 156, 3) := by decide +kernel
theorem dX11_told_134 : decode cX11_told 134 = .ok (.ifCond .eq 14, 3) := by decide +kernel
theorem dX11_told_137 : decode cX11_told 137 = .ok (.aload_n 0, 1) := by decide +kernel
theorem dX11_told_138 : decode cX11_told 138 = .ok (.invokevirtual 217, 3) := by decide +kernel
theorem dX11_told_141 : decode cX11_told 141 = .ok (.ifCond .eq 7, 3) := by decide +kernel
theorem dX11_told_144 : decode cX11_told 144 = .ok (.iconst 1, 1) := by decide +kernel
theorem dX11_told_145 : decode cX11_told 145 = .ok (.goto 4, 3) := by decide +kernel
theorem dX11_told_148 : decode cX11_told 148 = .ok (.iconst 0, 1) := by decide +kernel
theorem dX11_told_149 : decode cX11_told 149 = .ok (.ireturn, 1) := by decide +kernel
theorem dX11_told_150 : decode cX11_told 150 = .ok (.aload_n 0, 1) := by decide +kernel
theorem dX11_told_151 : decode cX11_told 151 = .ok (.aload_n 0, 1) := by decide +kernel
theorem dX11_told_152 : decode cX11_told 152 = .ok (.ldc 220, 2) := by decide +kernel
theorem dX11_told_154 : decode cX11_told 154 = .ok (.invokevirtual 160, 3) := by decide +kernel
theorem dX11_told_157 : decode cX11_told 157 = .ok (.ifCond .eq 14, 3) := by decide +kernel
theorem dX11_told_160 : decode cX11_told 160 = .ok (.aload_n 0, 1) := by decide +kernel
theorem dX11_told_161 : decode cX11_told 161 = .ok (.getfield 182, 3) := by decide +kernel
theorem dX11_told_164 : decode cX11_told 164 = .ok (.ifCond .ne 7, 3) := by decide +kernel
theorem dX11_told_167 : decode cX11_told 167 = .ok (.iconst 1, 1) := by decide +kernel
theorem dX11_told_168 : decode cX11_told 168 = .ok (.goto 4, 3) := by decide +kernel
theorem dX11_told_171 : decode cX11_told 171 = .ok (.iconst 0, 1) := by decide +kernel
theorem dX11_told_172 : decode cX11_told 172 = .ok (.invokevirtual 156, 3) := by decide +kernel
theorem dX11_told_175 : decode cX11_told 175 = .ok (.ifCond .eq 14, 3) := by decide +kernel
theorem dX11_told_178 : decode cX11_told 178 = .ok (.aload_n 0, 1) := by decide +kernel
theorem dX11_told_179 : decode cX11_told 179 = .ok (.invokevirtual 222, 3) := by decide +kernel
theorem dX11_told_182 : decode cX11_told 182 = .ok (.ifCond .eq 7, 3) := by decide +kernel
theorem dX11_told_185 : decode cX11_told 185 = .ok (.iconst 1, 1) := by decide +kernel
theorem dX11_told_186 : decode cX11_told 186 = .ok (.goto 4, 3) := by decide +kernel
theorem dX11_told_189 : decode cX11_told 189 = .ok (.iconst 0, 1) := by decide +kernel
theorem dX11_told_190 : decode cX11_told 190 = .ok (.ireturn, 1) := by decide +kernel
theorem dX11_reads_0 : decode cX11_reads 0 = .ok (.aload_n 0, 1) := by decide +kernel
theorem dX11_reads_1 : decode cX11_reads 1 = .ok (.iconst (-1), 1) := by decide +kernel
theorem dX11_reads_2 : decode cX11_reads 2 = .ok (.putfield 147, 3) := by decide +kernel
theorem dX11_reads_5 : decode cX11_reads 5 = .ok (.aload_n 0, 1) := by decide +kernel
theorem dX11_reads_6 : decode cX11_reads 6 = .ok (.getfield 39, 3) := by decide +kernel
theorem dX11_reads_9 : decode cX11_reads 9 = .ok (.iconst 1, 1) := by decide +kernel
theorem dX11_reads_10 : decode cX11_reads 10 = .ok (.iconst 0, 1) := by decide +kernel
theorem dX11_reads_11 : decode cX11_reads 11 = .ok (.iastore, 1) := by decide +kernel
theorem dX11_reads_12 : decode cX11_reads 12 = .ok (.aload_n 0, 1) := by decide +kernel
theorem dX11_reads_13 : decode cX11_reads 13 = .ok (.getfield 43, 3) := by decide +kernel
theorem dX11_reads_16 : decode cX11_reads 16 = .ok (.iconst 1, 1) := by decide +kernel
theorem dX11_reads_17 : decode cX11_reads 17 = .ok (.iconst 0, 1) := by decide +kernel
theorem dX11_reads_18 : decode cX11_reads 18 = .ok (.iastore, 1) := by decide +kernel
theorem dX11_reads_19 : decode cX11_reads 19 = .ok (.aload_n 0, 1) := by decide +kernel
theorem dX11_reads_20 : decode cX11_reads 20 = .ok (.getfield 46, 3) := by decide +kernel
theorem dX11_reads_23 : decode cX11_reads 23 = .ok (.iconst 1, 1) := by decide +kernel
theorem dX11_reads_24 : decode cX11_reads 24 = .ok (.iconst 0, 1) := by decide +kernel
theorem dX11_reads_25 : decode cX11_reads 25 = .ok (.iastore, 1) := by decide +kernel
theorem dX11_reads_26 : decode cX11_reads 26 = .ok (.aload_n 0, 1) := by decide +kernel
theorem dX11_reads_27 : decode cX11_reads 27 = .ok (.getfield 49, 3) := by decide +kernel
theorem dX11_reads_30 : decode cX11_reads 30 = .ok (.iconst 1, 1) := by decide +kernel
theorem dX11_reads_31 : decode cX11_reads 31 = .ok (.iconst 1, 1) := by decide +kernel
theorem dX11_reads_32 : decode cX11_reads 32 = .ok (.iastore, 1) := by decide +kernel
theorem dX11_reads_33 : decode cX11_reads 33 = .ok (.aload_n 0, 1) := by decide +kernel
theorem dX11_reads_34 : decode cX11_reads 34 = .ok (.getfield 52, 3) := by decide +kernel
theorem dX11_reads_37 : decode cX11_reads 37 = .ok (.iconst 1, 1) := by decide +kernel
theorem dX11_reads_38 : decode cX11_reads 38 = .ok (.iconst 2, 1) := by decide +kernel
theorem dX11_reads_39 : decode cX11_reads 39 = .ok (.iastore, 1) := by decide +kernel
theorem dX11_reads_40 : decode cX11_reads 40 = .ok (.aload_n 0, 1) := by decide +kernel
theorem dX11_reads_41 : decode cX11_reads 41 = .ok (.iconst 0, 1) := by decide +kernel
theorem dX11_reads_42 : decode cX11_reads 42 = .ok (.putfield 164, 3) := by decide +kernel
theorem dX11_reads_45 : decode cX11_reads 45 = .ok (.aload_n 0, 1) := by decide +kernel
theorem dX11_reads_46 : decode cX11_reads 46 = .ok (.iconst 1, 1) := by decide +kernel
theorem dX11_reads_47 : decode cX11_reads 47 = .ok (.putfield 174, 3) := by decide +kernel
theorem dX11_reads_50 : decode cX11_reads 50 = .ok (.aload_n 0, 1) := by decide +kernel
theorem dX11_reads_51 : decode cX11_reads 51 = .ok (.iconst 1, 1) := by decide +kernel
theorem dX11_reads_52 : decode cX11_reads 52 = .ok (.putfield 177, 3) := by decide +kernel
theorem dX11_reads_55 : decode cX11_reads 55 = .ok (.aload_n 0, 1) := by decide +kernel
theorem dX11_reads_56 : decode cX11_reads 56 = .ok (.iconst 0, 1) := by decide +kernel
theorem dX11_reads_57 : decode cX11_reads 57 = .ok (.putfield 182, 3) := by decide +kernel
theorem dX11_reads_60 : decode cX11_reads 60 = .ok (.aload_n 0, 1) := by decide +kernel
theorem dX11_reads_61 : decode cX11_reads 61 = .ok (.iconst 0, 1) := by decide +kernel
theorem dX11_reads_62 : decode cX11_reads 62 = .ok (.putfield 126, 3) := by decide +kernel
theorem dX11_reads_65 : decode cX11_reads 65 = .ok (.aload_n 0, 1) := by decide +kernel
theorem dX11_reads_66 : decode cX11_reads 66 = .ok (.invokevirtual 150, 3) := by decide +kernel
theorem dX11_reads_69 : decode cX11_reads 69 = .ok (.iconst 1, 1) := by decide +kernel
theorem dX11_reads_70 : decode cX11_reads 70 = .ok (.istore_n 1, 1) := by decide +kernel
theorem dX11_reads_71 : decode cX11_reads 71 = .ok (.iload_n 1, 1) := by decide +kernel
theorem dX11_reads_72 : decode cX11_reads 72 = .ok (.ifCond .eq 22, 3) := by decide +kernel
theorem dX11_reads_75 : decode cX11_reads 75 = .ok (.aload_n 0, 1) := by decide +kernel
theorem dX11_reads_76 : decode cX11_reads 76 = .ok (.getfield 126, 3) := by decide +kernel
theorem dX11_reads_79 : decode cX11_reads 79 = .ok (.aload_n 0, 1) := by decide +kernel
theorem dX11_reads_80 : decode cX11_reads 80 = .ok (.getfield 114, 3) := by decide +kernel
theorem dX11_reads_83 : decode cX11_reads 83 = .ok (.if_icmp .ge 11, 3) := by decide +kernel
theorem dX11_reads_86 : decode cX11_reads 86 = .ok (.aload_n 0, 1) := by decide +kernel
theorem dX11_reads_87 : decode cX11_reads 87 = .ok (.invokevirtual 225, 3) := by decide +kernel
theorem dX11_reads_90 : decode cX11_reads 90 = .ok (.istore_n 1, 1) := by decide +kernel
theorem dX11_reads_91 : decode cX11_reads 91 = .ok (.goto (-20), 3) := by decide +kernel
theorem dX11_reads_94 : decode cX11_reads 94 = .ok (.iload_n 1, 1) := by decide +kernel
theorem dX11_reads_95 : decode cX11_reads 95 = .ok (.ifCond .eq 20, 3) := by decide +kernel
theorem dX11_reads_98 : decode cX11_reads 98 = .ok (.aload_n 0, 1) := by decide +kernel
theorem dX11_reads_99 : decode cX11_reads 99 = .ok (.getfield 39, 3) := by decide +kernel
theorem dX11_reads_102 : decode cX11_reads 102 = .ok (.iconst 1, 1) := by decide +kernel
theorem dX11_reads_103 : decode cX11_reads 103 = .ok (.iaload, 1) := by decide +kernel
theorem dX11_reads_104 : decode cX11_reads 104 = .ok (.ifCond .ne 11, 3) := by decide +kernel
theorem dX11_reads_107 : decode cX11_reads 107 = .ok (.aload_n 0, 1) := by decide +kernel
theorem dX11_reads_108 : decode cX11_reads 108 = .ok (.aload_n 0, 1) := by decide +kernel
theorem dX11_reads_109 : decode cX11_reads 109 = .ok (.getfield 114, 3) := by decide +kernel
theorem dX11_reads_112 : decode cX11_reads 112 = .ok (.putfield 147, 3) := by decide +kernel
theorem dX11_reads_115 : decode cX11_reads 115 = .ok (.return_, 1) := by decide +kernel
theorem dX11_fault_0 : decode cX11_fault 0 = .ok (.aload_n 0, 1) := by decide +kernel
theorem dX11_fault_1 : decode cX11_fault 1 = .ok (.invokevirtual 228, 3) := by decide +kernel
theorem dX11_fault_4 : decode cX11_fault 4 = .ok (.aload_n 0, 1) := by decide +kernel
theorem dX11_fault_5 : decode cX11_fault 5 = .ok (.getfield 147, 3) := by decide +kernel
theorem dX11_fault_8 : decode cX11_fault 8 = .ok (.ireturn, 1) := by decide +kernel
theorem dX11_voters_0 : decode cX11_voters 0 = .ok (.aload_n 0, 1) := by decide +kernel
theorem dX11_voters_1 : decode cX11_voters 1 = .ok (.getfield 39, 3) := by decide +kernel
theorem dX11_voters_4 : decode cX11_voters 4 = .ok (.iconst 0, 1) := by decide +kernel
theorem dX11_voters_5 : decode cX11_voters 5 = .ok (.iaload, 1) := by decide +kernel
theorem dX11_voters_6 : decode cX11_voters 6 = .ok (.ireturn, 1) := by decide +kernel
theorem dX11_places_0 : decode cX11_places 0 = .ok (.aload_n 0, 1) := by decide +kernel
theorem dX11_places_1 : decode cX11_places 1 = .ok (.getfield 43, 3) := by decide +kernel
theorem dX11_places_4 : decode cX11_places 4 = .ok (.iconst 0, 1) := by decide +kernel
theorem dX11_places_5 : decode cX11_places 5 = .ok (.iaload, 1) := by decide +kernel
theorem dX11_places_6 : decode cX11_places 6 = .ok (.ireturn, 1) := by decide +kernel
theorem dX11_sheet_0 : decode cX11_sheet 0 = .ok (.aload_n 0, 1) := by decide +kernel
theorem dX11_sheet_1 : decode cX11_sheet 1 = .ok (.invokevirtual 228, 3) := by decide +kernel
theorem dX11_sheet_4 : decode cX11_sheet 4 = .ok (.aload_n 0, 1) := by decide +kernel
theorem dX11_sheet_5 : decode cX11_sheet 5 = .ok (.getfield 147, 3) := by decide +kernel
theorem dX11_sheet_8 : decode cX11_sheet 8 = .ok (.iconst (-1), 1) := by decide +kernel
theorem dX11_sheet_9 : decode cX11_sheet 9 = .ok (.if_icmp .eq 5, 3) := by decide +kernel
theorem dX11_sheet_12 : decode cX11_sheet 12 = .ok (.iconst (-1), 1) := by decide +kernel
theorem dX11_sheet_13 : decode cX11_sheet 13 = .ok (.ireturn, 1) := by decide +kernel
theorem dX11_sheet_14 : decode cX11_sheet 14 = .ok (.aload_n 0, 1) := by decide +kernel
theorem dX11_sheet_15 : decode cX11_sheet 15 = .ok (.getfield 39, 3) := by decide +kernel
theorem dX11_sheet_18 : decode cX11_sheet 18 = .ok (.iconst 0, 1) := by decide +kernel
theorem dX11_sheet_19 : decode cX11_sheet 19 = .ok (.aload_n 0, 1) := by decide +kernel
theorem dX11_sheet_20 : decode cX11_sheet 20 = .ok (.getfield 39, 3) := by decide +kernel
theorem dX11_sheet_23 : decode cX11_sheet 23 = .ok (.iconst 1, 1) := by decide +kernel
theorem dX11_sheet_24 : decode cX11_sheet 24 = .ok (.iaload, 1) := by decide +kernel
theorem dX11_sheet_25 : decode cX11_sheet 25 = .ok (.iastore, 1) := by decide +kernel
theorem dX11_sheet_26 : decode cX11_sheet 26 = .ok (.aload_n 0, 1) := by decide +kernel
theorem dX11_sheet_27 : decode cX11_sheet 27 = .ok (.getfield 43, 3) := by decide +kernel
theorem dX11_sheet_30 : decode cX11_sheet 30 = .ok (.iconst 0, 1) := by decide +kernel
theorem dX11_sheet_31 : decode cX11_sheet 31 = .ok (.aload_n 0, 1) := by decide +kernel
theorem dX11_sheet_32 : decode cX11_sheet 32 = .ok (.getfield 43, 3) := by decide +kernel
theorem dX11_sheet_35 : decode cX11_sheet 35 = .ok (.iconst 1, 1) := by decide +kernel
theorem dX11_sheet_36 : decode cX11_sheet 36 = .ok (.iaload, 1) := by decide +kernel
theorem dX11_sheet_37 : decode cX11_sheet 37 = .ok (.iastore, 1) := by decide +kernel
theorem dX11_sheet_38 : decode cX11_sheet 38 = .ok (.aload_n 0, 1) := by decide +kernel
theorem dX11_sheet_39 : decode cX11_sheet 39 = .ok (.getfield 46, 3) := by decide +kernel
theorem dX11_sheet_42 : decode cX11_sheet 42 = .ok (.iconst 0, 1) := by decide +kernel
theorem dX11_sheet_43 : decode cX11_sheet 43 = .ok (.aload_n 0, 1) := by decide +kernel
theorem dX11_sheet_44 : decode cX11_sheet 44 = .ok (.getfield 46, 3) := by decide +kernel
theorem dX11_sheet_47 : decode cX11_sheet 47 = .ok (.iconst 1, 1) := by decide +kernel
theorem dX11_sheet_48 : decode cX11_sheet 48 = .ok (.iaload, 1) := by decide +kernel
theorem dX11_sheet_49 : decode cX11_sheet 49 = .ok (.iastore, 1) := by decide +kernel
theorem dX11_sheet_50 : decode cX11_sheet 50 = .ok (.aload_n 0, 1) := by decide +kernel
theorem dX11_sheet_51 : decode cX11_sheet 51 = .ok (.getfield 49, 3) := by decide +kernel
theorem dX11_sheet_54 : decode cX11_sheet 54 = .ok (.iconst 0, 1) := by decide +kernel
theorem dX11_sheet_55 : decode cX11_sheet 55 = .ok (.aload_n 0, 1) := by decide +kernel
theorem dX11_sheet_56 : decode cX11_sheet 56 = .ok (.getfield 49, 3) := by decide +kernel
theorem dX11_sheet_59 : decode cX11_sheet 59 = .ok (.iconst 1, 1) := by decide +kernel
theorem dX11_sheet_60 : decode cX11_sheet 60 = .ok (.iaload, 1) := by decide +kernel
theorem dX11_sheet_61 : decode cX11_sheet 61 = .ok (.iastore, 1) := by decide +kernel
theorem dX11_sheet_62 : decode cX11_sheet 62 = .ok (.aload_n 0, 1) := by decide +kernel
theorem dX11_sheet_63 : decode cX11_sheet 63 = .ok (.getfield 52, 3) := by decide +kernel
theorem dX11_sheet_66 : decode cX11_sheet 66 = .ok (.iconst 0, 1) := by decide +kernel
theorem dX11_sheet_67 : decode cX11_sheet 67 = .ok (.aload_n 0, 1) := by decide +kernel
theorem dX11_sheet_68 : decode cX11_sheet 68 = .ok (.getfield 52, 3) := by decide +kernel
theorem dX11_sheet_71 : decode cX11_sheet 71 = .ok (.iconst 1, 1) := by decide +kernel
theorem dX11_sheet_72 : decode cX11_sheet 72 = .ok (.iaload, 1) := by decide +kernel
theorem dX11_sheet_73 : decode cX11_sheet 73 = .ok (.iastore, 1) := by decide +kernel
theorem dX11_sheet_74 : decode cX11_sheet 74 = .ok (.iconst 0, 1) := by decide +kernel
theorem dX11_sheet_75 : decode cX11_sheet 75 = .ok (.istore_n 1, 1) := by decide +kernel
theorem dX11_sheet_76 : decode cX11_sheet 76 = .ok (.iload_n 1, 1) := by decide +kernel
theorem dX11_sheet_77 : decode cX11_sheet 77 = .ok (.bipush 15, 2) := by decide +kernel
theorem dX11_sheet_79 : decode cX11_sheet 79 = .ok (.if_icmp .ge 105, 3) := by decide +kernel
theorem dX11_sheet_82 : decode cX11_sheet 82 = .ok (.aload_n 0, 1) := by decide +kernel
theorem dX11_sheet_83 : decode cX11_sheet 83 = .ok (.getfield 15, 3) := by decide +kernel
theorem dX11_sheet_86 : decode cX11_sheet 86 = .ok (.iconst 0, 1) := by decide +kernel
theorem dX11_sheet_87 : decode cX11_sheet 87 = .ok (.aaload, 1) := by decide +kernel
theorem dX11_sheet_88 : decode cX11_sheet 88 = .ok (.iload_n 1, 1) := by decide +kernel
theorem dX11_sheet_89 : decode cX11_sheet 89 = .ok (.aload_n 0, 1) := by decide +kernel
theorem dX11_sheet_90 : decode cX11_sheet 90 = .ok (.getfield 15, 3) := by decide +kernel
theorem dX11_sheet_93 : decode cX11_sheet 93 = .ok (.iconst 1, 1) := by decide +kernel
theorem dX11_sheet_94 : decode cX11_sheet 94 = .ok (.aaload, 1) := by decide +kernel
theorem dX11_sheet_95 : decode cX11_sheet 95 = .ok (.iload_n 1, 1) := by decide +kernel
theorem dX11_sheet_96 : decode cX11_sheet 96 = .ok (.iaload, 1) := by decide +kernel
theorem dX11_sheet_97 : decode cX11_sheet 97 = .ok (.iastore, 1) := by decide +kernel
theorem dX11_sheet_98 : decode cX11_sheet 98 = .ok (.aload_n 0, 1) := by decide +kernel
theorem dX11_sheet_99 : decode cX11_sheet 99 = .ok (.getfield 18, 3) := by decide +kernel
theorem dX11_sheet_102 : decode cX11_sheet 102 = .ok (.iconst 0, 1) := by decide +kernel
theorem dX11_sheet_103 : decode cX11_sheet 103 = .ok (.aaload, 1) := by decide +kernel
theorem dX11_sheet_104 : decode cX11_sheet 104 = .ok (.iload_n 1, 1) := by decide +kernel
theorem dX11_sheet_105 : decode cX11_sheet 105 = .ok (.aload_n 0, 1) := by decide +kernel
theorem dX11_sheet_106 : decode cX11_sheet 106 = .ok (.getfield 18, 3) := by decide +kernel
theorem dX11_sheet_109 : decode cX11_sheet 109 = .ok (.iconst 1, 1) := by decide +kernel
theorem dX11_sheet_110 : decode cX11_sheet 110 = .ok (.aaload, 1) := by decide +kernel
theorem dX11_sheet_111 : decode cX11_sheet 111 = .ok (.iload_n 1, 1) := by decide +kernel
theorem dX11_sheet_112 : decode cX11_sheet 112 = .ok (.iaload, 1) := by decide +kernel
theorem dX11_sheet_113 : decode cX11_sheet 113 = .ok (.iastore, 1) := by decide +kernel
theorem dX11_sheet_114 : decode cX11_sheet 114 = .ok (.aload_n 0, 1) := by decide +kernel
theorem dX11_sheet_115 : decode cX11_sheet 115 = .ok (.getfield 21, 3) := by decide +kernel
theorem dX11_sheet_118 : decode cX11_sheet 118 = .ok (.iconst 0, 1) := by decide +kernel
theorem dX11_sheet_119 : decode cX11_sheet 119 = .ok (.aaload, 1) := by decide +kernel
theorem dX11_sheet_120 : decode cX11_sheet 120 = .ok (.iload_n 1, 1) := by decide +kernel
theorem dX11_sheet_121 : decode cX11_sheet 121 = .ok (.aload_n 0, 1) := by decide +kernel
theorem dX11_sheet_122 : decode cX11_sheet 122 = .ok (.getfield 21, 3) := by decide +kernel
theorem dX11_sheet_125 : decode cX11_sheet 125 = .ok (.iconst 1, 1) := by decide +kernel
theorem dX11_sheet_126 : decode cX11_sheet 126 = .ok (.aaload, 1) := by decide +kernel
theorem dX11_sheet_127 : decode cX11_sheet 127 = .ok (.iload_n 1, 1) := by decide +kernel
theorem dX11_sheet_128 : decode cX11_sheet 128 = .ok (.iaload, 1) := by decide +kernel
theorem dX11_sheet_129 : decode cX11_sheet 129 = .ok (.iastore, 1) := by decide +kernel
theorem dX11_sheet_130 : decode cX11_sheet 130 = .ok (.aload_n 0, 1) := by decide +kernel
theorem dX11_sheet_131 : decode cX11_sheet 131 = .ok (.getfield 24, 3) := by decide +kernel
theorem dX11_sheet_134 : decode cX11_sheet 134 = .ok (.iconst 0, 1) := by decide +kernel
theorem dX11_sheet_135 : decode cX11_sheet 135 = .ok (.aaload, 1) := by decide +kernel
theorem dX11_sheet_136 : decode cX11_sheet 136 = .ok (.iload_n 1, 1) := by decide +kernel
theorem dX11_sheet_137 : decode cX11_sheet 137 = .ok (.aload_n 0, 1) := by decide +kernel
theorem dX11_sheet_138 : decode cX11_sheet 138 = .ok (.getfield 24, 3) := by decide +kernel
theorem dX11_sheet_141 : decode cX11_sheet 141 = .ok (.iconst 1, 1) := by decide +kernel
theorem dX11_sheet_142 : decode cX11_sheet 142 = .ok (.aaload, 1) := by decide +kernel
theorem dX11_sheet_143 : decode cX11_sheet 143 = .ok (.iload_n 1, 1) := by decide +kernel
theorem dX11_sheet_144 : decode cX11_sheet 144 = .ok (.iaload, 1) := by decide +kernel
theorem dX11_sheet_145 : decode cX11_sheet 145 = .ok (.iastore, 1) := by decide +kernel
theorem dX11_sheet_146 : decode cX11_sheet 146 = .ok (.aload_n 0, 1) := by decide +kernel
theorem dX11_sheet_147 : decode cX11_sheet 147 = .ok (.getfield 27, 3) := by decide +kernel
theorem dX11_sheet_150 : decode cX11_sheet 150 = .ok (.iconst 0, 1) := by decide +kernel
theorem dX11_sheet_151 : decode cX11_sheet 151 = .ok (.aaload, 1) := by decide +kernel
theorem dX11_sheet_152 : decode cX11_sheet 152 = .ok (.iload_n 1, 1) := by decide +kernel
theorem dX11_sheet_153 : decode cX11_sheet 153 = .ok (.aload_n 0, 1) := by decide +kernel
theorem dX11_sheet_154 : decode cX11_sheet 154 = .ok (.getfield 27, 3) := by decide +kernel
theorem dX11_sheet_157 : decode cX11_sheet 157 = .ok (.iconst 1, 1) := by decide +kernel
theorem dX11_sheet_158 : decode cX11_sheet 158 = .ok (.aaload, 1) := by decide +kernel
theorem dX11_sheet_159 : decode cX11_sheet 159 = .ok (.iload_n 1, 1) := by decide +kernel
theorem dX11_sheet_160 : decode cX11_sheet 160 = .ok (.iaload, 1) := by decide +kernel
theorem dX11_sheet_161 : decode cX11_sheet 161 = .ok (.iastore, 1) := by decide +kernel
theorem dX11_sheet_162 : decode cX11_sheet 162 = .ok (.aload_n 0, 1) := by decide +kernel
theorem dX11_sheet_163 : decode cX11_sheet 163 = .ok (.getfield 30, 3) := by decide +kernel
theorem dX11_sheet_166 : decode cX11_sheet 166 = .ok (.iconst 0, 1) := by decide +kernel
theorem dX11_sheet_167 : decode cX11_sheet 167 = .ok (.aaload, 1) := by decide +kernel
theorem dX11_sheet_168 : decode cX11_sheet 168 = .ok (.iload_n 1, 1) := by decide +kernel
theorem dX11_sheet_169 : decode cX11_sheet 169 = .ok (.aload_n 0, 1) := by decide +kernel
theorem dX11_sheet_170 : decode cX11_sheet 170 = .ok (.getfield 30, 3) := by decide +kernel
theorem dX11_sheet_173 : decode cX11_sheet 173 = .ok (.iconst 1, 1) := by decide +kernel
theorem dX11_sheet_174 : decode cX11_sheet 174 = .ok (.aaload, 1) := by decide +kernel
theorem dX11_sheet_175 : decode cX11_sheet 175 = .ok (.iload_n 1, 1) := by decide +kernel
theorem dX11_sheet_176 : decode cX11_sheet 176 = .ok (.iaload, 1) := by decide +kernel
theorem dX11_sheet_177 : decode cX11_sheet 177 = .ok (.iastore, 1) := by decide +kernel
theorem dX11_sheet_178 : decode cX11_sheet 178 = .ok (.iinc 1 1, 3) := by decide +kernel
theorem dX11_sheet_181 : decode cX11_sheet 181 = .ok (.goto (-105), 3) := by decide +kernel
theorem dX11_sheet_184 : decode cX11_sheet 184 = .ok (.iconst 0, 1) := by decide +kernel
theorem dX11_sheet_185 : decode cX11_sheet 185 = .ok (.istore_n 1, 1) := by decide +kernel
theorem dX11_sheet_186 : decode cX11_sheet 186 = .ok (.iload_n 1, 1) := by decide +kernel
theorem dX11_sheet_187 : decode cX11_sheet 187 = .ok (.bipush 20, 2) := by decide +kernel
theorem dX11_sheet_189 : decode cX11_sheet 189 = .ok (.if_icmp .ge 41, 3) := by decide +kernel
theorem dX11_sheet_192 : decode cX11_sheet 192 = .ok (.aload_n 0, 1) := by decide +kernel
theorem dX11_sheet_193 : decode cX11_sheet 193 = .ok (.getfield 33, 3) := by decide +kernel
theorem dX11_sheet_196 : decode cX11_sheet 196 = .ok (.iconst 0, 1) := by decide +kernel
theorem dX11_sheet_197 : decode cX11_sheet 197 = .ok (.aaload, 1) := by decide +kernel
theorem dX11_sheet_198 : decode cX11_sheet 198 = .ok (.iload_n 1, 1) := by decide +kernel
theorem dX11_sheet_199 : decode cX11_sheet 199 = .ok (.aload_n 0, 1) := by decide +kernel
theorem dX11_sheet_200 : decode cX11_sheet 200 = .ok (.getfield 33, 3) := by decide +kernel
theorem dX11_sheet_203 : decode cX11_sheet 203 = .ok (.iconst 1, 1) := by decide +kernel
theorem dX11_sheet_204 : decode cX11_sheet 204 = .ok (.aaload, 1) := by decide +kernel
theorem dX11_sheet_205 : decode cX11_sheet 205 = .ok (.iload_n 1, 1) := by decide +kernel
theorem dX11_sheet_206 : decode cX11_sheet 206 = .ok (.iaload, 1) := by decide +kernel
theorem dX11_sheet_207 : decode cX11_sheet 207 = .ok (.iastore, 1) := by decide +kernel
theorem dX11_sheet_208 : decode cX11_sheet 208 = .ok (.aload_n 0, 1) := by decide +kernel
theorem dX11_sheet_209 : decode cX11_sheet 209 = .ok (.getfield 36, 3) := by decide +kernel
theorem dX11_sheet_212 : decode cX11_sheet 212 = .ok (.iconst 0, 1) := by decide +kernel
theorem dX11_sheet_213 : decode cX11_sheet 213 = .ok (.aaload, 1) := by decide +kernel
theorem dX11_sheet_214 : decode cX11_sheet 214 = .ok (.iload_n 1, 1) := by decide +kernel
theorem dX11_sheet_215 : decode cX11_sheet 215 = .ok (.aload_n 0, 1) := by decide +kernel
theorem dX11_sheet_216 : decode cX11_sheet 216 = .ok (.getfield 36, 3) := by decide +kernel
theorem dX11_sheet_219 : decode cX11_sheet 219 = .ok (.iconst 1, 1) := by decide +kernel
theorem dX11_sheet_220 : decode cX11_sheet 220 = .ok (.aaload, 1) := by decide +kernel
theorem dX11_sheet_221 : decode cX11_sheet 221 = .ok (.iload_n 1, 1) := by decide +kernel
theorem dX11_sheet_222 : decode cX11_sheet 222 = .ok (.iaload, 1) := by decide +kernel
theorem dX11_sheet_223 : decode cX11_sheet 223 = .ok (.iastore, 1) := by decide +kernel
theorem dX11_sheet_224 : decode cX11_sheet 224 = .ok (.iinc 1 1, 3) := by decide +kernel
theorem dX11_sheet_227 : decode cX11_sheet 227 = .ok (.goto (-41), 3) := by decide +kernel
theorem dX11_sheet_230 : decode cX11_sheet 230 = .ok (.aload_n 0, 1) := by decide +kernel
theorem dX11_sheet_231 : decode cX11_sheet 231 = .ok (.iconst 0, 1) := by decide +kernel
theorem dX11_sheet_232 : decode cX11_sheet 232 = .ok (.putfield 114, 3) := by decide +kernel
theorem dX11_sheet_235 : decode cX11_sheet 235 = .ok (.aload_n 0, 1) := by decide +kernel
theorem dX11_sheet_236 : decode cX11_sheet 236 = .ok (.iconst 0, 1) := by decide +kernel
theorem dX11_sheet_237 : decode cX11_sheet 237 = .ok (.putfield 231, 3) := by decide +kernel
theorem dX11_sheet_240 : decode cX11_sheet 240 = .ok (.aload_n 0, 1) := by decide +kernel
theorem dX11_sheet_241 : decode cX11_sheet 241 = .ok (.iconst 0, 1) := by decide +kernel
theorem dX11_sheet_242 : decode cX11_sheet 242 = .ok (.putfield 234, 3) := by decide +kernel
theorem dX11_sheet_245 : decode cX11_sheet 245 = .ok (.aload_n 0, 1) := by decide +kernel
theorem dX11_sheet_246 : decode cX11_sheet 246 = .ok (.invokevirtual 237, 3) := by decide +kernel
theorem dX11_sheet_249 : decode cX11_sheet 249 = .ok (.ireturn, 1) := by decide +kernel
theorem dX11_isPoint_0 : decode cX11_isPoint 0 = .ok (.iload_n 0, 1) := by decide +kernel
theorem dX11_isPoint_1 : decode cX11_isPoint 1 = .ok (.i2l, 1) := by decide +kernel
theorem dX11_isPoint_2 : decode cX11_isPoint 2 = .ok (.lconst 0, 1) := by decide +kernel
theorem dX11_isPoint_3 : decode cX11_isPoint 3 = .ok (.ldc2_w 240, 3) := by decide +kernel
theorem dX11_isPoint_6 : decode cX11_isPoint 6 = .ok (.invokestatic 122, 3) := by decide +kernel
theorem dX11_isPoint_9 : decode cX11_isPoint 9 = .ok (.ifCond .eq 19, 3) := by decide +kernel
theorem dX11_isPoint_12 : decode cX11_isPoint 12 = .ok (.iload_n 1, 1) := by decide +kernel
theorem dX11_isPoint_13 : decode cX11_isPoint 13 = .ok (.i2l, 1) := by decide +kernel
theorem dX11_isPoint_14 : decode cX11_isPoint 14 = .ok (.lconst 0, 1) := by decide +kernel
theorem dX11_isPoint_15 : decode cX11_isPoint 15 = .ok (.ldc2_w 240, 3) := by decide +kernel
theorem dX11_isPoint_18 : decode cX11_isPoint 18 = .ok (.invokestatic 122, 3) := by decide +kernel
theorem dX11_isPoint_21 : decode cX11_isPoint 21 = .ok (.ifCond .eq 7, 3) := by decide +kernel
theorem dX11_isPoint_24 : decode cX11_isPoint 24 = .ok (.iconst 1, 1) := by decide +kernel
theorem dX11_isPoint_25 : decode cX11_isPoint 25 = .ok (.goto 4, 3) := by decide +kernel
theorem dX11_isPoint_28 : decode cX11_isPoint 28 = .ok (.iconst 0, 1) := by decide +kernel
theorem dX11_isPoint_29 : decode cX11_isPoint 29 = .ok (.ireturn, 1) := by decide +kernel
theorem dX11_isVoter_0 : decode cX11_isVoter 0 = .ok (.iload_n 1, 1) := by decide +kernel
theorem dX11_isVoter_1 : decode cX11_isVoter 1 = .ok (.i2l, 1) := by decide +kernel
theorem dX11_isVoter_2 : decode cX11_isVoter 2 = .ok (.lconst 0, 1) := by decide +kernel
theorem dX11_isVoter_3 : decode cX11_isVoter 3 = .ok (.aload_n 0, 1) := by decide +kernel
theorem dX11_isVoter_4 : decode cX11_isVoter 4 = .ok (.invokevirtual 237, 3) := by decide +kernel
theorem dX11_isVoter_7 : decode cX11_isVoter 7 = .ok (.iconst 1, 1) := by decide +kernel
theorem dX11_isVoter_8 : decode cX11_isVoter 8 = .ok (.isub, 1) := by decide +kernel
theorem dX11_isVoter_9 : decode cX11_isVoter 9 = .ok (.i2l, 1) := by decide +kernel
theorem dX11_isVoter_10 : decode cX11_isVoter 10 = .ok (.invokestatic 122, 3) := by decide +kernel
theorem dX11_isVoter_13 : decode cX11_isVoter 13 = .ok (.ireturn, 1) := by decide +kernel
theorem dX11_isPlace_0 : decode cX11_isPlace 0 = .ok (.iload_n 1, 1) := by decide +kernel
theorem dX11_isPlace_1 : decode cX11_isPlace 1 = .ok (.i2l, 1) := by decide +kernel
theorem dX11_isPlace_2 : decode cX11_isPlace 2 = .ok (.lconst 0, 1) := by decide +kernel
theorem dX11_isPlace_3 : decode cX11_isPlace 3 = .ok (.aload_n 0, 1) := by decide +kernel
theorem dX11_isPlace_4 : decode cX11_isPlace 4 = .ok (.invokevirtual 242, 3) := by decide +kernel
theorem dX11_isPlace_7 : decode cX11_isPlace 7 = .ok (.iconst 1, 1) := by decide +kernel
theorem dX11_isPlace_8 : decode cX11_isPlace 8 = .ok (.isub, 1) := by decide +kernel
theorem dX11_isPlace_9 : decode cX11_isPlace 9 = .ok (.i2l, 1) := by decide +kernel
theorem dX11_isPlace_10 : decode cX11_isPlace 10 = .ok (.invokestatic 122, 3) := by decide +kernel
theorem dX11_isPlace_13 : decode cX11_isPlace 13 = .ok (.ireturn, 1) := by decide +kernel
theorem dX11_voter_0 : decode cX11_voter 0 = .ok (.aload_n 0, 1) := by decide +kernel
theorem dX11_voter_1 : decode cX11_voter 1 = .ok (.iload_n 1, 1) := by decide +kernel
theorem dX11_voter_2 : decode cX11_voter 2 = .ok (.invokevirtual 245, 3) := by decide +kernel
theorem dX11_voter_5 : decode cX11_voter 5 = .ok (.ifCond .ne 5, 3) := by decide +kernel
theorem dX11_voter_8 : decode cX11_voter 8 = .ok (.iconst (-1), 1) := by decide +kernel
theorem dX11_voter_9 : decode cX11_voter 9 = .ok (.ireturn, 1) := by decide +kernel
theorem dX11_voter_10 : decode cX11_voter 10 = .ok (.iload_n 2, 1) := by decide +kernel
theorem dX11_voter_11 : decode cX11_voter 11 = .ok (.tableswitch 91 0 5 #[37, 46, 55, 64, 73, 82], 37) := by decide +kernel
theorem dX11_voter_48 : decode cX11_voter 48 = .ok (.aload_n 0, 1) := by decide +kernel
theorem dX11_voter_49 : decode cX11_voter 49 = .ok (.getfield 15, 3) := by decide +kernel
theorem dX11_voter_52 : decode cX11_voter 52 = .ok (.iconst 0, 1) := by decide +kernel
theorem dX11_voter_53 : decode cX11_voter 53 = .ok (.aaload, 1) := by decide +kernel
theorem dX11_voter_54 : decode cX11_voter 54 = .ok (.iload_n 1, 1) := by decide +kernel
theorem dX11_voter_55 : decode cX11_voter 55 = .ok (.iaload, 1) := by decide +kernel
theorem dX11_voter_56 : decode cX11_voter 56 = .ok (.ireturn, 1) := by decide +kernel
theorem dX11_voter_57 : decode cX11_voter 57 = .ok (.aload_n 0, 1) := by decide +kernel
theorem dX11_voter_58 : decode cX11_voter 58 = .ok (.getfield 18, 3) := by decide +kernel
theorem dX11_voter_61 : decode cX11_voter 61 = .ok (.iconst 0, 1) := by decide +kernel
theorem dX11_voter_62 : decode cX11_voter 62 = .ok (.aaload, 1) := by decide +kernel
theorem dX11_voter_63 : decode cX11_voter 63 = .ok (.iload_n 1, 1) := by decide +kernel
theorem dX11_voter_64 : decode cX11_voter 64 = .ok (.iaload, 1) := by decide +kernel
theorem dX11_voter_65 : decode cX11_voter 65 = .ok (.ireturn, 1) := by decide +kernel
theorem dX11_voter_66 : decode cX11_voter 66 = .ok (.aload_n 0, 1) := by decide +kernel
theorem dX11_voter_67 : decode cX11_voter 67 = .ok (.getfield 21, 3) := by decide +kernel
theorem dX11_voter_70 : decode cX11_voter 70 = .ok (.iconst 0, 1) := by decide +kernel
theorem dX11_voter_71 : decode cX11_voter 71 = .ok (.aaload, 1) := by decide +kernel
theorem dX11_voter_72 : decode cX11_voter 72 = .ok (.iload_n 1, 1) := by decide +kernel
theorem dX11_voter_73 : decode cX11_voter 73 = .ok (.iaload, 1) := by decide +kernel
theorem dX11_voter_74 : decode cX11_voter 74 = .ok (.ireturn, 1) := by decide +kernel
theorem dX11_voter_75 : decode cX11_voter 75 = .ok (.aload_n 0, 1) := by decide +kernel
theorem dX11_voter_76 : decode cX11_voter 76 = .ok (.getfield 24, 3) := by decide +kernel
theorem dX11_voter_79 : decode cX11_voter 79 = .ok (.iconst 0, 1) := by decide +kernel
theorem dX11_voter_80 : decode cX11_voter 80 = .ok (.aaload, 1) := by decide +kernel
theorem dX11_voter_81 : decode cX11_voter 81 = .ok (.iload_n 1, 1) := by decide +kernel
theorem dX11_voter_82 : decode cX11_voter 82 = .ok (.iaload, 1) := by decide +kernel
theorem dX11_voter_83 : decode cX11_voter 83 = .ok (.ireturn, 1) := by decide +kernel
theorem dX11_voter_84 : decode cX11_voter 84 = .ok (.aload_n 0, 1) := by decide +kernel
theorem dX11_voter_85 : decode cX11_voter 85 = .ok (.getfield 27, 3) := by decide +kernel
theorem dX11_voter_88 : decode cX11_voter 88 = .ok (.iconst 0, 1) := by decide +kernel
theorem dX11_voter_89 : decode cX11_voter 89 = .ok (.aaload, 1) := by decide +kernel
theorem dX11_voter_90 : decode cX11_voter 90 = .ok (.iload_n 1, 1) := by decide +kernel
theorem dX11_voter_91 : decode cX11_voter 91 = .ok (.iaload, 1) := by decide +kernel
theorem dX11_voter_92 : decode cX11_voter 92 = .ok (.ireturn, 1) := by decide +kernel
theorem dX11_voter_93 : decode cX11_voter 93 = .ok (.aload_n 0, 1) := by decide +kernel
theorem dX11_voter_94 : decode cX11_voter 94 = .ok (.getfield 30, 3) := by decide +kernel
theorem dX11_voter_97 : decode cX11_voter 97 = .ok (.iconst 0, 1) := by decide +kernel
theorem dX11_voter_98 : decode cX11_voter 98 = .ok (.aaload, 1) := by decide +kernel
theorem dX11_voter_99 : decode cX11_voter 99 = .ok (.iload_n 1, 1) := by decide +kernel
theorem dX11_voter_100 : decode cX11_voter 100 = .ok (.iaload, 1) := by decide +kernel
theorem dX11_voter_101 : decode cX11_voter 101 = .ok (.ireturn, 1) := by decide +kernel
theorem dX11_voter_102 : decode cX11_voter 102 = .ok (.iconst (-1), 1) := by decide +kernel
theorem dX11_voter_103 : decode cX11_voter 103 = .ok (.ireturn, 1) := by decide +kernel
theorem dX11_place_0 : decode cX11_place 0 = .ok (.aload_n 0, 1) := by decide +kernel
theorem dX11_place_1 : decode cX11_place 1 = .ok (.iload_n 1, 1) := by decide +kernel
theorem dX11_place_2 : decode cX11_place 2 = .ok (.invokevirtual 248, 3) := by decide +kernel
theorem dX11_place_5 : decode cX11_place 5 = .ok (.ifCond .eq 13, 3) := by decide +kernel
theorem dX11_place_8 : decode cX11_place 8 = .ok (.iload_n 2, 1) := by decide +kernel
theorem dX11_place_9 : decode cX11_place 9 = .ok (.i2l, 1) := by decide +kernel
theorem dX11_place_10 : decode cX11_place 10 = .ok (.lconst 0, 1) := by decide +kernel
theorem dX11_place_11 : decode cX11_place 11 = .ok (.lconst 1, 1) := by decide +kernel
theorem dX11_place_12 : decode cX11_place 12 = .ok (.invokestatic 122, 3) := by decide +kernel
theorem dX11_place_15 : decode cX11_place 15 = .ok (.ifCond .ne 7, 3) := by decide +kernel
theorem dX11_place_18 : decode cX11_place 18 = .ok (.iconst (-1), 1) := by decide +kernel
theorem dX11_place_19 : decode cX11_place 19 = .ok (.goto 26, 3) := by decide +kernel
theorem dX11_place_22 : decode cX11_place 22 = .ok (.iload_n 2, 1) := by decide +kernel
theorem dX11_place_23 : decode cX11_place 23 = .ok (.ifCond .ne 14, 3) := by decide +kernel
theorem dX11_place_26 : decode cX11_place 26 = .ok (.aload_n 0, 1) := by decide +kernel
theorem dX11_place_27 : decode cX11_place 27 = .ok (.getfield 33, 3) := by decide +kernel
theorem dX11_place_30 : decode cX11_place 30 = .ok (.iconst 0, 1) := by decide +kernel
theorem dX11_place_31 : decode cX11_place 31 = .ok (.aaload, 1) := by decide +kernel
theorem dX11_place_32 : decode cX11_place 32 = .ok (.iload_n 1, 1) := by decide +kernel
theorem dX11_place_33 : decode cX11_place 33 = .ok (.iaload, 1) := by decide +kernel
theorem dX11_place_34 : decode cX11_place 34 = .ok (.goto 11, 3) := by decide +kernel
theorem dX11_place_37 : decode cX11_place 37 = .ok (.aload_n 0, 1) := by decide +kernel
theorem dX11_place_38 : decode cX11_place 38 = .ok (.getfield 36, 3) := by decide +kernel
theorem dX11_place_41 : decode cX11_place 41 = .ok (.iconst 0, 1) := by decide +kernel
theorem dX11_place_42 : decode cX11_place 42 = .ok (.aaload, 1) := by decide +kernel
theorem dX11_place_43 : decode cX11_place 43 = .ok (.iload_n 1, 1) := by decide +kernel
theorem dX11_place_44 : decode cX11_place 44 = .ok (.iaload, 1) := by decide +kernel
theorem dX11_place_45 : decode cX11_place 45 = .ok (.ireturn, 1) := by decide +kernel
theorem dX11_propose_0 : decode cX11_propose 0 = .ok (.aload_n 0, 1) := by decide +kernel
theorem dX11_propose_1 : decode cX11_propose 1 = .ok (.invokevirtual 237, 3) := by decide +kernel
theorem dX11_propose_4 : decode cX11_propose 4 = .ok (.ifCond .eq 20, 3) := by decide +kernel
theorem dX11_propose_7 : decode cX11_propose 7 = .ok (.iload_n 1, 1) := by decide +kernel
theorem dX11_propose_8 : decode cX11_propose 8 = .ok (.iload_n 2, 1) := by decide +kernel
theorem dX11_propose_9 : decode cX11_propose 9 = .ok (.invokestatic 251, 3) := by decide +kernel
theorem dX11_propose_12 : decode cX11_propose 12 = .ok (.ifCond .eq 12, 3) := by decide +kernel
theorem dX11_propose_15 : decode cX11_propose 15 = .ok (.aload_n 0, 1) := by decide +kernel
theorem dX11_propose_16 : decode cX11_propose 16 = .ok (.invokevirtual 242, 3) := by decide +kernel
theorem dX11_propose_19 : decode cX11_propose 19 = .ok (.bipush 20, 2) := by decide +kernel
theorem dX11_propose_21 : decode cX11_propose 21 = .ok (.if_icmp .ne 5, 3) := by decide +kernel
theorem dX11_propose_24 : decode cX11_propose 24 = .ok (.iconst (-1), 1) := by decide +kernel
theorem dX11_propose_25 : decode cX11_propose 25 = .ok (.ireturn, 1) := by decide +kernel
theorem dX11_propose_26 : decode cX11_propose 26 = .ok (.aload_n 0, 1) := by decide +kernel
theorem dX11_propose_27 : decode cX11_propose 27 = .ok (.getfield 33, 3) := by decide +kernel
theorem dX11_propose_30 : decode cX11_propose 30 = .ok (.iconst 0, 1) := by decide +kernel
theorem dX11_propose_31 : decode cX11_propose 31 = .ok (.aaload, 1) := by decide +kernel
theorem dX11_propose_32 : decode cX11_propose 32 = .ok (.aload_n 0, 1) := by decide +kernel
theorem dX11_propose_33 : decode cX11_propose 33 = .ok (.invokevirtual 242, 3) := by decide +kernel
theorem dX11_propose_36 : decode cX11_propose 36 = .ok (.iload_n 1, 1) := by decide +kernel
theorem dX11_propose_37 : decode cX11_propose 37 = .ok (.iastore, 1) := by decide +kernel
theorem dX11_propose_38 : decode cX11_propose 38 = .ok (.aload_n 0, 1) := by decide +kernel
theorem dX11_propose_39 : decode cX11_propose 39 = .ok (.getfield 36, 3) := by decide +kernel
theorem dX11_propose_42 : decode cX11_propose 42 = .ok (.iconst 0, 1) := by decide +kernel
theorem dX11_propose_43 : decode cX11_propose 43 = .ok (.aaload, 1) := by decide +kernel
theorem dX11_propose_44 : decode cX11_propose 44 = .ok (.aload_n 0, 1) := by decide +kernel
theorem dX11_propose_45 : decode cX11_propose 45 = .ok (.invokevirtual 242, 3) := by decide +kernel
theorem dX11_propose_48 : decode cX11_propose 48 = .ok (.iload_n 2, 1) := by decide +kernel
theorem dX11_propose_49 : decode cX11_propose 49 = .ok (.iastore, 1) := by decide +kernel
theorem dX11_propose_50 : decode cX11_propose 50 = .ok (.aload_n 0, 1) := by decide +kernel
theorem dX11_propose_51 : decode cX11_propose 51 = .ok (.getfield 43, 3) := by decide +kernel
theorem dX11_propose_54 : decode cX11_propose 54 = .ok (.iconst 0, 1) := by decide +kernel
theorem dX11_propose_55 : decode cX11_propose 55 = .ok (.dup2, 1) := by decide +kernel
theorem dX11_propose_56 : decode cX11_propose 56 = .ok (.iaload, 1) := by decide +kernel
theorem dX11_propose_57 : decode cX11_propose 57 = .ok (.iconst 1, 1) := by decide +kernel
theorem dX11_propose_58 : decode cX11_propose 58 = .ok (.iadd, 1) := by decide +kernel
theorem dX11_propose_59 : decode cX11_propose 59 = .ok (.iastore, 1) := by decide +kernel
theorem dX11_propose_60 : decode cX11_propose 60 = .ok (.aload_n 0, 1) := by decide +kernel
theorem dX11_propose_61 : decode cX11_propose 61 = .ok (.invokevirtual 242, 3) := by decide +kernel
theorem dX11_propose_64 : decode cX11_propose 64 = .ok (.iconst 1, 1) := by decide +kernel
theorem dX11_propose_65 : decode cX11_propose 65 = .ok (.isub, 1) := by decide +kernel
theorem dX11_propose_66 : decode cX11_propose 66 = .ok (.ireturn, 1) := by decide +kernel
theorem dX11_wayFrom_0 : decode cX11_wayFrom 0 = .ok (.iload 4, 2) := by decide +kernel
theorem dX11_wayFrom_2 : decode cX11_wayFrom 2 = .ok (.iload_n 2, 1) := by decide +kernel
theorem dX11_wayFrom_3 : decode cX11_wayFrom 3 = .ok (.isub, 1) := by decide +kernel
theorem dX11_wayFrom_4 : decode cX11_wayFrom 4 = .ok (.invokestatic 254, 3) := by decide +kernel
theorem dX11_wayFrom_7 : decode cX11_wayFrom 7 = .ok (.aload_n 0, 1) := by decide +kernel
theorem dX11_wayFrom_8 : decode cX11_wayFrom 8 = .ok (.getfield 27, 3) := by decide +kernel
theorem dX11_wayFrom_11 : decode cX11_wayFrom 11 = .ok (.iconst 0, 1) := by decide +kernel
theorem dX11_wayFrom_12 : decode cX11_wayFrom 12 = .ok (.aaload, 1) := by decide +kernel
theorem dX11_wayFrom_13 : decode cX11_wayFrom 13 = .ok (.iload_n 1, 1) := by decide +kernel
theorem dX11_wayFrom_14 : decode cX11_wayFrom 14 = .ok (.iaload, 1) := by decide +kernel
theorem dX11_wayFrom_15 : decode cX11_wayFrom 15 = .ok (.imul, 1) := by decide +kernel
theorem dX11_wayFrom_16 : decode cX11_wayFrom 16 = .ok (.istore 6, 2) := by decide +kernel
theorem dX11_wayFrom_18 : decode cX11_wayFrom 18 = .ok (.iload 5, 2) := by decide +kernel
theorem dX11_wayFrom_20 : decode cX11_wayFrom 20 = .ok (.iload_n 3, 1) := by decide +kernel
theorem dX11_wayFrom_21 : decode cX11_wayFrom 21 = .ok (.isub, 1) := by decide +kernel
theorem dX11_wayFrom_22 : decode cX11_wayFrom 22 = .ok (.invokestatic 254, 3) := by decide +kernel
theorem dX11_wayFrom_25 : decode cX11_wayFrom 25 = .ok (.aload_n 0, 1) := by decide +kernel
theorem dX11_wayFrom_26 : decode cX11_wayFrom 26 = .ok (.getfield 30, 3) := by decide +kernel
theorem dX11_wayFrom_29 : decode cX11_wayFrom 29 = .ok (.iconst 0, 1) := by decide +kernel
theorem dX11_wayFrom_30 : decode cX11_wayFrom 30 = .ok (.aaload, 1) := by decide +kernel
theorem dX11_wayFrom_31 : decode cX11_wayFrom 31 = .ok (.iload_n 1, 1) := by decide +kernel
theorem dX11_wayFrom_32 : decode cX11_wayFrom 32 = .ok (.iaload, 1) := by decide +kernel
theorem dX11_wayFrom_33 : decode cX11_wayFrom 33 = .ok (.imul, 1) := by decide +kernel
theorem dX11_wayFrom_34 : decode cX11_wayFrom 34 = .ok (.istore 7, 2) := by decide +kernel
theorem dX11_wayFrom_36 : decode cX11_wayFrom 36 = .ok (.aload_n 0, 1) := by decide +kernel
theorem dX11_wayFrom_37 : decode cX11_wayFrom 37 = .ok (.getfield 24, 3) := by decide +kernel
theorem dX11_wayFrom_40 : decode cX11_wayFrom 40 = .ok (.iconst 0, 1) := by decide +kernel
theorem dX11_wayFrom_41 : decode cX11_wayFrom 41 = .ok (.aaload, 1) := by decide +kernel
theorem dX11_wayFrom_42 : decode cX11_wayFrom 42 = .ok (.iload_n 1, 1) := by decide +kernel
theorem dX11_wayFrom_43 : decode cX11_wayFrom 43 = .ok (.iaload, 1) := by decide +kernel
theorem dX11_wayFrom_44 : decode cX11_wayFrom 44 = .ok (.tableswitch 54 0 2 #[28, 40, 46], 28) := by decide +kernel
theorem dX11_wayFrom_72 : decode cX11_wayFrom 72 = .ok (.iload 6, 2) := by decide +kernel
theorem dX11_wayFrom_74 : decode cX11_wayFrom 74 = .ok (.iload 6, 2) := by decide +kernel
theorem dX11_wayFrom_76 : decode cX11_wayFrom 76 = .ok (.imul, 1) := by decide +kernel
theorem dX11_wayFrom_77 : decode cX11_wayFrom 77 = .ok (.iload 7, 2) := by decide +kernel
theorem dX11_wayFrom_79 : decode cX11_wayFrom 79 = .ok (.iload 7, 2) := by decide +kernel
theorem dX11_wayFrom_81 : decode cX11_wayFrom 81 = .ok (.imul, 1) := by decide +kernel
theorem dX11_wayFrom_82 : decode cX11_wayFrom 82 = .ok (.iadd, 1) := by decide +kernel
theorem dX11_wayFrom_83 : decode cX11_wayFrom 83 = .ok (.ireturn, 1) := by decide +kernel
theorem dX11_wayFrom_84 : decode cX11_wayFrom 84 = .ok (.iload 6, 2) := by decide +kernel
theorem dX11_wayFrom_86 : decode cX11_wayFrom 86 = .ok (.iload 7, 2) := by decide +kernel
theorem dX11_wayFrom_88 : decode cX11_wayFrom 88 = .ok (.iadd, 1) := by decide +kernel
theorem dX11_wayFrom_89 : decode cX11_wayFrom 89 = .ok (.ireturn, 1) := by decide +kernel
theorem dX11_wayFrom_90 : decode cX11_wayFrom 90 = .ok (.iload 6, 2) := by decide +kernel
theorem dX11_wayFrom_92 : decode cX11_wayFrom 92 = .ok (.iload 7, 2) := by decide +kernel
theorem dX11_wayFrom_94 : decode cX11_wayFrom 94 = .ok (.invokestatic 192, 3) := by decide +kernel
theorem dX11_wayFrom_97 : decode cX11_wayFrom 97 = .ok (.ireturn, 1) := by decide +kernel
theorem dX11_wayFrom_98 : decode cX11_wayFrom 98 = .ok (.iload 6, 2) := by decide +kernel
theorem dX11_wayFrom_100 : decode cX11_wayFrom 100 = .ok (.ireturn, 1) := by decide +kernel
theorem dX11_wayOf_0 : decode cX11_wayOf 0 = .ok (.aload_n 0, 1) := by decide +kernel
theorem dX11_wayOf_1 : decode cX11_wayOf 1 = .ok (.iload_n 1, 1) := by decide +kernel
theorem dX11_wayOf_2 : decode cX11_wayOf 2 = .ok (.aload_n 0, 1) := by decide +kernel
theorem dX11_wayOf_3 : decode cX11_wayOf 3 = .ok (.getfield 15, 3) := by decide +kernel
theorem dX11_wayOf_6 : decode cX11_wayOf 6 = .ok (.iconst 0, 1) := by decide +kernel
theorem dX11_wayOf_7 : decode cX11_wayOf 7 = .ok (.aaload, 1) := by decide +kernel
theorem dX11_wayOf_8 : decode cX11_wayOf 8 = .ok (.iload_n 1, 1) := by decide +kernel
theorem dX11_wayOf_9 : decode cX11_wayOf 9 = .ok (.iaload, 1) := by decide +kernel
theorem dX11_wayOf_10 : decode cX11_wayOf 10 = .ok (.aload_n 0, 1) := by decide +kernel
theorem dX11_wayOf_11 : decode cX11_wayOf 11 = .ok (.getfield 18, 3) := by decide +kernel
theorem dX11_wayOf_14 : decode cX11_wayOf 14 = .ok (.iconst 0, 1) := by decide +kernel
theorem dX11_wayOf_15 : decode cX11_wayOf 15 = .ok (.aaload, 1) := by decide +kernel
theorem dX11_wayOf_16 : decode cX11_wayOf 16 = .ok (.iload_n 1, 1) := by decide +kernel
theorem dX11_wayOf_17 : decode cX11_wayOf 17 = .ok (.iaload, 1) := by decide +kernel
theorem dX11_wayOf_18 : decode cX11_wayOf 18 = .ok (.iload_n 2, 1) := by decide +kernel
theorem dX11_wayOf_19 : decode cX11_wayOf 19 = .ok (.iload_n 3, 1) := by decide +kernel
theorem dX11_wayOf_20 : decode cX11_wayOf 20 = .ok (.invokevirtual 258, 3) := by decide +kernel
theorem dX11_wayOf_23 : decode cX11_wayOf 23 = .ok (.ireturn, 1) := by decide +kernel
theorem dX11_way_0 : decode cX11_way 0 = .ok (.aload_n 0, 1) := by decide +kernel
theorem dX11_way_1 : decode cX11_way 1 = .ok (.iload_n 1, 1) := by decide +kernel
theorem dX11_way_2 : decode cX11_way 2 = .ok (.invokevirtual 245, 3) := by decide +kernel
theorem dX11_way_5 : decode cX11_way 5 = .ok (.ifCond .eq 21, 3) := by decide +kernel
theorem dX11_way_8 : decode cX11_way 8 = .ok (.iload_n 2, 1) := by decide +kernel
theorem dX11_way_9 : decode cX11_way 9 = .ok (.iload_n 3, 1) := by decide +kernel
theorem dX11_way_10 : decode cX11_way 10 = .ok (.invokestatic 251, 3) := by decide +kernel
theorem dX11_way_13 : decode cX11_way 13 = .ok (.ifCond .eq 13, 3) := by decide +kernel
theorem dX11_way_16 : decode cX11_way 16 = .ok (.aload_n 0, 1) := by decide +kernel
theorem dX11_way_17 : decode cX11_way 17 = .ok (.iload_n 1, 1) := by decide +kernel
theorem dX11_way_18 : decode cX11_way 18 = .ok (.iload_n 2, 1) := by decide +kernel
theorem dX11_way_19 : decode cX11_way 19 = .ok (.iload_n 3, 1) := by decide +kernel
theorem dX11_way_20 : decode cX11_way 20 = .ok (.invokevirtual 262, 3) := by decide +kernel
theorem dX11_way_23 : decode cX11_way 23 = .ok (.goto 4, 3) := by decide +kernel
theorem dX11_way_26 : decode cX11_way 26 = .ok (.iconst (-1), 1) := by decide +kernel
theorem dX11_way_27 : decode cX11_way 27 = .ok (.ireturn, 1) := by decide +kernel
theorem dX11_forOf_0 : decode cX11_forOf 0 = .ok (.iconst 0, 1) := by decide +kernel
theorem dX11_forOf_1 : decode cX11_forOf 1 = .ok (.istore 5, 2) := by decide +kernel
theorem dX11_forOf_3 : decode cX11_forOf 3 = .ok (.iconst 0, 1) := by decide +kernel
theorem dX11_forOf_4 : decode cX11_forOf 4 = .ok (.istore 6, 2) := by decide +kernel
theorem dX11_forOf_6 : decode cX11_forOf 6 = .ok (.iload 6, 2) := by decide +kernel
theorem dX11_forOf_8 : decode cX11_forOf 8 = .ok (.aload_n 0, 1) := by decide +kernel
theorem dX11_forOf_9 : decode cX11_forOf 9 = .ok (.invokevirtual 237, 3) := by decide +kernel
theorem dX11_forOf_12 : decode cX11_forOf 12 = .ok (.if_icmp .ge 43, 3) := by decide +kernel
theorem dX11_forOf_15 : decode cX11_forOf 15 = .ok (.aload_n 0, 1) := by decide +kernel
theorem dX11_forOf_16 : decode cX11_forOf 16 = .ok (.iload 6, 2) := by decide +kernel
theorem dX11_forOf_18 : decode cX11_forOf 18 = .ok (.iload_n 1, 1) := by decide +kernel
theorem dX11_forOf_19 : decode cX11_forOf 19 = .ok (.iload_n 2, 1) := by decide +kernel
theorem dX11_forOf_20 : decode cX11_forOf 20 = .ok (.invokevirtual 262, 3) := by decide +kernel
theorem dX11_forOf_23 : decode cX11_forOf 23 = .ok (.aload_n 0, 1) := by decide +kernel
theorem dX11_forOf_24 : decode cX11_forOf 24 = .ok (.iload 6, 2) := by decide +kernel
theorem dX11_forOf_26 : decode cX11_forOf 26 = .ok (.iload_n 3, 1) := by decide +kernel
theorem dX11_forOf_27 : decode cX11_forOf 27 = .ok (.iload 4, 2) := by decide +kernel
theorem dX11_forOf_29 : decode cX11_forOf 29 = .ok (.invokevirtual 262, 3) := by decide +kernel
theorem dX11_forOf_32 : decode cX11_forOf 32 = .ok (.if_icmp .ge 17, 3) := by decide +kernel
theorem dX11_forOf_35 : decode cX11_forOf 35 = .ok (.iload 5, 2) := by decide +kernel
theorem dX11_forOf_37 : decode cX11_forOf 37 = .ok (.aload_n 0, 1) := by decide +kernel
theorem dX11_forOf_38 : decode cX11_forOf 38 = .ok (.getfield 21, 3) := by decide +kernel
theorem dX11_forOf_41 : decode cX11_forOf 41 = .ok (.iconst 0, 1) := by decide +kernel
theorem dX11_forOf_42 : decode cX11_forOf 42 = .ok (.aaload, 1) := by decide +kernel
theorem dX11_forOf_43 : decode cX11_forOf 43 = .ok (.iload 6, 2) := by decide +kernel
theorem dX11_forOf_45 : decode cX11_forOf 45 = .ok (.iaload, 1) := by decide +kernel
theorem dX11_forOf_46 : decode cX11_forOf 46 = .ok (.iadd, 1) := by decide +kernel
theorem dX11_forOf_47 : decode cX11_forOf 47 = .ok (.istore 5, 2) := by decide +kernel
theorem dX11_forOf_49 : decode cX11_forOf 49 = .ok (.iinc 6 1, 3) := by decide +kernel
theorem dX11_forOf_52 : decode cX11_forOf 52 = .ok (.goto (-46), 3) := by decide +kernel
theorem dX11_forOf_55 : decode cX11_forOf 55 = .ok (.iload 5, 2) := by decide +kernel
theorem dX11_forOf_57 : decode cX11_forOf 57 = .ok (.ireturn, 1) := by decide +kernel
theorem dX11_total_0 : decode cX11_total 0 = .ok (.iconst 0, 1) := by decide +kernel
theorem dX11_total_1 : decode cX11_total 1 = .ok (.istore_n 1, 1) := by decide +kernel
theorem dX11_total_2 : decode cX11_total 2 = .ok (.iconst 0, 1) := by decide +kernel
theorem dX11_total_3 : decode cX11_total 3 = .ok (.istore_n 2, 1) := by decide +kernel
theorem dX11_total_4 : decode cX11_total 4 = .ok (.iload_n 2, 1) := by decide +kernel
theorem dX11_total_5 : decode cX11_total 5 = .ok (.aload_n 0, 1) := by decide +kernel
theorem dX11_total_6 : decode cX11_total 6 = .ok (.invokevirtual 237, 3) := by decide +kernel
theorem dX11_total_9 : decode cX11_total 9 = .ok (.if_icmp .ge 20, 3) := by decide +kernel
theorem dX11_total_12 : decode cX11_total 12 = .ok (.iload_n 1, 1) := by decide +kernel
theorem dX11_total_13 : decode cX11_total 13 = .ok (.aload_n 0, 1) := by decide +kernel
theorem dX11_total_14 : decode cX11_total 14 = .ok (.getfield 21, 3) := by decide +kernel
theorem dX11_total_17 : decode cX11_total 17 = .ok (.iconst 0, 1) := by decide +kernel
theorem dX11_total_18 : decode cX11_total 18 = .ok (.aaload, 1) := by decide +kernel
theorem dX11_total_19 : decode cX11_total 19 = .ok (.iload_n 2, 1) := by decide +kernel
theorem dX11_total_20 : decode cX11_total 20 = .ok (.iaload, 1) := by decide +kernel
theorem dX11_total_21 : decode cX11_total 21 = .ok (.iadd, 1) := by decide +kernel
theorem dX11_total_22 : decode cX11_total 22 = .ok (.istore_n 1, 1) := by decide +kernel
theorem dX11_total_23 : decode cX11_total 23 = .ok (.iinc 2 1, 3) := by decide +kernel
theorem dX11_total_26 : decode cX11_total 26 = .ok (.goto (-22), 3) := by decide +kernel
theorem dX11_total_29 : decode cX11_total 29 = .ok (.iload_n 1, 1) := by decide +kernel
theorem dX11_total_30 : decode cX11_total 30 = .ok (.ireturn, 1) := by decide +kernel
theorem dX11_isWon_0 : decode cX11_isWon 0 = .ok (.aload_n 0, 1) := by decide +kernel
theorem dX11_isWon_1 : decode cX11_isWon 1 = .ok (.getfield 46, 3) := by decide +kernel
theorem dX11_isWon_4 : decode cX11_isWon 4 = .ok (.iconst 0, 1) := by decide +kernel
theorem dX11_isWon_5 : decode cX11_isWon 5 = .ok (.iaload, 1) := by decide +kernel
theorem dX11_isWon_6 : decode cX11_isWon 6 = .ok (.ifCond .ne 14, 3) := by decide +kernel
theorem dX11_isWon_9 : decode cX11_isWon 9 = .ok (.iload_n 1, 1) := by decide +kernel
theorem dX11_isWon_10 : decode cX11_isWon 10 = .ok (.iload_n 2, 1) := by decide +kernel
theorem dX11_isWon_11 : decode cX11_isWon 11 = .ok (.if_icmp .le 7, 3) := by decide +kernel
theorem dX11_isWon_14 : decode cX11_isWon 14 = .ok (.iconst 1, 1) := by decide +kernel
theorem dX11_isWon_15 : decode cX11_isWon 15 = .ok (.goto 4, 3) := by decide +kernel
theorem dX11_isWon_18 : decode cX11_isWon 18 = .ok (.iconst 0, 1) := by decide +kernel
theorem dX11_isWon_19 : decode cX11_isWon 19 = .ok (.ireturn, 1) := by decide +kernel
theorem dX11_isWon_20 : decode cX11_isWon 20 = .ok (.aload_n 0, 1) := by decide +kernel
theorem dX11_isWon_21 : decode cX11_isWon 21 = .ok (.getfield 49, 3) := by decide +kernel
theorem dX11_isWon_24 : decode cX11_isWon 24 = .ok (.iconst 0, 1) := by decide +kernel
theorem dX11_isWon_25 : decode cX11_isWon 25 = .ok (.iaload, 1) := by decide +kernel
theorem dX11_isWon_26 : decode cX11_isWon 26 = .ok (.aload_n 0, 1) := by decide +kernel
theorem dX11_isWon_27 : decode cX11_isWon 27 = .ok (.invokevirtual 266, 3) := by decide +kernel
theorem dX11_isWon_30 : decode cX11_isWon 30 = .ok (.imul, 1) := by decide +kernel
theorem dX11_isWon_31 : decode cX11_isWon 31 = .ok (.istore_n 3, 1) := by decide +kernel
theorem dX11_isWon_32 : decode cX11_isWon 32 = .ok (.aload_n 0, 1) := by decide +kernel
theorem dX11_isWon_33 : decode cX11_isWon 33 = .ok (.getfield 46, 3) := by decide +kernel
theorem dX11_isWon_36 : decode cX11_isWon 36 = .ok (.iconst 0, 1) := by decide +kernel
theorem dX11_isWon_37 : decode cX11_isWon 37 = .ok (.iaload, 1) := by decide +kernel
theorem dX11_isWon_38 : decode cX11_isWon 38 = .ok (.iconst 1, 1) := by decide +kernel
theorem dX11_isWon_39 : decode cX11_isWon 39 = .ok (.if_icmp .ne 23, 3) := by decide +kernel
theorem dX11_isWon_42 : decode cX11_isWon 42 = .ok (.iload_n 1, 1) := by decide +kernel
theorem dX11_isWon_43 : decode cX11_isWon 43 = .ok (.aload_n 0, 1) := by decide +kernel
theorem dX11_isWon_44 : decode cX11_isWon 44 = .ok (.getfield 52, 3) := by decide +kernel
theorem dX11_isWon_47 : decode cX11_isWon 47 = .ok (.iconst 0, 1) := by decide +kernel
theorem dX11_isWon_48 : decode cX11_isWon 48 = .ok (.iaload, 1) := by decide +kernel
theorem dX11_isWon_49 : decode cX11_isWon 49 = .ok (.imul, 1) := by decide +kernel
theorem dX11_isWon_50 : decode cX11_isWon 50 = .ok (.iload_n 3, 1) := by decide +kernel
theorem dX11_isWon_51 : decode cX11_isWon 51 = .ok (.if_icmp .le 7, 3) := by decide +kernel
theorem dX11_isWon_54 : decode cX11_isWon 54 = .ok (.iconst 1, 1) := by decide +kernel
theorem dX11_isWon_55 : decode cX11_isWon 55 = .ok (.goto 29, 3) := by decide +kernel
theorem dX11_isWon_58 : decode cX11_isWon 58 = .ok (.iconst 0, 1) := by decide +kernel
theorem dX11_isWon_59 : decode cX11_isWon 59 = .ok (.goto 25, 3) := by decide +kernel
theorem dX11_isWon_62 : decode cX11_isWon 62 = .ok (.iload_n 1, 1) := by decide +kernel
theorem dX11_isWon_63 : decode cX11_isWon 63 = .ok (.aload_n 0, 1) := by decide +kernel
theorem dX11_isWon_64 : decode cX11_isWon 64 = .ok (.getfield 52, 3) := by decide +kernel
theorem dX11_isWon_67 : decode cX11_isWon 67 = .ok (.iconst 0, 1) := by decide +kernel
theorem dX11_isWon_68 : decode cX11_isWon 68 = .ok (.iaload, 1) := by decide +kernel
theorem dX11_isWon_69 : decode cX11_isWon 69 = .ok (.imul, 1) := by decide +kernel
theorem dX11_isWon_70 : decode cX11_isWon 70 = .ok (.iload_n 3, 1) := by decide +kernel
theorem dX11_isWon_71 : decode cX11_isWon 71 = .ok (.if_icmp .lt 12, 3) := by decide +kernel
theorem dX11_isWon_74 : decode cX11_isWon 74 = .ok (.iload_n 1, 1) := by decide +kernel
theorem dX11_isWon_75 : decode cX11_isWon 75 = .ok (.iload_n 2, 1) := by decide +kernel
theorem dX11_isWon_76 : decode cX11_isWon 76 = .ok (.if_icmp .le 7, 3) := by decide +kernel
theorem dX11_isWon_79 : decode cX11_isWon 79 = .ok (.iconst 1, 1) := by decide +kernel
theorem dX11_isWon_80 : decode cX11_isWon 80 = .ok (.goto 4, 3) := by decide +kernel
theorem dX11_isWon_83 : decode cX11_isWon 83 = .ok (.iconst 0, 1) := by decide +kernel
theorem dX11_isWon_84 : decode cX11_isWon 84 = .ok (.ireturn, 1) := by decide +kernel
theorem dX11_beatsAt_0 : decode cX11_beatsAt 0 = .ok (.aload_n 0, 1) := by decide +kernel
theorem dX11_beatsAt_1 : decode cX11_beatsAt 1 = .ok (.aload_n 0, 1) := by decide +kernel
theorem dX11_beatsAt_2 : decode cX11_beatsAt 2 = .ok (.iload_n 1, 1) := by decide +kernel
theorem dX11_beatsAt_3 : decode cX11_beatsAt 3 = .ok (.iload_n 2, 1) := by decide +kernel
theorem dX11_beatsAt_4 : decode cX11_beatsAt 4 = .ok (.iload_n 3, 1) := by decide +kernel
theorem dX11_beatsAt_5 : decode cX11_beatsAt 5 = .ok (.iload 4, 2) := by decide +kernel
theorem dX11_beatsAt_7 : decode cX11_beatsAt 7 = .ok (.invokevirtual 269, 3) := by decide +kernel
theorem dX11_beatsAt_10 : decode cX11_beatsAt 10 = .ok (.aload_n 0, 1) := by decide +kernel
theorem dX11_beatsAt_11 : decode cX11_beatsAt 11 = .ok (.iload_n 3, 1) := by decide +kernel
theorem dX11_beatsAt_12 : decode cX11_beatsAt 12 = .ok (.iload 4, 2) := by decide +kernel
theorem dX11_beatsAt_14 : decode cX11_beatsAt 14 = .ok (.iload_n 1, 1) := by decide +kernel
theorem dX11_beatsAt_15 : decode cX11_beatsAt 15 = .ok (.iload_n 2, 1) := by decide +kernel
theorem dX11_beatsAt_16 : decode cX11_beatsAt 16 = .ok (.invokevirtual 269, 3) := by decide +kernel
theorem dX11_beatsAt_19 : decode cX11_beatsAt 19 = .ok (.invokevirtual 273, 3) := by decide +kernel
theorem dX11_beatsAt_22 : decode cX11_beatsAt 22 = .ok (.ireturn, 1) := by decide +kernel
theorem dX11_beatsOf_0 : decode cX11_beatsOf 0 = .ok (.aload_n 0, 1) := by decide +kernel
theorem dX11_beatsOf_1 : decode cX11_beatsOf 1 = .ok (.aload_n 0, 1) := by decide +kernel
theorem dX11_beatsOf_2 : decode cX11_beatsOf 2 = .ok (.getfield 33, 3) := by decide +kernel
theorem dX11_beatsOf_5 : decode cX11_beatsOf 5 = .ok (.iconst 0, 1) := by decide +kernel
theorem dX11_beatsOf_6 : decode cX11_beatsOf 6 = .ok (.aaload, 1) := by decide +kernel
theorem dX11_beatsOf_7 : decode cX11_beatsOf 7 = .ok (.iload_n 1, 1) := by decide +kernel
theorem dX11_beatsOf_8 : decode cX11_beatsOf 8 = .ok (.iaload, 1) := by decide +kernel
theorem dX11_beatsOf_9 : decode cX11_beatsOf 9 = .ok (.aload_n 0, 1) := by decide +kernel
theorem dX11_beatsOf_10 : decode cX11_beatsOf 10 = .ok (.getfield 36, 3) := by decide +kernel
theorem dX11_beatsOf_13 : decode cX11_beatsOf 13 = .ok (.iconst 0, 1) := by decide +kernel
theorem dX11_beatsOf_14 : decode cX11_beatsOf 14 = .ok (.aaload, 1) := by decide +kernel
theorem dX11_beatsOf_15 : decode cX11_beatsOf 15 = .ok (.iload_n 1, 1) := by decide +kernel
theorem dX11_beatsOf_16 : decode cX11_beatsOf 16 = .ok (.iaload, 1) := by decide +kernel
theorem dX11_beatsOf_17 : decode cX11_beatsOf 17 = .ok (.aload_n 0, 1) := by decide +kernel
theorem dX11_beatsOf_18 : decode cX11_beatsOf 18 = .ok (.getfield 33, 3) := by decide +kernel
theorem dX11_beatsOf_21 : decode cX11_beatsOf 21 = .ok (.iconst 0, 1) := by decide +kernel
theorem dX11_beatsOf_22 : decode cX11_beatsOf 22 = .ok (.aaload, 1) := by decide +kernel
theorem dX11_beatsOf_23 : decode cX11_beatsOf 23 = .ok (.iload_n 2, 1) := by decide +kernel
theorem dX11_beatsOf_24 : decode cX11_beatsOf 24 = .ok (.iaload, 1) := by decide +kernel
theorem dX11_beatsOf_25 : decode cX11_beatsOf 25 = .ok (.aload_n 0, 1) := by decide +kernel
theorem dX11_beatsOf_26 : decode cX11_beatsOf 26 = .ok (.getfield 36, 3) := by decide +kernel
theorem dX11_beatsOf_29 : decode cX11_beatsOf 29 = .ok (.iconst 0, 1) := by decide +kernel
theorem dX11_beatsOf_30 : decode cX11_beatsOf 30 = .ok (.aaload, 1) := by decide +kernel
theorem dX11_beatsOf_31 : decode cX11_beatsOf 31 = .ok (.iload_n 2, 1) := by decide +kernel
theorem dX11_beatsOf_32 : decode cX11_beatsOf 32 = .ok (.iaload, 1) := by decide +kernel
theorem dX11_beatsOf_33 : decode cX11_beatsOf 33 = .ok (.invokevirtual 276, 3) := by decide +kernel
theorem dX11_beatsOf_36 : decode cX11_beatsOf 36 = .ok (.ireturn, 1) := by decide +kernel
theorem dX11_votesOf_0 : decode cX11_votesOf 0 = .ok (.aload_n 0, 1) := by decide +kernel
theorem dX11_votesOf_1 : decode cX11_votesOf 1 = .ok (.aload_n 0, 1) := by decide +kernel
theorem dX11_votesOf_2 : decode cX11_votesOf 2 = .ok (.getfield 33, 3) := by decide +kernel
theorem dX11_votesOf_5 : decode cX11_votesOf 5 = .ok (.iconst 0, 1) := by decide +kernel
theorem dX11_votesOf_6 : decode cX11_votesOf 6 = .ok (.aaload, 1) := by decide +kernel
theorem dX11_votesOf_7 : decode cX11_votesOf 7 = .ok (.iload_n 1, 1) := by decide +kernel
theorem dX11_votesOf_8 : decode cX11_votesOf 8 = .ok (.iaload, 1) := by decide +kernel
theorem dX11_votesOf_9 : decode cX11_votesOf 9 = .ok (.aload_n 0, 1) := by decide +kernel
theorem dX11_votesOf_10 : decode cX11_votesOf 10 = .ok (.getfield 36, 3) := by decide +kernel
theorem dX11_votesOf_13 : decode cX11_votesOf 13 = .ok (.iconst 0, 1) := by decide +kernel
theorem dX11_votesOf_14 : decode cX11_votesOf 14 = .ok (.aaload, 1) := by decide +kernel
theorem dX11_votesOf_15 : decode cX11_votesOf 15 = .ok (.iload_n 1, 1) := by decide +kernel
theorem dX11_votesOf_16 : decode cX11_votesOf 16 = .ok (.iaload, 1) := by decide +kernel
theorem dX11_votesOf_17 : decode cX11_votesOf 17 = .ok (.aload_n 0, 1) := by decide +kernel
theorem dX11_votesOf_18 : decode cX11_votesOf 18 = .ok (.getfield 33, 3) := by decide +kernel
theorem dX11_votesOf_21 : decode cX11_votesOf 21 = .ok (.iconst 0, 1) := by decide +kernel
theorem dX11_votesOf_22 : decode cX11_votesOf 22 = .ok (.aaload, 1) := by decide +kernel
theorem dX11_votesOf_23 : decode cX11_votesOf 23 = .ok (.iload_n 2, 1) := by decide +kernel
theorem dX11_votesOf_24 : decode cX11_votesOf 24 = .ok (.iaload, 1) := by decide +kernel
theorem dX11_votesOf_25 : decode cX11_votesOf 25 = .ok (.aload_n 0, 1) := by decide +kernel
theorem dX11_votesOf_26 : decode cX11_votesOf 26 = .ok (.getfield 36, 3) := by decide +kernel
theorem dX11_votesOf_29 : decode cX11_votesOf 29 = .ok (.iconst 0, 1) := by decide +kernel
theorem dX11_votesOf_30 : decode cX11_votesOf 30 = .ok (.aaload, 1) := by decide +kernel
theorem dX11_votesOf_31 : decode cX11_votesOf 31 = .ok (.iload_n 2, 1) := by decide +kernel
theorem dX11_votesOf_32 : decode cX11_votesOf 32 = .ok (.iaload, 1) := by decide +kernel
theorem dX11_votesOf_33 : decode cX11_votesOf 33 = .ok (.invokevirtual 269, 3) := by decide +kernel
theorem dX11_votesOf_36 : decode cX11_votesOf 36 = .ok (.ireturn, 1) := by decide +kernel
theorem dX11_votes_0 : decode cX11_votes 0 = .ok (.aload_n 0, 1) := by decide +kernel
theorem dX11_votes_1 : decode cX11_votes 1 = .ok (.iload_n 1, 1) := by decide +kernel
theorem dX11_votes_2 : decode cX11_votes 2 = .ok (.invokevirtual 248, 3) := by decide +kernel
theorem dX11_votes_5 : decode cX11_votes 5 = .ok (.ifCond .eq 20, 3) := by decide +kernel
theorem dX11_votes_8 : decode cX11_votes 8 = .ok (.aload_n 0, 1) := by decide +kernel
theorem dX11_votes_9 : decode cX11_votes 9 = .ok (.iload_n 2, 1) := by decide +kernel
theorem dX11_votes_10 : decode cX11_votes 10 = .ok (.invokevirtual 248, 3) := by decide +kernel
theorem dX11_votes_13 : decode cX11_votes 13 = .ok (.ifCond .eq 12, 3) := by decide +kernel
theorem dX11_votes_16 : decode cX11_votes 16 = .ok (.aload_n 0, 1) := by decide +kernel
theorem dX11_votes_17 : decode cX11_votes 17 = .ok (.iload_n 1, 1) := by decide +kernel
theorem dX11_votes_18 : decode cX11_votes 18 = .ok (.iload_n 2, 1) := by decide +kernel
theorem dX11_votes_19 : decode cX11_votes 19 = .ok (.invokevirtual 280, 3) := by decide +kernel
theorem dX11_votes_22 : decode cX11_votes 22 = .ok (.goto 4, 3) := by decide +kernel
theorem dX11_votes_25 : decode cX11_votes 25 = .ok (.iconst (-1), 1) := by decide +kernel
theorem dX11_votes_26 : decode cX11_votes 26 = .ok (.ireturn, 1) := by decide +kernel
theorem dX11_beats_0 : decode cX11_beats 0 = .ok (.aload_n 0, 1) := by decide +kernel
theorem dX11_beats_1 : decode cX11_beats 1 = .ok (.iload_n 1, 1) := by decide +kernel
theorem dX11_beats_2 : decode cX11_beats 2 = .ok (.invokevirtual 248, 3) := by decide +kernel
theorem dX11_beats_5 : decode cX11_beats 5 = .ok (.ifCond .eq 24, 3) := by decide +kernel
theorem dX11_beats_8 : decode cX11_beats 8 = .ok (.aload_n 0, 1) := by decide +kernel
theorem dX11_beats_9 : decode cX11_beats 9 = .ok (.iload_n 2, 1) := by decide +kernel
theorem dX11_beats_10 : decode cX11_beats 10 = .ok (.invokevirtual 248, 3) := by decide +kernel
theorem dX11_beats_13 : decode cX11_beats 13 = .ok (.ifCond .eq 16, 3) := by decide +kernel
theorem dX11_beats_16 : decode cX11_beats 16 = .ok (.aload_n 0, 1) := by decide +kernel
theorem dX11_beats_17 : decode cX11_beats 17 = .ok (.iload_n 1, 1) := by decide +kernel
theorem dX11_beats_18 : decode cX11_beats 18 = .ok (.iload_n 2, 1) := by decide +kernel
theorem dX11_beats_19 : decode cX11_beats 19 = .ok (.invokevirtual 283, 3) := by decide +kernel
theorem dX11_beats_22 : decode cX11_beats 22 = .ok (.ifCond .eq 7, 3) := by decide +kernel
theorem dX11_beats_25 : decode cX11_beats 25 = .ok (.iconst 1, 1) := by decide +kernel
theorem dX11_beats_26 : decode cX11_beats 26 = .ok (.goto 4, 3) := by decide +kernel
theorem dX11_beats_29 : decode cX11_beats 29 = .ok (.iconst 0, 1) := by decide +kernel
theorem dX11_beats_30 : decode cX11_beats 30 = .ok (.ireturn, 1) := by decide +kernel
theorem dX11_wins_0 : decode cX11_wins 0 = .ok (.aload_n 0, 1) := by decide +kernel
theorem dX11_wins_1 : decode cX11_wins 1 = .ok (.invokevirtual 237, 3) := by decide +kernel
theorem dX11_wins_4 : decode cX11_wins 4 = .ok (.ifCond .eq 27, 3) := by decide +kernel
theorem dX11_wins_7 : decode cX11_wins 7 = .ok (.iload_n 1, 1) := by decide +kernel
theorem dX11_wins_8 : decode cX11_wins 8 = .ok (.i2l, 1) := by decide +kernel
theorem dX11_wins_9 : decode cX11_wins 9 = .ok (.lconst 0, 1) := by decide +kernel
theorem dX11_wins_10 : decode cX11_wins 10 = .ok (.ldc2_w 286, 3) := by decide +kernel
theorem dX11_wins_13 : decode cX11_wins 13 = .ok (.invokestatic 122, 3) := by decide +kernel
theorem dX11_wins_16 : decode cX11_wins 16 = .ok (.ifCond .eq 15, 3) := by decide +kernel
theorem dX11_wins_19 : decode cX11_wins 19 = .ok (.iload_n 2, 1) := by decide +kernel
theorem dX11_wins_20 : decode cX11_wins 20 = .ok (.i2l, 1) := by decide +kernel
theorem dX11_wins_21 : decode cX11_wins 21 = .ok (.lconst 0, 1) := by decide +kernel
theorem dX11_wins_22 : decode cX11_wins 22 = .ok (.ldc2_w 286, 3) := by decide +kernel
theorem dX11_wins_25 : decode cX11_wins 25 = .ok (.invokestatic 122, 3) := by decide +kernel
theorem dX11_wins_28 : decode cX11_wins 28 = .ok (.ifCond .ne 5, 3) := by decide +kernel
theorem dX11_wins_31 : decode cX11_wins 31 = .ok (.iconst 0, 1) := by decide +kernel
theorem dX11_wins_32 : decode cX11_wins 32 = .ok (.ireturn, 1) := by decide +kernel
theorem dX11_wins_33 : decode cX11_wins 33 = .ok (.aload_n 0, 1) := by decide +kernel
theorem dX11_wins_34 : decode cX11_wins 34 = .ok (.iload_n 1, 1) := by decide +kernel
theorem dX11_wins_35 : decode cX11_wins 35 = .ok (.bipush 100, 2) := by decide +kernel
theorem dX11_wins_37 : decode cX11_wins 37 = .ok (.idiv, 1) := by decide +kernel
theorem dX11_wins_38 : decode cX11_wins 38 = .ok (.iload_n 1, 1) := by decide +kernel
theorem dX11_wins_39 : decode cX11_wins 39 = .ok (.bipush 100, 2) := by decide +kernel
theorem dX11_wins_41 : decode cX11_wins 41 = .ok (.irem, 1) := by decide +kernel
theorem dX11_wins_42 : decode cX11_wins 42 = .ok (.iload_n 2, 1) := by decide +kernel
theorem dX11_wins_43 : decode cX11_wins 43 = .ok (.bipush 100, 2) := by decide +kernel
theorem dX11_wins_45 : decode cX11_wins 45 = .ok (.idiv, 1) := by decide +kernel
theorem dX11_wins_46 : decode cX11_wins 46 = .ok (.iload_n 2, 1) := by decide +kernel
theorem dX11_wins_47 : decode cX11_wins 47 = .ok (.bipush 100, 2) := by decide +kernel
theorem dX11_wins_49 : decode cX11_wins 49 = .ok (.irem, 1) := by decide +kernel
theorem dX11_wins_50 : decode cX11_wins 50 = .ok (.invokevirtual 276, 3) := by decide +kernel
theorem dX11_wins_53 : decode cX11_wins 53 = .ok (.ireturn, 1) := by decide +kernel
theorem dX11_halves_0 : decode cX11_halves 0 = .ok (.iconst 0, 1) := by decide +kernel
theorem dX11_halves_1 : decode cX11_halves 1 = .ok (.istore 4, 2) := by decide +kernel
theorem dX11_halves_3 : decode cX11_halves 3 = .ok (.iconst 0, 1) := by decide +kernel
theorem dX11_halves_4 : decode cX11_halves 4 = .ok (.istore 5, 2) := by decide +kernel
theorem dX11_halves_6 : decode cX11_halves 6 = .ok (.iconst 0, 1) := by decide +kernel
theorem dX11_halves_7 : decode cX11_halves 7 = .ok (.istore 6, 2) := by decide +kernel
theorem dX11_halves_9 : decode cX11_halves 9 = .ok (.iload 6, 2) := by decide +kernel
theorem dX11_halves_11 : decode cX11_halves 11 = .ok (.aload_n 0, 1) := by decide +kernel
theorem dX11_halves_12 : decode cX11_halves 12 = .ok (.invokevirtual 237, 3) := by decide +kernel
theorem dX11_halves_15 : decode cX11_halves 15 = .ok (.if_icmp .ge 82, 3) := by decide +kernel
theorem dX11_halves_18 : decode cX11_halves 18 = .ok (.iload_n 1, 1) := by decide +kernel
theorem dX11_halves_19 : decode cX11_halves 19 = .ok (.aload_n 0, 1) := by decide +kernel
theorem dX11_halves_20 : decode cX11_halves 20 = .ok (.getfield 15, 3) := by decide +kernel
theorem dX11_halves_23 : decode cX11_halves 23 = .ok (.iconst 0, 1) := by decide +kernel
theorem dX11_halves_24 : decode cX11_halves 24 = .ok (.aaload, 1) := by decide +kernel
theorem dX11_halves_25 : decode cX11_halves 25 = .ok (.iload 6, 2) := by decide +kernel
theorem dX11_halves_27 : decode cX11_halves 27 = .ok (.iaload, 1) := by decide +kernel
theorem dX11_halves_28 : decode cX11_halves 28 = .ok (.imul, 1) := by decide +kernel
theorem dX11_halves_29 : decode cX11_halves 29 = .ok (.iload_n 2, 1) := by decide +kernel
theorem dX11_halves_30 : decode cX11_halves 30 = .ok (.aload_n 0, 1) := by decide +kernel
theorem dX11_halves_31 : decode cX11_halves 31 = .ok (.getfield 18, 3) := by decide +kernel
theorem dX11_halves_34 : decode cX11_halves 34 = .ok (.iconst 0, 1) := by decide +kernel
theorem dX11_halves_35 : decode cX11_halves 35 = .ok (.aaload, 1) := by decide +kernel
theorem dX11_halves_36 : decode cX11_halves 36 = .ok (.iload 6, 2) := by decide +kernel
theorem dX11_halves_38 : decode cX11_halves 38 = .ok (.iaload, 1) := by decide +kernel
theorem dX11_halves_39 : decode cX11_halves 39 = .ok (.imul, 1) := by decide +kernel
theorem dX11_halves_40 : decode cX11_halves 40 = .ok (.iadd, 1) := by decide +kernel
theorem dX11_halves_41 : decode cX11_halves 41 = .ok (.istore 7, 2) := by decide +kernel
theorem dX11_halves_43 : decode cX11_halves 43 = .ok (.iload 4, 2) := by decide +kernel
theorem dX11_halves_45 : decode cX11_halves 45 = .ok (.iload 7, 2) := by decide +kernel
theorem dX11_halves_47 : decode cX11_halves 47 = .ok (.iload_n 3, 1) := by decide +kernel
theorem dX11_halves_48 : decode cX11_halves 48 = .ok (.if_icmp .le 15, 3) := by decide +kernel
theorem dX11_halves_51 : decode cX11_halves 51 = .ok (.aload_n 0, 1) := by decide +kernel
theorem dX11_halves_52 : decode cX11_halves 52 = .ok (.getfield 21, 3) := by decide +kernel
theorem dX11_halves_55 : decode cX11_halves 55 = .ok (.iconst 0, 1) := by decide +kernel
theorem dX11_halves_56 : decode cX11_halves 56 = .ok (.aaload, 1) := by decide +kernel
theorem dX11_halves_57 : decode cX11_halves 57 = .ok (.iload 6, 2) := by decide +kernel
theorem dX11_halves_59 : decode cX11_halves 59 = .ok (.iaload, 1) := by decide +kernel
theorem dX11_halves_60 : decode cX11_halves 60 = .ok (.goto 4, 3) := by decide +kernel
theorem dX11_halves_63 : decode cX11_halves 63 = .ok (.iconst 0, 1) := by decide +kernel
theorem dX11_halves_64 : decode cX11_halves 64 = .ok (.iadd, 1) := by decide +kernel
theorem dX11_halves_65 : decode cX11_halves 65 = .ok (.istore 4, 2) := by decide +kernel
theorem dX11_halves_67 : decode cX11_halves 67 = .ok (.iload 5, 2) := by decide +kernel
theorem dX11_halves_69 : decode cX11_halves 69 = .ok (.iload 7, 2) := by decide +kernel
theorem dX11_halves_71 : decode cX11_halves 71 = .ok (.iload_n 3, 1) := by decide +kernel
theorem dX11_halves_72 : decode cX11_halves 72 = .ok (.if_icmp .ge 15, 3) := by decide +kernel
theorem dX11_halves_75 : decode cX11_halves 75 = .ok (.aload_n 0, 1) := by decide +kernel
theorem dX11_halves_76 : decode cX11_halves 76 = .ok (.getfield 21, 3) := by decide +kernel
theorem dX11_halves_79 : decode cX11_halves 79 = .ok (.iconst 0, 1) := by decide +kernel
theorem dX11_halves_80 : decode cX11_halves 80 = .ok (.aaload, 1) := by decide +kernel
theorem dX11_halves_81 : decode cX11_halves 81 = .ok (.iload 6, 2) := by decide +kernel
theorem dX11_halves_83 : decode cX11_halves 83 = .ok (.iaload, 1) := by decide +kernel
theorem dX11_halves_84 : decode cX11_halves 84 = .ok (.goto 4, 3) := by decide +kernel
theorem dX11_halves_87 : decode cX11_halves 87 = .ok (.iconst 0, 1) := by decide +kernel
theorem dX11_halves_88 : decode cX11_halves 88 = .ok (.iadd, 1) := by decide +kernel
theorem dX11_halves_89 : decode cX11_halves 89 = .ok (.istore 5, 2) := by decide +kernel
theorem dX11_halves_91 : decode cX11_halves 91 = .ok (.iinc 6 1, 3) := by decide +kernel
theorem dX11_halves_94 : decode cX11_halves 94 = .ok (.goto (-85), 3) := by decide +kernel
theorem dX11_halves_97 : decode cX11_halves 97 = .ok (.iconst 2, 1) := by decide +kernel
theorem dX11_halves_98 : decode cX11_halves 98 = .ok (.iload 4, 2) := by decide +kernel
theorem dX11_halves_100 : decode cX11_halves 100 = .ok (.imul, 1) := by decide +kernel
theorem dX11_halves_101 : decode cX11_halves 101 = .ok (.aload_n 0, 1) := by decide +kernel
theorem dX11_halves_102 : decode cX11_halves 102 = .ok (.invokevirtual 266, 3) := by decide +kernel
theorem dX11_halves_105 : decode cX11_halves 105 = .ok (.if_icmp .gt 18, 3) := by decide +kernel
theorem dX11_halves_108 : decode cX11_halves 108 = .ok (.iconst 2, 1) := by decide +kernel
theorem dX11_halves_109 : decode cX11_halves 109 = .ok (.iload 5, 2) := by decide +kernel
theorem dX11_halves_111 : decode cX11_halves 111 = .ok (.imul, 1) := by decide +kernel
theorem dX11_halves_112 : decode cX11_halves 112 = .ok (.aload_n 0, 1) := by decide +kernel
theorem dX11_halves_113 : decode cX11_halves 113 = .ok (.invokevirtual 266, 3) := by decide +kernel
theorem dX11_halves_116 : decode cX11_halves 116 = .ok (.if_icmp .gt 7, 3) := by decide +kernel
theorem dX11_halves_119 : decode cX11_halves 119 = .ok (.iconst 1, 1) := by decide +kernel
theorem dX11_halves_120 : decode cX11_halves 120 = .ok (.goto 4, 3) := by decide +kernel
theorem dX11_halves_123 : decode cX11_halves 123 = .ok (.iconst 0, 1) := by decide +kernel
theorem dX11_halves_124 : decode cX11_halves 124 = .ok (.ireturn, 1) := by decide +kernel
theorem dX11_isAhead_0 : decode cX11_isAhead 0 = .ok (.iload_n 1, 1) := by decide +kernel
theorem dX11_isAhead_1 : decode cX11_isAhead 1 = .ok (.ifCond .ne 7, 3) := by decide +kernel
theorem dX11_isAhead_4 : decode cX11_isAhead 4 = .ok (.iconst 1, 1) := by decide +kernel
theorem dX11_isAhead_5 : decode cX11_isAhead 5 = .ok (.goto 4, 3) := by decide +kernel
theorem dX11_isAhead_8 : decode cX11_isAhead 8 = .ok (.iconst 0, 1) := by decide +kernel
theorem dX11_isAhead_9 : decode cX11_isAhead 9 = .ok (.aload_n 0, 1) := by decide +kernel
theorem dX11_isAhead_10 : decode cX11_isAhead 10 = .ok (.getfield 69, 3) := by decide +kernel
theorem dX11_isAhead_13 : decode cX11_isAhead 13 = .ok (.iload 4, 2) := by decide +kernel
theorem dX11_isAhead_15 : decode cX11_isAhead 15 = .ok (.iaload, 1) := by decide +kernel
theorem dX11_isAhead_16 : decode cX11_isAhead 16 = .ok (.ifCond .ne 7, 3) := by decide +kernel
theorem dX11_isAhead_19 : decode cX11_isAhead 19 = .ok (.iconst 1, 1) := by decide +kernel
theorem dX11_isAhead_20 : decode cX11_isAhead 20 = .ok (.goto 4, 3) := by decide +kernel
theorem dX11_isAhead_23 : decode cX11_isAhead 23 = .ok (.iconst 0, 1) := by decide +kernel
theorem dX11_isAhead_24 : decode cX11_isAhead 24 = .ok (.if_icmp .eq 13, 3) := by decide +kernel
theorem dX11_isAhead_27 : decode cX11_isAhead 27 = .ok (.iload_n 1, 1) := by decide +kernel
theorem dX11_isAhead_28 : decode cX11_isAhead 28 = .ok (.ifCond .eq 7, 3) := by decide +kernel
theorem dX11_isAhead_31 : decode cX11_isAhead 31 = .ok (.iconst 1, 1) := by decide +kernel
theorem dX11_isAhead_32 : decode cX11_isAhead 32 = .ok (.goto 4, 3) := by decide +kernel
theorem dX11_isAhead_35 : decode cX11_isAhead 35 = .ok (.iconst 0, 1) := by decide +kernel
theorem dX11_isAhead_36 : decode cX11_isAhead 36 = .ok (.ireturn, 1) := by decide +kernel
theorem dX11_isAhead_37 : decode cX11_isAhead 37 = .ok (.iload_n 2, 1) := by decide +kernel
theorem dX11_isAhead_38 : decode cX11_isAhead 38 = .ok (.aload_n 0, 1) := by decide +kernel
theorem dX11_isAhead_39 : decode cX11_isAhead 39 = .ok (.getfield 69, 3) := by decide +kernel
theorem dX11_isAhead_42 : decode cX11_isAhead 42 = .ok (.iload 4, 2) := by decide +kernel
theorem dX11_isAhead_44 : decode cX11_isAhead 44 = .ok (.iaload, 1) := by decide +kernel
theorem dX11_isAhead_45 : decode cX11_isAhead 45 = .ok (.imul, 1) := by decide +kernel
theorem dX11_isAhead_46 : decode cX11_isAhead 46 = .ok (.aload_n 0, 1) := by decide +kernel
theorem dX11_isAhead_47 : decode cX11_isAhead 47 = .ok (.getfield 72, 3) := by decide +kernel
theorem dX11_isAhead_50 : decode cX11_isAhead 50 = .ok (.iload 4, 2) := by decide +kernel
theorem dX11_isAhead_52 : decode cX11_isAhead 52 = .ok (.iaload, 1) := by decide +kernel
theorem dX11_isAhead_53 : decode cX11_isAhead 53 = .ok (.iload_n 1, 1) := by decide +kernel
theorem dX11_isAhead_54 : decode cX11_isAhead 54 = .ok (.imul, 1) := by decide +kernel
theorem dX11_isAhead_55 : decode cX11_isAhead 55 = .ok (.isub, 1) := by decide +kernel
theorem dX11_isAhead_56 : decode cX11_isAhead 56 = .ok (.istore 5, 2) := by decide +kernel
theorem dX11_isAhead_58 : decode cX11_isAhead 58 = .ok (.iload 5, 2) := by decide +kernel
theorem dX11_isAhead_60 : decode cX11_isAhead 60 = .ok (.ifCond .eq 16, 3) := by decide +kernel
theorem dX11_isAhead_63 : decode cX11_isAhead 63 = .ok (.iload 5, 2) := by decide +kernel
theorem dX11_isAhead_65 : decode cX11_isAhead 65 = .ok (.ifCond .ge 7, 3) := by decide +kernel
theorem dX11_isAhead_68 : decode cX11_isAhead 68 = .ok (.iconst 1, 1) := by decide +kernel
theorem dX11_isAhead_69 : decode cX11_isAhead 69 = .ok (.goto 23, 3) := by decide +kernel
theorem dX11_isAhead_72 : decode cX11_isAhead 72 = .ok (.iconst 0, 1) := by decide +kernel
theorem dX11_isAhead_73 : decode cX11_isAhead 73 = .ok (.goto 19, 3) := by decide +kernel
theorem dX11_isAhead_76 : decode cX11_isAhead 76 = .ok (.iload_n 3, 1) := by decide +kernel
theorem dX11_isAhead_77 : decode cX11_isAhead 77 = .ok (.aload_n 0, 1) := by decide +kernel
theorem dX11_isAhead_78 : decode cX11_isAhead 78 = .ok (.getfield 75, 3) := by decide +kernel
theorem dX11_isAhead_81 : decode cX11_isAhead 81 = .ok (.iload 4, 2) := by decide +kernel
theorem dX11_isAhead_83 : decode cX11_isAhead 83 = .ok (.iaload, 1) := by decide +kernel
theorem dX11_isAhead_84 : decode cX11_isAhead 84 = .ok (.if_icmp .ge 7, 3) := by decide +kernel
theorem dX11_isAhead_87 : decode cX11_isAhead 87 = .ok (.iconst 1, 1) := by decide +kernel
theorem dX11_isAhead_88 : decode cX11_isAhead 88 = .ok (.goto 4, 3) := by decide +kernel
theorem dX11_isAhead_91 : decode cX11_isAhead 91 = .ok (.iconst 0, 1) := by decide +kernel
theorem dX11_isAhead_92 : decode cX11_isAhead 92 = .ok (.ireturn, 1) := by decide +kernel
theorem dX11_addsLine_0 : decode cX11_addsLine 0 = .ok (.iconst 0, 1) := by decide +kernel
theorem dX11_addsLine_1 : decode cX11_addsLine 1 = .ok (.istore 4, 2) := by decide +kernel
theorem dX11_addsLine_3 : decode cX11_addsLine 3 = .ok (.iload 4, 2) := by decide +kernel
theorem dX11_addsLine_5 : decode cX11_addsLine 5 = .ok (.aload_n 0, 1) := by decide +kernel
theorem dX11_addsLine_6 : decode cX11_addsLine 6 = .ok (.getfield 288, 3) := by decide +kernel
theorem dX11_addsLine_9 : decode cX11_addsLine 9 = .ok (.if_icmp .ge 43, 3) := by decide +kernel
theorem dX11_addsLine_12 : decode cX11_addsLine 12 = .ok (.aload_n 0, 1) := by decide +kernel
theorem dX11_addsLine_13 : decode cX11_addsLine 13 = .ok (.getfield 69, 3) := by decide +kernel
theorem dX11_addsLine_16 : decode cX11_addsLine 16 = .ok (.iload 4, 2) := by decide +kernel
theorem dX11_addsLine_18 : decode cX11_addsLine 18 = .ok (.iaload, 1) := by decide +kernel
theorem dX11_addsLine_19 : decode cX11_addsLine 19 = .ok (.iload_n 1, 1) := by decide +kernel
theorem dX11_addsLine_20 : decode cX11_addsLine 20 = .ok (.if_icmp .ne 26, 3) := by decide +kernel
theorem dX11_addsLine_23 : decode cX11_addsLine 23 = .ok (.aload_n 0, 1) := by decide +kernel
theorem dX11_addsLine_24 : decode cX11_addsLine 24 = .ok (.getfield 72, 3) := by decide +kernel
theorem dX11_addsLine_27 : decode cX11_addsLine 27 = .ok (.iload 4, 2) := by decide +kernel
theorem dX11_addsLine_29 : decode cX11_addsLine 29 = .ok (.iaload, 1) := by decide +kernel
theorem dX11_addsLine_30 : decode cX11_addsLine 30 = .ok (.iload_n 2, 1) := by decide +kernel
theorem dX11_addsLine_31 : decode cX11_addsLine 31 = .ok (.if_icmp .ne 15, 3) := by decide +kernel
theorem dX11_addsLine_34 : decode cX11_addsLine 34 = .ok (.aload_n 0, 1) := by decide +kernel
theorem dX11_addsLine_35 : decode cX11_addsLine 35 = .ok (.getfield 75, 3) := by decide +kernel
theorem dX11_addsLine_38 : decode cX11_addsLine 38 = .ok (.iload 4, 2) := by decide +kernel
theorem dX11_addsLine_40 : decode cX11_addsLine 40 = .ok (.iaload, 1) := by decide +kernel
theorem dX11_addsLine_41 : decode cX11_addsLine 41 = .ok (.iload_n 3, 1) := by decide +kernel
theorem dX11_addsLine_42 : decode cX11_addsLine 42 = .ok (.if_icmp .ne 4, 3) := by decide +kernel
theorem dX11_addsLine_45 : decode cX11_addsLine 45 = .ok (.return_, 1) := by decide +kernel
theorem dX11_addsLine_46 : decode cX11_addsLine 46 = .ok (.iinc 4 1, 3) := by decide +kernel
theorem dX11_addsLine_49 : decode cX11_addsLine 49 = .ok (.goto (-46), 3) := by decide +kernel
theorem dX11_addsLine_52 : decode cX11_addsLine 52 = .ok (.aload_n 0, 1) := by decide +kernel
theorem dX11_addsLine_53 : decode cX11_addsLine 53 = .ok (.getfield 288, 3) := by decide +kernel
theorem dX11_addsLine_56 : decode cX11_addsLine 56 = .ok (.istore 4, 2) := by decide +kernel
theorem dX11_addsLine_58 : decode cX11_addsLine 58 = .ok (.iload 4, 2) := by decide +kernel
theorem dX11_addsLine_60 : decode cX11_addsLine 60 = .ok (.ifCond .le 71, 3) := by decide +kernel
theorem dX11_addsLine_63 : decode cX11_addsLine 63 = .ok (.aload_n 0, 1) := by decide +kernel
theorem dX11_addsLine_64 : decode cX11_addsLine 64 = .ok (.iload_n 1, 1) := by decide +kernel
theorem dX11_addsLine_65 : decode cX11_addsLine 65 = .ok (.iload_n 2, 1) := by decide +kernel
theorem dX11_addsLine_66 : decode cX11_addsLine 66 = .ok (.iload_n 3, 1) := by decide +kernel
theorem dX11_addsLine_67 : decode cX11_addsLine 67 = .ok (.iload 4, 2) := by decide +kernel
theorem dX11_addsLine_69 : decode cX11_addsLine 69 = .ok (.iconst 1, 1) := by decide +kernel
theorem dX11_addsLine_70 : decode cX11_addsLine 70 = .ok (.isub, 1) := by decide +kernel
theorem dX11_addsLine_71 : decode cX11_addsLine 71 = .ok (.invokevirtual 291, 3) := by decide +kernel
theorem dX11_addsLine_74 : decode cX11_addsLine 74 = .ok (.ifCond .eq 57, 3) := by decide +kernel
theorem dX11_addsLine_77 : decode cX11_addsLine 77 = .ok (.aload_n 0, 1) := by decide +kernel
theorem dX11_addsLine_78 : decode cX11_addsLine 78 = .ok (.getfield 69, 3) := by decide +kernel
theorem dX11_addsLine_81 : decode cX11_addsLine 81 = .ok (.iload 4, 2) := by decide +kernel
theorem dX11_addsLine_83 : decode cX11_addsLine 83 = .ok (.aload_n 0, 1) := by decide +kernel
theorem dX11_addsLine_84 : decode cX11_addsLine 84 = .ok (.getfield 69, 3) := by decide +kernel
theorem dX11_addsLine_87 : decode cX11_addsLine 87 = .ok (.iload 4, 2) := by decide +kernel
theorem dX11_addsLine_89 : decode cX11_addsLine 89 = .ok (.iconst 1, 1) := by decide +kernel
theorem dX11_addsLine_90 : decode cX11_addsLine 90 = .ok (.isub, 1) := by decide +kernel
theorem dX11_addsLine_91 : decode cX11_addsLine 91 = .ok (.iaload, 1) := by decide +kernel
theorem dX11_addsLine_92 : decode cX11_addsLine 92 = .ok (.iastore, 1) := by decide +kernel
theorem dX11_addsLine_93 : decode cX11_addsLine 93 = .ok (.aload_n 0, 1) := by decide +kernel
theorem dX11_addsLine_94 : decode cX11_addsLine 94 = .ok (.getfield 72, 3) := by decide +kernel
theorem dX11_addsLine_97 : decode cX11_addsLine 97 = .ok (.iload 4, 2) := by decide +kernel
theorem dX11_addsLine_99 : decode cX11_addsLine 99 = .ok (.aload_n 0, 1) := by decide +kernel
theorem dX11_addsLine_100 : decode cX11_addsLine 100 = .ok (.getfield 72, 3) := by decide +kernel
theorem dX11_addsLine_103 : decode cX11_addsLine 103 = .ok (.iload 4, 2) := by decide +kernel
theorem dX11_addsLine_105 : decode cX11_addsLine 105 = .ok (.iconst 1, 1) := by decide +kernel
theorem dX11_addsLine_106 : decode cX11_addsLine 106 = .ok (.isub, 1) := by decide +kernel
theorem dX11_addsLine_107 : decode cX11_addsLine 107 = .ok (.iaload, 1) := by decide +kernel
theorem dX11_addsLine_108 : decode cX11_addsLine 108 = .ok (.iastore, 1) := by decide +kernel
theorem dX11_addsLine_109 : decode cX11_addsLine 109 = .ok (.aload_n 0, 1) := by decide +kernel
theorem dX11_addsLine_110 : decode cX11_addsLine 110 = .ok (.getfield 75, 3) := by decide +kernel
theorem dX11_addsLine_113 : decode cX11_addsLine 113 = .ok (.iload 4, 2) := by decide +kernel
theorem dX11_addsLine_115 : decode cX11_addsLine 115 = .ok (.aload_n 0, 1) := by decide +kernel
theorem dX11_addsLine_116 : decode cX11_addsLine 116 = .ok (.getfield 75, 3) := by decide +kernel
theorem dX11_addsLine_119 : decode cX11_addsLine 119 = .ok (.iload 4, 2) := by decide +kernel
theorem dX11_addsLine_121 : decode cX11_addsLine 121 = .ok (.iconst 1, 1) := by decide +kernel
theorem dX11_addsLine_122 : decode cX11_addsLine 122 = .ok (.isub, 1) := by decide +kernel
theorem dX11_addsLine_123 : decode cX11_addsLine 123 = .ok (.iaload, 1) := by decide +kernel
theorem dX11_addsLine_124 : decode cX11_addsLine 124 = .ok (.iastore, 1) := by decide +kernel
theorem dX11_addsLine_125 : decode cX11_addsLine 125 = .ok (.iinc 4 (-1), 3) := by decide +kernel
theorem dX11_addsLine_128 : decode cX11_addsLine 128 = .ok (.goto (-70), 3) := by decide +kernel
theorem dX11_addsLine_131 : decode cX11_addsLine 131 = .ok (.aload_n 0, 1) := by decide +kernel
theorem dX11_addsLine_132 : decode cX11_addsLine 132 = .ok (.getfield 69, 3) := by decide +kernel
theorem dX11_addsLine_135 : decode cX11_addsLine 135 = .ok (.iload 4, 2) := by decide +kernel
theorem dX11_addsLine_137 : decode cX11_addsLine 137 = .ok (.iload_n 1, 1) := by decide +kernel
theorem dX11_addsLine_138 : decode cX11_addsLine 138 = .ok (.iastore, 1) := by decide +kernel
theorem dX11_addsLine_139 : decode cX11_addsLine 139 = .ok (.aload_n 0, 1) := by decide +kernel
theorem dX11_addsLine_140 : decode cX11_addsLine 140 = .ok (.getfield 72, 3) := by decide +kernel
theorem dX11_addsLine_143 : decode cX11_addsLine 143 = .ok (.iload 4, 2) := by decide +kernel
theorem dX11_addsLine_145 : decode cX11_addsLine 145 = .ok (.iload_n 2, 1) := by decide +kernel
theorem dX11_addsLine_146 : decode cX11_addsLine 146 = .ok (.iastore, 1) := by decide +kernel
theorem dX11_addsLine_147 : decode cX11_addsLine 147 = .ok (.aload_n 0, 1) := by decide +kernel
theorem dX11_addsLine_148 : decode cX11_addsLine 148 = .ok (.getfield 75, 3) := by decide +kernel
theorem dX11_addsLine_151 : decode cX11_addsLine 151 = .ok (.iload 4, 2) := by decide +kernel
theorem dX11_addsLine_153 : decode cX11_addsLine 153 = .ok (.iload_n 3, 1) := by decide +kernel
theorem dX11_addsLine_154 : decode cX11_addsLine 154 = .ok (.iastore, 1) := by decide +kernel
theorem dX11_addsLine_155 : decode cX11_addsLine 155 = .ok (.aload_n 0, 1) := by decide +kernel
theorem dX11_addsLine_156 : decode cX11_addsLine 156 = .ok (.dup, 1) := by decide +kernel
theorem dX11_addsLine_157 : decode cX11_addsLine 157 = .ok (.getfield 288, 3) := by decide +kernel
theorem dX11_addsLine_160 : decode cX11_addsLine 160 = .ok (.iconst 1, 1) := by decide +kernel
theorem dX11_addsLine_161 : decode cX11_addsLine 161 = .ok (.iadd, 1) := by decide +kernel
theorem dX11_addsLine_162 : decode cX11_addsLine 162 = .ok (.putfield 288, 3) := by decide +kernel
theorem dX11_addsLine_165 : decode cX11_addsLine 165 = .ok (.return_, 1) := by decide +kernel
theorem dX11_through_0 : decode cX11_through 0 = .ok (.aload_n 0, 1) := by decide +kernel
theorem dX11_through_1 : decode cX11_through 1 = .ok (.getfield 18, 3) := by decide +kernel
theorem dX11_through_4 : decode cX11_through 4 = .ok (.iconst 0, 1) := by decide +kernel
theorem dX11_through_5 : decode cX11_through 5 = .ok (.aaload, 1) := by decide +kernel
theorem dX11_through_6 : decode cX11_through 6 = .ok (.iload_n 2, 1) := by decide +kernel
theorem dX11_through_7 : decode cX11_through 7 = .ok (.iaload, 1) := by decide +kernel
theorem dX11_through_8 : decode cX11_through 8 = .ok (.aload_n 0, 1) := by decide +kernel
theorem dX11_through_9 : decode cX11_through 9 = .ok (.getfield 18, 3) := by decide +kernel
theorem dX11_through_12 : decode cX11_through 12 = .ok (.iconst 0, 1) := by decide +kernel
theorem dX11_through_13 : decode cX11_through 13 = .ok (.aaload, 1) := by decide +kernel
theorem dX11_through_14 : decode cX11_through 14 = .ok (.iload_n 1, 1) := by decide +kernel
theorem dX11_through_15 : decode cX11_through 15 = .ok (.iaload, 1) := by decide +kernel
theorem dX11_through_16 : decode cX11_through 16 = .ok (.isub, 1) := by decide +kernel
theorem dX11_through_17 : decode cX11_through 17 = .ok (.istore_n 3, 1) := by decide +kernel
theorem dX11_through_18 : decode cX11_through 18 = .ok (.aload_n 0, 1) := by decide +kernel
theorem dX11_through_19 : decode cX11_through 19 = .ok (.getfield 15, 3) := by decide +kernel
theorem dX11_through_22 : decode cX11_through 22 = .ok (.iconst 0, 1) := by decide +kernel
theorem dX11_through_23 : decode cX11_through 23 = .ok (.aaload, 1) := by decide +kernel
theorem dX11_through_24 : decode cX11_through 24 = .ok (.iload_n 1, 1) := by decide +kernel
theorem dX11_through_25 : decode cX11_through 25 = .ok (.iaload, 1) := by decide +kernel
theorem dX11_through_26 : decode cX11_through 26 = .ok (.aload_n 0, 1) := by decide +kernel
theorem dX11_through_27 : decode cX11_through 27 = .ok (.getfield 15, 3) := by decide +kernel
theorem dX11_through_30 : decode cX11_through 30 = .ok (.iconst 0, 1) := by decide +kernel
theorem dX11_through_31 : decode cX11_through 31 = .ok (.aaload, 1) := by decide +kernel
theorem dX11_through_32 : decode cX11_through 32 = .ok (.iload_n 2, 1) := by decide +kernel
theorem dX11_through_33 : decode cX11_through 33 = .ok (.iaload, 1) := by decide +kernel
theorem dX11_through_34 : decode cX11_through 34 = .ok (.isub, 1) := by decide +kernel
theorem dX11_through_35 : decode cX11_through 35 = .ok (.istore 4, 2) := by decide +kernel
theorem dX11_through_37 : decode cX11_through 37 = .ok (.iload_n 3, 1) := by decide +kernel
theorem dX11_through_38 : decode cX11_through 38 = .ok (.ifCond .ne 9, 3) := by decide +kernel
theorem dX11_through_41 : decode cX11_through 41 = .ok (.iload 4, 2) := by decide +kernel
theorem dX11_through_43 : decode cX11_through 43 = .ok (.ifCond .ne 4, 3) := by decide +kernel
theorem dX11_through_46 : decode cX11_through 46 = .ok (.return_, 1) := by decide +kernel
theorem dX11_through_47 : decode cX11_through 47 = .ok (.iload_n 3, 1) := by decide +kernel
theorem dX11_through_48 : decode cX11_through 48 = .ok (.i2l, 1) := by decide +kernel
theorem dX11_through_49 : decode cX11_through 49 = .ok (.iload 4, 2) := by decide +kernel
theorem dX11_through_51 : decode cX11_through 51 = .ok (.i2l, 1) := by decide +kernel
theorem dX11_through_52 : decode cX11_through 52 = .ok (.invokestatic 294, 3) := by decide +kernel
theorem dX11_through_55 : decode cX11_through 55 = .ok (.l2i, 1) := by decide +kernel
theorem dX11_through_56 : decode cX11_through 56 = .ok (.istore 5, 2) := by decide +kernel
theorem dX11_through_58 : decode cX11_through 58 = .ok (.iload_n 3, 1) := by decide +kernel
theorem dX11_through_59 : decode cX11_through 59 = .ok (.ifCond .lt 12, 3) := by decide +kernel
theorem dX11_through_62 : decode cX11_through 62 = .ok (.iload_n 3, 1) := by decide +kernel
theorem dX11_through_63 : decode cX11_through 63 = .ok (.ifCond .ne 13, 3) := by decide +kernel
theorem dX11_through_66 : decode cX11_through 66 = .ok (.iload 4, 2) := by decide +kernel
theorem dX11_through_68 : decode cX11_through 68 = .ok (.ifCond .ge 8, 3) := by decide +kernel
theorem dX11_through_71 : decode cX11_through 71 = .ok (.iload 5, 2) := by decide +kernel
theorem dX11_through_73 : decode cX11_through 73 = .ok (.ineg, 1) := by decide +kernel
theorem dX11_through_74 : decode cX11_through 74 = .ok (.istore 5, 2) := by decide +kernel
theorem dX11_through_76 : decode cX11_through 76 = .ok (.iload_n 3, 1) := by decide +kernel
theorem dX11_through_77 : decode cX11_through 77 = .ok (.iload 5, 2) := by decide +kernel
theorem dX11_through_79 : decode cX11_through 79 = .ok (.idiv, 1) := by decide +kernel
theorem dX11_through_80 : decode cX11_through 80 = .ok (.istore_n 3, 1) := by decide +kernel
theorem dX11_through_81 : decode cX11_through 81 = .ok (.iload 4, 2) := by decide +kernel
theorem dX11_through_83 : decode cX11_through 83 = .ok (.iload 5, 2) := by decide +kernel
theorem dX11_through_85 : decode cX11_through 85 = .ok (.idiv, 1) := by decide +kernel
theorem dX11_through_86 : decode cX11_through 86 = .ok (.istore 4, 2) := by decide +kernel
theorem dX11_through_88 : decode cX11_through 88 = .ok (.iload_n 3, 1) := by decide +kernel
theorem dX11_through_89 : decode cX11_through 89 = .ok (.aload_n 0, 1) := by decide +kernel
theorem dX11_through_90 : decode cX11_through 90 = .ok (.getfield 15, 3) := by decide +kernel
theorem dX11_through_93 : decode cX11_through 93 = .ok (.iconst 0, 1) := by decide +kernel
theorem dX11_through_94 : decode cX11_through 94 = .ok (.aaload, 1) := by decide +kernel
theorem dX11_through_95 : decode cX11_through 95 = .ok (.iload_n 1, 1) := by decide +kernel
theorem dX11_through_96 : decode cX11_through 96 = .ok (.iaload, 1) := by decide +kernel
theorem dX11_through_97 : decode cX11_through 97 = .ok (.imul, 1) := by decide +kernel
theorem dX11_through_98 : decode cX11_through 98 = .ok (.iload 4, 2) := by decide +kernel
theorem dX11_through_100 : decode cX11_through 100 = .ok (.aload_n 0, 1) := by decide +kernel
theorem dX11_through_101 : decode cX11_through 101 = .ok (.getfield 18, 3) := by decide +kernel
theorem dX11_through_104 : decode cX11_through 104 = .ok (.iconst 0, 1) := by decide +kernel
theorem dX11_through_105 : decode cX11_through 105 = .ok (.aaload, 1) := by decide +kernel
theorem dX11_through_106 : decode cX11_through 106 = .ok (.iload_n 1, 1) := by decide +kernel
theorem dX11_through_107 : decode cX11_through 107 = .ok (.iaload, 1) := by decide +kernel
theorem dX11_through_108 : decode cX11_through 108 = .ok (.imul, 1) := by decide +kernel
theorem dX11_through_109 : decode cX11_through 109 = .ok (.iadd, 1) := by decide +kernel
theorem dX11_through_110 : decode cX11_through 110 = .ok (.istore 6, 2) := by decide +kernel
theorem dX11_through_112 : decode cX11_through 112 = .ok (.aload_n 0, 1) := by decide +kernel
theorem dX11_through_113 : decode cX11_through 113 = .ok (.iload_n 3, 1) := by decide +kernel
theorem dX11_through_114 : decode cX11_through 114 = .ok (.iload 4, 2) := by decide +kernel
theorem dX11_through_116 : decode cX11_through 116 = .ok (.iload 6, 2) := by decide +kernel
theorem dX11_through_118 : decode cX11_through 118 = .ok (.invokevirtual 298, 3) := by decide +kernel
theorem dX11_through_121 : decode cX11_through 121 = .ok (.ifCond .eq 12, 3) := by decide +kernel
theorem dX11_through_124 : decode cX11_through 124 = .ok (.aload_n 0, 1) := by decide +kernel
theorem dX11_through_125 : decode cX11_through 125 = .ok (.iload_n 3, 1) := by decide +kernel
theorem dX11_through_126 : decode cX11_through 126 = .ok (.iload 4, 2) := by decide +kernel
theorem dX11_through_128 : decode cX11_through 128 = .ok (.iload 6, 2) := by decide +kernel
theorem dX11_through_130 : decode cX11_through 130 = .ok (.invokevirtual 302, 3) := by decide +kernel
theorem dX11_through_133 : decode cX11_through 133 = .ok (.return_, 1) := by decide +kernel
theorem dX11_knows_0 : decode cX11_knows 0 = .ok (.aload_n 0, 1) := by decide +kernel
theorem dX11_knows_1 : decode cX11_knows 1 = .ok (.getfield 234, 3) := by decide +kernel
theorem dX11_knows_4 : decode cX11_knows 4 = .ok (.ifCond .eq 4, 3) := by decide +kernel
theorem dX11_knows_7 : decode cX11_knows 7 = .ok (.return_, 1) := by decide +kernel
theorem dX11_knows_8 : decode cX11_knows 8 = .ok (.aload_n 0, 1) := by decide +kernel
theorem dX11_knows_9 : decode cX11_knows 9 = .ok (.iconst 1, 1) := by decide +kernel
theorem dX11_knows_10 : decode cX11_knows 10 = .ok (.putfield 234, 3) := by decide +kernel
theorem dX11_knows_13 : decode cX11_knows 13 = .ok (.aload_n 0, 1) := by decide +kernel
theorem dX11_knows_14 : decode cX11_knows 14 = .ok (.iconst 0, 1) := by decide +kernel
theorem dX11_knows_15 : decode cX11_knows 15 = .ok (.putfield 288, 3) := by decide +kernel
theorem dX11_knows_18 : decode cX11_knows 18 = .ok (.iconst 0, 1) := by decide +kernel
theorem dX11_knows_19 : decode cX11_knows 19 = .ok (.istore_n 1, 1) := by decide +kernel
theorem dX11_knows_20 : decode cX11_knows 20 = .ok (.iload_n 1, 1) := by decide +kernel
theorem dX11_knows_21 : decode cX11_knows 21 = .ok (.aload_n 0, 1) := by decide +kernel
theorem dX11_knows_22 : decode cX11_knows 22 = .ok (.invokevirtual 237, 3) := by decide +kernel
theorem dX11_knows_25 : decode cX11_knows 25 = .ok (.if_icmp .ge 28, 3) := by decide +kernel
theorem dX11_knows_28 : decode cX11_knows 28 = .ok (.iconst 0, 1) := by decide +kernel
theorem dX11_knows_29 : decode cX11_knows 29 = .ok (.istore_n 2, 1) := by decide +kernel
theorem dX11_knows_30 : decode cX11_knows 30 = .ok (.iload_n 2, 1) := by decide +kernel
theorem dX11_knows_31 : decode cX11_knows 31 = .ok (.iload_n 1, 1) := by decide +kernel
theorem dX11_knows_32 : decode cX11_knows 32 = .ok (.if_icmp .ge 15, 3) := by decide +kernel
theorem dX11_knows_35 : decode cX11_knows 35 = .ok (.aload_n 0, 1) := by decide +kernel
theorem dX11_knows_36 : decode cX11_knows 36 = .ok (.iload_n 1, 1) := by decide +kernel
theorem dX11_knows_37 : decode cX11_knows 37 = .ok (.iload_n 2, 1) := by decide +kernel
theorem dX11_knows_38 : decode cX11_knows 38 = .ok (.invokevirtual 306, 3) := by decide +kernel
theorem dX11_knows_41 : decode cX11_knows 41 = .ok (.iinc 2 1, 3) := by decide +kernel
theorem dX11_knows_44 : decode cX11_knows 44 = .ok (.goto (-14), 3) := by decide +kernel
theorem dX11_knows_47 : decode cX11_knows 47 = .ok (.iinc 1 1, 3) := by decide +kernel
theorem dX11_knows_50 : decode cX11_knows 50 = .ok (.goto (-30), 3) := by decide +kernel
theorem dX11_knows_53 : decode cX11_knows 53 = .ok (.aload_n 0, 1) := by decide +kernel
theorem dX11_knows_54 : decode cX11_knows 54 = .ok (.invokevirtual 310, 3) := by decide +kernel
theorem dX11_knows_57 : decode cX11_knows 57 = .ok (.return_, 1) := by decide +kernel
theorem dX11_line_0 : decode cX11_line 0 = .ok (.aload_n 0, 1) := by decide +kernel
theorem dX11_line_1 : decode cX11_line 1 = .ok (.invokevirtual 313, 3) := by decide +kernel
theorem dX11_line_4 : decode cX11_line 4 = .ok (.iload_n 1, 1) := by decide +kernel
theorem dX11_line_5 : decode cX11_line 5 = .ok (.iconst (-1), 1) := by decide +kernel
theorem dX11_line_6 : decode cX11_line 6 = .ok (.if_icmp .ne 8, 3) := by decide +kernel
theorem dX11_line_9 : decode cX11_line 9 = .ok (.aload_n 0, 1) := by decide +kernel
theorem dX11_line_10 : decode cX11_line 10 = .ok (.getfield 288, 3) := by decide +kernel
theorem dX11_line_13 : decode cX11_line 13 = .ok (.ireturn, 1) := by decide +kernel
theorem dX11_line_14 : decode cX11_line 14 = .ok (.iload_n 1, 1) := by decide +kernel
theorem dX11_line_15 : decode cX11_line 15 = .ok (.i2l, 1) := by decide +kernel
theorem dX11_line_16 : decode cX11_line 16 = .ok (.lconst 0, 1) := by decide +kernel
theorem dX11_line_17 : decode cX11_line 17 = .ok (.aload_n 0, 1) := by decide +kernel
theorem dX11_line_18 : decode cX11_line 18 = .ok (.getfield 288, 3) := by decide +kernel
theorem dX11_line_21 : decode cX11_line 21 = .ok (.iconst 1, 1) := by decide +kernel
theorem dX11_line_22 : decode cX11_line 22 = .ok (.isub, 1) := by decide +kernel
theorem dX11_line_23 : decode cX11_line 23 = .ok (.i2l, 1) := by decide +kernel
theorem dX11_line_24 : decode cX11_line 24 = .ok (.invokestatic 122, 3) := by decide +kernel
theorem dX11_line_27 : decode cX11_line 27 = .ok (.ifCond .ne 7, 3) := by decide +kernel
theorem dX11_line_30 : decode cX11_line 30 = .ok (.ldc_w 316, 3) := by decide +kernel
theorem dX11_line_33 : decode cX11_line 33 = .ok (.ireturn, 1) := by decide +kernel
theorem dX11_line_34 : decode cX11_line 34 = .ok (.iload_n 2, 1) := by decide +kernel
theorem dX11_line_35 : decode cX11_line 35 = .ok (.tableswitch 46 0 2 #[25, 32, 39], 25) := by decide +kernel
theorem dX11_line_60 : decode cX11_line 60 = .ok (.aload_n 0, 1) := by decide +kernel
theorem dX11_line_61 : decode cX11_line 61 = .ok (.getfield 69, 3) := by decide +kernel
theorem dX11_line_64 : decode cX11_line 64 = .ok (.iload_n 1, 1) := by decide +kernel
theorem dX11_line_65 : decode cX11_line 65 = .ok (.iaload, 1) := by decide +kernel
theorem dX11_line_66 : decode cX11_line 66 = .ok (.ireturn, 1) := by decide +kernel
theorem dX11_line_67 : decode cX11_line 67 = .ok (.aload_n 0, 1) := by decide +kernel
theorem dX11_line_68 : decode cX11_line 68 = .ok (.getfield 72, 3) := by decide +kernel
theorem dX11_line_71 : decode cX11_line 71 = .ok (.iload_n 1, 1) := by decide +kernel
theorem dX11_line_72 : decode cX11_line 72 = .ok (.iaload, 1) := by decide +kernel
theorem dX11_line_73 : decode cX11_line 73 = .ok (.ireturn, 1) := by decide +kernel
theorem dX11_line_74 : decode cX11_line 74 = .ok (.aload_n 0, 1) := by decide +kernel
theorem dX11_line_75 : decode cX11_line 75 = .ok (.getfield 75, 3) := by decide +kernel
theorem dX11_line_78 : decode cX11_line 78 = .ok (.iload_n 1, 1) := by decide +kernel
theorem dX11_line_79 : decode cX11_line 79 = .ok (.iaload, 1) := by decide +kernel
theorem dX11_line_80 : decode cX11_line 80 = .ok (.ireturn, 1) := by decide +kernel
theorem dX11_line_81 : decode cX11_line 81 = .ok (.ldc_w 316, 3) := by decide +kernel
theorem dX11_line_84 : decode cX11_line 84 = .ok (.ireturn, 1) := by decide +kernel
theorem dX11_isMiddle_0 : decode cX11_isMiddle 0 = .ok (.aload_n 0, 1) := by decide +kernel
theorem dX11_isMiddle_1 : decode cX11_isMiddle 1 = .ok (.invokevirtual 266, 3) := by decide +kernel
theorem dX11_isMiddle_4 : decode cX11_isMiddle 4 = .ok (.istore 7, 2) := by decide +kernel
theorem dX11_isMiddle_6 : decode cX11_isMiddle 6 = .ok (.iconst 0, 1) := by decide +kernel
theorem dX11_isMiddle_7 : decode cX11_isMiddle 7 = .ok (.istore 8, 2) := by decide +kernel
theorem dX11_isMiddle_9 : decode cX11_isMiddle 9 = .ok (.iload 8, 2) := by decide +kernel
theorem dX11_isMiddle_11 : decode cX11_isMiddle 11 = .ok (.aload_n 0, 1) := by decide +kernel
theorem dX11_isMiddle_12 : decode cX11_isMiddle 12 = .ok (.invokevirtual 237, 3) := by decide +kernel
theorem dX11_isMiddle_15 : decode cX11_isMiddle 15 = .ok (.if_icmp .ge 250, 3) := by decide +kernel
theorem dX11_isMiddle_18 : decode cX11_isMiddle 18 = .ok (.lload 5, 2) := by decide +kernel
theorem dX11_isMiddle_20 : decode cX11_isMiddle 20 = .ok (.aload_n 0, 1) := by decide +kernel
theorem dX11_isMiddle_21 : decode cX11_isMiddle 21 = .ok (.getfield 15, 3) := by decide +kernel
theorem dX11_isMiddle_24 : decode cX11_isMiddle 24 = .ok (.iconst 0, 1) := by decide +kernel
theorem dX11_isMiddle_25 : decode cX11_isMiddle 25 = .ok (.aaload, 1) := by decide +kernel
theorem dX11_isMiddle_26 : decode cX11_isMiddle 26 = .ok (.iload 8, 2) := by decide +kernel
theorem dX11_isMiddle_28 : decode cX11_isMiddle 28 = .ok (.iaload, 1) := by decide +kernel
theorem dX11_isMiddle_29 : decode cX11_isMiddle 29 = .ok (.i2l, 1) := by decide +kernel
theorem dX11_isMiddle_30 : decode cX11_isMiddle 30 = .ok (.lmul, 1) := by decide +kernel
theorem dX11_isMiddle_31 : decode cX11_isMiddle 31 = .ok (.lload_n 1, 1) := by decide +kernel
theorem dX11_isMiddle_32 : decode cX11_isMiddle 32 = .ok (.lsub, 1) := by decide +kernel
theorem dX11_isMiddle_33 : decode cX11_isMiddle 33 = .ok (.lstore 9, 2) := by decide +kernel
theorem dX11_isMiddle_35 : decode cX11_isMiddle 35 = .ok (.lload 5, 2) := by decide +kernel
theorem dX11_isMiddle_37 : decode cX11_isMiddle 37 = .ok (.aload_n 0, 1) := by decide +kernel
theorem dX11_isMiddle_38 : decode cX11_isMiddle 38 = .ok (.getfield 18, 3) := by decide +kernel
theorem dX11_isMiddle_41 : decode cX11_isMiddle 41 = .ok (.iconst 0, 1) := by decide +kernel
theorem dX11_isMiddle_42 : decode cX11_isMiddle 42 = .ok (.aaload, 1) := by decide +kernel
theorem dX11_isMiddle_43 : decode cX11_isMiddle 43 = .ok (.iload 8, 2) := by decide +kernel
theorem dX11_isMiddle_45 : decode cX11_isMiddle 45 = .ok (.iaload, 1) := by decide +kernel
theorem dX11_isMiddle_46 : decode cX11_isMiddle 46 = .ok (.i2l, 1) := by decide +kernel
theorem dX11_isMiddle_47 : decode cX11_isMiddle 47 = .ok (.lmul, 1) := by decide +kernel
theorem dX11_isMiddle_48 : decode cX11_isMiddle 48 = .ok (.lload_n 3, 1) := by decide +kernel
theorem dX11_isMiddle_49 : decode cX11_isMiddle 49 = .ok (.lsub, 1) := by decide +kernel
theorem dX11_isMiddle_50 : decode cX11_isMiddle 50 = .ok (.lstore 11, 2) := by decide +kernel
theorem dX11_isMiddle_52 : decode cX11_isMiddle 52 = .ok (.lload 9, 2) := by decide +kernel
theorem dX11_isMiddle_54 : decode cX11_isMiddle 54 = .ok (.lconst 0, 1) := by decide +kernel
theorem dX11_isMiddle_55 : decode cX11_isMiddle 55 = .ok (.lcmp, 1) := by decide +kernel
theorem dX11_isMiddle_56 : decode cX11_isMiddle 56 = .ok (.ifCond .ne 13, 3) := by decide +kernel
theorem dX11_isMiddle_59 : decode cX11_isMiddle 59 = .ok (.lload 11, 2) := by decide +kernel
theorem dX11_isMiddle_61 : decode cX11_isMiddle 61 = .ok (.lconst 0, 1) := by decide +kernel
theorem dX11_isMiddle_62 : decode cX11_isMiddle 62 = .ok (.lcmp, 1) := by decide +kernel
theorem dX11_isMiddle_63 : decode cX11_isMiddle 63 = .ok (.ifCond .ne 6, 3) := by decide +kernel
theorem dX11_isMiddle_66 : decode cX11_isMiddle 66 = .ok (.goto 193, 3) := by decide +kernel
theorem dX11_isMiddle_69 : decode cX11_isMiddle 69 = .ok (.iconst 0, 1) := by decide +kernel
theorem dX11_isMiddle_70 : decode cX11_isMiddle 70 = .ok (.istore 13, 2) := by decide +kernel
theorem dX11_isMiddle_72 : decode cX11_isMiddle 72 = .ok (.iconst 0, 1) := by decide +kernel
theorem dX11_isMiddle_73 : decode cX11_isMiddle 73 = .ok (.istore 14, 2) := by decide +kernel
theorem dX11_isMiddle_75 : decode cX11_isMiddle 75 = .ok (.iconst 0, 1) := by decide +kernel
theorem dX11_isMiddle_76 : decode cX11_isMiddle 76 = .ok (.istore 15, 2) := by decide +kernel
theorem dX11_isMiddle_78 : decode cX11_isMiddle 78 = .ok (.iconst 0, 1) := by decide +kernel
theorem dX11_isMiddle_79 : decode cX11_isMiddle 79 = .ok (.istore 16, 2) := by decide +kernel
theorem dX11_isMiddle_81 : decode cX11_isMiddle 81 = .ok (.iconst 0, 1) := by decide +kernel
theorem dX11_isMiddle_82 : decode cX11_isMiddle 82 = .ok (.istore 17, 2) := by decide +kernel
theorem dX11_isMiddle_84 : decode cX11_isMiddle 84 = .ok (.iload 17, 2) := by decide +kernel
theorem dX11_isMiddle_86 : decode cX11_isMiddle 86 = .ok (.aload_n 0, 1) := by decide +kernel
theorem dX11_isMiddle_87 : decode cX11_isMiddle 87 = .ok (.invokevirtual 237, 3) := by decide +kernel
theorem dX11_isMiddle_90 : decode cX11_isMiddle 90 = .ok (.if_icmp .ge 145, 3) := by decide +kernel
theorem dX11_isMiddle_93 : decode cX11_isMiddle 93 = .ok (.lload 5, 2) := by decide +kernel
theorem dX11_isMiddle_95 : decode cX11_isMiddle 95 = .ok (.aload_n 0, 1) := by decide +kernel
theorem dX11_isMiddle_96 : decode cX11_isMiddle 96 = .ok (.getfield 15, 3) := by decide +kernel
theorem dX11_isMiddle_99 : decode cX11_isMiddle 99 = .ok (.iconst 0, 1) := by decide +kernel
theorem dX11_isMiddle_100 : decode cX11_isMiddle 100 = .ok (.aaload, 1) := by decide +kernel
theorem dX11_isMiddle_101 : decode cX11_isMiddle 101 = .ok (.iload 17, 2) := by decide +kernel
theorem dX11_isMiddle_103 : decode cX11_isMiddle 103 = .ok (.iaload, 1) := by decide +kernel
theorem dX11_isMiddle_104 : decode cX11_isMiddle 104 = .ok (.i2l, 1) := by decide +kernel
theorem dX11_isMiddle_105 : decode cX11_isMiddle 105 = .ok (.lmul, 1) := by decide +kernel
theorem dX11_isMiddle_106 : decode cX11_isMiddle 106 = .ok (.lload_n 1, 1) := by decide +kernel
theorem dX11_isMiddle_107 : decode cX11_isMiddle 107 = .ok (.lsub, 1) := by decide +kernel
theorem dX11_isMiddle_108 : decode cX11_isMiddle 108 = .ok (.lstore 18, 2) := by decide +kernel
theorem dX11_isMiddle_110 : decode cX11_isMiddle 110 = .ok (.lload 5, 2) := by decide +kernel
theorem dX11_isMiddle_112 : decode cX11_isMiddle 112 = .ok (.aload_n 0, 1) := by decide +kernel
theorem dX11_isMiddle_113 : decode cX11_isMiddle 113 = .ok (.getfield 18, 3) := by decide +kernel
theorem dX11_isMiddle_116 : decode cX11_isMiddle 116 = .ok (.iconst 0, 1) := by decide +kernel
theorem dX11_isMiddle_117 : decode cX11_isMiddle 117 = .ok (.aaload, 1) := by decide +kernel
theorem dX11_isMiddle_118 : decode cX11_isMiddle 118 = .ok (.iload 17, 2) := by decide +kernel
theorem dX11_isMiddle_120 : decode cX11_isMiddle 120 = .ok (.iaload, 1) := by decide +kernel
theorem dX11_isMiddle_121 : decode cX11_isMiddle 121 = .ok (.i2l, 1) := by decide +kernel
theorem dX11_isMiddle_122 : decode cX11_isMiddle 122 = .ok (.lmul, 1) := by decide +kernel
theorem dX11_isMiddle_123 : decode cX11_isMiddle 123 = .ok (.lload_n 3, 1) := by decide +kernel
theorem dX11_isMiddle_124 : decode cX11_isMiddle 124 = .ok (.lsub, 1) := by decide +kernel
theorem dX11_isMiddle_125 : decode cX11_isMiddle 125 = .ok (.lstore 20, 2) := by decide +kernel
theorem dX11_isMiddle_127 : decode cX11_isMiddle 127 = .ok (.lload 9, 2) := by decide +kernel
theorem dX11_isMiddle_129 : decode cX11_isMiddle 129 = .ok (.lload 20, 2) := by decide +kernel
theorem dX11_isMiddle_131 : decode cX11_isMiddle 131 = .ok (.lmul, 1) := by decide +kernel
theorem dX11_isMiddle_132 : decode cX11_isMiddle 132 = .ok (.lload 11, 2) := by decide +kernel
theorem dX11_isMiddle_134 : decode cX11_isMiddle 134 = .ok (.lload 18, 2) := by decide +kernel
theorem dX11_isMiddle_136 : decode cX11_isMiddle 136 = .ok (.lmul, 1) := by decide +kernel
theorem dX11_isMiddle_137 : decode cX11_isMiddle 137 = .ok (.lsub, 1) := by decide +kernel
theorem dX11_isMiddle_138 : decode cX11_isMiddle 138 = .ok (.lstore 22, 2) := by decide +kernel
theorem dX11_isMiddle_140 : decode cX11_isMiddle 140 = .ok (.lload 9, 2) := by decide +kernel
theorem dX11_isMiddle_142 : decode cX11_isMiddle 142 = .ok (.lload 18, 2) := by decide +kernel
theorem dX11_isMiddle_144 : decode cX11_isMiddle 144 = .ok (.lmul, 1) := by decide +kernel
theorem dX11_isMiddle_145 : decode cX11_isMiddle 145 = .ok (.lload 11, 2) := by decide +kernel
theorem dX11_isMiddle_147 : decode cX11_isMiddle 147 = .ok (.lload 20, 2) := by decide +kernel
theorem dX11_isMiddle_149 : decode cX11_isMiddle 149 = .ok (.lmul, 1) := by decide +kernel
theorem dX11_isMiddle_150 : decode cX11_isMiddle 150 = .ok (.ladd, 1) := by decide +kernel
theorem dX11_isMiddle_151 : decode cX11_isMiddle 151 = .ok (.lstore 24, 2) := by decide +kernel
theorem dX11_isMiddle_153 : decode cX11_isMiddle 153 = .ok (.aload_n 0, 1) := by decide +kernel
theorem dX11_isMiddle_154 : decode cX11_isMiddle 154 = .ok (.getfield 21, 3) := by decide +kernel
theorem dX11_isMiddle_157 : decode cX11_isMiddle 157 = .ok (.iconst 0, 1) := by decide +kernel
theorem dX11_isMiddle_158 : decode cX11_isMiddle 158 = .ok (.aaload, 1) := by decide +kernel
theorem dX11_isMiddle_159 : decode cX11_isMiddle 159 = .ok (.iload 17, 2) := by decide +kernel
theorem dX11_isMiddle_161 : decode cX11_isMiddle 161 = .ok (.iaload, 1) := by decide +kernel
theorem dX11_isMiddle_162 : decode cX11_isMiddle 162 = .ok (.istore 26, 2) := by decide +kernel
theorem dX11_isMiddle_164 : decode cX11_isMiddle 164 = .ok (.lload 22, 2) := by decide +kernel
theorem dX11_isMiddle_166 : decode cX11_isMiddle 166 = .ok (.lconst 0, 1) := by decide +kernel
theorem dX11_isMiddle_167 : decode cX11_isMiddle 167 = .ok (.lcmp, 1) := by decide +kernel
theorem dX11_isMiddle_168 : decode cX11_isMiddle 168 = .ok (.ifCond .le 13, 3) := by decide +kernel
theorem dX11_isMiddle_171 : decode cX11_isMiddle 171 = .ok (.iload 13, 2) := by decide +kernel
theorem dX11_isMiddle_173 : decode cX11_isMiddle 173 = .ok (.iload 26, 2) := by decide +kernel
theorem dX11_isMiddle_175 : decode cX11_isMiddle 175 = .ok (.iadd, 1) := by decide +kernel
theorem dX11_isMiddle_176 : decode cX11_isMiddle 176 = .ok (.istore 13, 2) := by decide +kernel
theorem dX11_isMiddle_178 : decode cX11_isMiddle 178 = .ok (.goto 51, 3) := by decide +kernel
theorem dX11_isMiddle_181 : decode cX11_isMiddle 181 = .ok (.lload 22, 2) := by decide +kernel
theorem dX11_isMiddle_183 : decode cX11_isMiddle 183 = .ok (.lconst 0, 1) := by decide +kernel
theorem dX11_isMiddle_184 : decode cX11_isMiddle 184 = .ok (.lcmp, 1) := by decide +kernel
theorem dX11_isMiddle_185 : decode cX11_isMiddle 185 = .ok (.ifCond .ge 13, 3) := by decide +kernel
theorem dX11_isMiddle_188 : decode cX11_isMiddle 188 = .ok (.iload 14, 2) := by decide +kernel
theorem dX11_isMiddle_190 : decode cX11_isMiddle 190 = .ok (.iload 26, 2) := by decide +kernel
theorem dX11_isMiddle_192 : decode cX11_isMiddle 192 = .ok (.iadd, 1) := by decide +kernel
theorem dX11_isMiddle_193 : decode cX11_isMiddle 193 = .ok (.istore 14, 2) := by decide +kernel
theorem dX11_isMiddle_195 : decode cX11_isMiddle 195 = .ok (.goto 34, 3) := by decide +kernel
theorem dX11_isMiddle_198 : decode cX11_isMiddle 198 = .ok (.lload 24, 2) := by decide +kernel
theorem dX11_isMiddle_200 : decode cX11_isMiddle 200 = .ok (.lconst 0, 1) := by decide +kernel
theorem dX11_isMiddle_201 : decode cX11_isMiddle 201 = .ok (.lcmp, 1) := by decide +kernel
theorem dX11_isMiddle_202 : decode cX11_isMiddle 202 = .ok (.ifCond .le 13, 3) := by decide +kernel
theorem dX11_isMiddle_205 : decode cX11_isMiddle 205 = .ok (.iload 15, 2) := by decide +kernel
theorem dX11_isMiddle_207 : decode cX11_isMiddle 207 = .ok (.iload 26, 2) := by decide +kernel
theorem dX11_isMiddle_209 : decode cX11_isMiddle 209 = .ok (.iadd, 1) := by decide +kernel
theorem dX11_isMiddle_210 : decode cX11_isMiddle 210 = .ok (.istore 15, 2) := by decide +kernel
theorem dX11_isMiddle_212 : decode cX11_isMiddle 212 = .ok (.goto 17, 3) := by decide +kernel
theorem dX11_isMiddle_215 : decode cX11_isMiddle 215 = .ok (.lload 24, 2) := by decide +kernel
theorem dX11_isMiddle_217 : decode cX11_isMiddle 217 = .ok (.lconst 0, 1) := by decide +kernel
theorem dX11_isMiddle_218 : decode cX11_isMiddle 218 = .ok (.lcmp, 1) := by decide +kernel
theorem dX11_isMiddle_219 : decode cX11_isMiddle 219 = .ok (.ifCond .ge 10, 3) := by decide +kernel
theorem dX11_isMiddle_222 : decode cX11_isMiddle 222 = .ok (.iload 16, 2) := by decide +kernel
theorem dX11_isMiddle_224 : decode cX11_isMiddle 224 = .ok (.iload 26, 2) := by decide +kernel
theorem dX11_isMiddle_226 : decode cX11_isMiddle 226 = .ok (.iadd, 1) := by decide +kernel
theorem dX11_isMiddle_227 : decode cX11_isMiddle 227 = .ok (.istore 16, 2) := by decide +kernel
theorem dX11_isMiddle_229 : decode cX11_isMiddle 229 = .ok (.iinc 17 1, 3) := by decide +kernel
theorem dX11_isMiddle_232 : decode cX11_isMiddle 232 = .ok (.goto (-148), 3) := by decide +kernel
theorem dX11_isMiddle_235 : decode cX11_isMiddle 235 = .ok (.iconst 2, 1) := by decide +kernel
theorem dX11_isMiddle_236 : decode cX11_isMiddle 236 = .ok (.iload 13, 2) := by decide +kernel
theorem dX11_isMiddle_238 : decode cX11_isMiddle 238 = .ok (.iload 14, 2) := by decide +kernel
theorem dX11_isMiddle_240 : decode cX11_isMiddle 240 = .ok (.invokestatic 192, 3) := by decide +kernel
theorem dX11_isMiddle_243 : decode cX11_isMiddle 243 = .ok (.iload 15, 2) := by decide +kernel
theorem dX11_isMiddle_245 : decode cX11_isMiddle 245 = .ok (.iload 16, 2) := by decide +kernel
theorem dX11_isMiddle_247 : decode cX11_isMiddle 247 = .ok (.invokestatic 192, 3) := by decide +kernel
theorem dX11_isMiddle_250 : decode cX11_isMiddle 250 = .ok (.iadd, 1) := by decide +kernel
theorem dX11_isMiddle_251 : decode cX11_isMiddle 251 = .ok (.imul, 1) := by decide +kernel
theorem dX11_isMiddle_252 : decode cX11_isMiddle 252 = .ok (.iload 7, 2) := by decide +kernel
theorem dX11_isMiddle_254 : decode cX11_isMiddle 254 = .ok (.if_icmp .le 5, 3) := by decide +kernel
theorem dX11_isMiddle_257 : decode cX11_isMiddle 257 = .ok (.iconst 0, 1) := by decide +kernel
theorem dX11_isMiddle_258 : decode cX11_isMiddle 258 = .ok (.ireturn, 1) := by decide +kernel
theorem dX11_isMiddle_259 : decode cX11_isMiddle 259 = .ok (.iinc 8 1, 3) := by decide +kernel
theorem dX11_isMiddle_262 : decode cX11_isMiddle 262 = .ok (.goto (-253), 3) := by decide +kernel
theorem dX11_isMiddle_265 : decode cX11_isMiddle 265 = .ok (.iconst 1, 1) := by decide +kernel
theorem dX11_isMiddle_266 : decode cX11_isMiddle 266 = .ok (.ireturn, 1) := by decide +kernel
theorem dX11_isBehind_0 : decode cX11_isBehind 0 = .ok (.aload_n 0, 1) := by decide +kernel
theorem dX11_isBehind_1 : decode cX11_isBehind 1 = .ok (.getfield 78, 3) := by decide +kernel
theorem dX11_isBehind_4 : decode cX11_isBehind 4 = .ok (.iload_n 1, 1) := by decide +kernel
theorem dX11_isBehind_5 : decode cX11_isBehind 5 = .ok (.laload, 1) := by decide +kernel
theorem dX11_isBehind_6 : decode cX11_isBehind 6 = .ok (.lload 6, 2) := by decide +kernel
theorem dX11_isBehind_8 : decode cX11_isBehind 8 = .ok (.lmul, 1) := by decide +kernel
theorem dX11_isBehind_9 : decode cX11_isBehind 9 = .ok (.lload_n 2, 1) := by decide +kernel
theorem dX11_isBehind_10 : decode cX11_isBehind 10 = .ok (.aload_n 0, 1) := by decide +kernel
theorem dX11_isBehind_11 : decode cX11_isBehind 11 = .ok (.getfield 85, 3) := by decide +kernel
theorem dX11_isBehind_14 : decode cX11_isBehind 14 = .ok (.iload_n 1, 1) := by decide +kernel
theorem dX11_isBehind_15 : decode cX11_isBehind 15 = .ok (.laload, 1) := by decide +kernel
theorem dX11_isBehind_16 : decode cX11_isBehind 16 = .ok (.lmul, 1) := by decide +kernel
theorem dX11_isBehind_17 : decode cX11_isBehind 17 = .ok (.lsub, 1) := by decide +kernel
theorem dX11_isBehind_18 : decode cX11_isBehind 18 = .ok (.lstore 8, 2) := by decide +kernel
theorem dX11_isBehind_20 : decode cX11_isBehind 20 = .ok (.lload 8, 2) := by decide +kernel
theorem dX11_isBehind_22 : decode cX11_isBehind 22 = .ok (.lconst 0, 1) := by decide +kernel
theorem dX11_isBehind_23 : decode cX11_isBehind 23 = .ok (.lcmp, 1) := by decide +kernel
theorem dX11_isBehind_24 : decode cX11_isBehind 24 = .ok (.ifCond .eq 18, 3) := by decide +kernel
theorem dX11_isBehind_27 : decode cX11_isBehind 27 = .ok (.lload 8, 2) := by decide +kernel
theorem dX11_isBehind_29 : decode cX11_isBehind 29 = .ok (.lconst 0, 1) := by decide +kernel
theorem dX11_isBehind_30 : decode cX11_isBehind 30 = .ok (.lcmp, 1) := by decide +kernel
theorem dX11_isBehind_31 : decode cX11_isBehind 31 = .ok (.ifCond .le 7, 3) := by decide +kernel
theorem dX11_isBehind_34 : decode cX11_isBehind 34 = .ok (.iconst 1, 1) := by decide +kernel
theorem dX11_isBehind_35 : decode cX11_isBehind 35 = .ok (.goto 34, 3) := by decide +kernel
theorem dX11_isBehind_38 : decode cX11_isBehind 38 = .ok (.iconst 0, 1) := by decide +kernel
theorem dX11_isBehind_39 : decode cX11_isBehind 39 = .ok (.goto 30, 3) := by decide +kernel
theorem dX11_isBehind_42 : decode cX11_isBehind 42 = .ok (.aload_n 0, 1) := by decide +kernel
theorem dX11_isBehind_43 : decode cX11_isBehind 43 = .ok (.getfield 82, 3) := by decide +kernel
theorem dX11_isBehind_46 : decode cX11_isBehind 46 = .ok (.iload_n 1, 1) := by decide +kernel
theorem dX11_isBehind_47 : decode cX11_isBehind 47 = .ok (.laload, 1) := by decide +kernel
theorem dX11_isBehind_48 : decode cX11_isBehind 48 = .ok (.lload 6, 2) := by decide +kernel
theorem dX11_isBehind_50 : decode cX11_isBehind 50 = .ok (.lmul, 1) := by decide +kernel
theorem dX11_isBehind_51 : decode cX11_isBehind 51 = .ok (.lload 4, 2) := by decide +kernel
theorem dX11_isBehind_53 : decode cX11_isBehind 53 = .ok (.aload_n 0, 1) := by decide +kernel
theorem dX11_isBehind_54 : decode cX11_isBehind 54 = .ok (.getfield 85, 3) := by decide +kernel
theorem dX11_isBehind_57 : decode cX11_isBehind 57 = .ok (.iload_n 1, 1) := by decide +kernel
theorem dX11_isBehind_58 : decode cX11_isBehind 58 = .ok (.laload, 1) := by decide +kernel
theorem dX11_isBehind_59 : decode cX11_isBehind 59 = .ok (.lmul, 1) := by decide +kernel
theorem dX11_isBehind_60 : decode cX11_isBehind 60 = .ok (.lcmp, 1) := by decide +kernel
theorem dX11_isBehind_61 : decode cX11_isBehind 61 = .ok (.ifCond .le 7, 3) := by decide +kernel
theorem dX11_isBehind_64 : decode cX11_isBehind 64 = .ok (.iconst 1, 1) := by decide +kernel
theorem dX11_isBehind_65 : decode cX11_isBehind 65 = .ok (.goto 4, 3) := by decide +kernel
theorem dX11_isBehind_68 : decode cX11_isBehind 68 = .ok (.iconst 0, 1) := by decide +kernel
theorem dX11_isBehind_69 : decode cX11_isBehind 69 = .ok (.ireturn, 1) := by decide +kernel
theorem dX11_addsMiddle_0 : decode cX11_addsMiddle 0 = .ok (.lload_n 1, 1) := by decide +kernel
theorem dX11_addsMiddle_1 : decode cX11_addsMiddle 1 = .ok (.lload_n 3, 1) := by decide +kernel
theorem dX11_addsMiddle_2 : decode cX11_addsMiddle 2 = .ok (.invokestatic 294, 3) := by decide +kernel
theorem dX11_addsMiddle_5 : decode cX11_addsMiddle 5 = .ok (.lload 5, 2) := by decide +kernel
theorem dX11_addsMiddle_7 : decode cX11_addsMiddle 7 = .ok (.invokestatic 294, 3) := by decide +kernel
theorem dX11_addsMiddle_10 : decode cX11_addsMiddle 10 = .ok (.lstore 7, 2) := by decide +kernel
theorem dX11_addsMiddle_12 : decode cX11_addsMiddle 12 = .ok (.lload 5, 2) := by decide +kernel
theorem dX11_addsMiddle_14 : decode cX11_addsMiddle 14 = .ok (.lconst 0, 1) := by decide +kernel
theorem dX11_addsMiddle_15 : decode cX11_addsMiddle 15 = .ok (.lcmp, 1) := by decide +kernel
theorem dX11_addsMiddle_16 : decode cX11_addsMiddle 16 = .ok (.ifCond .ge 9, 3) := by decide +kernel
theorem dX11_addsMiddle_19 : decode cX11_addsMiddle 19 = .ok (.lload 7, 2) := by decide +kernel
theorem dX11_addsMiddle_21 : decode cX11_addsMiddle 21 = .ok (.lneg, 1) := by decide +kernel
theorem dX11_addsMiddle_22 : decode cX11_addsMiddle 22 = .ok (.goto 5, 3) := by decide +kernel
theorem dX11_addsMiddle_25 : decode cX11_addsMiddle 25 = .ok (.lload 7, 2) := by decide +kernel
theorem dX11_addsMiddle_27 : decode cX11_addsMiddle 27 = .ok (.lstore 7, 2) := by decide +kernel
theorem dX11_addsMiddle_29 : decode cX11_addsMiddle 29 = .ok (.lload_n 1, 1) := by decide +kernel
theorem dX11_addsMiddle_30 : decode cX11_addsMiddle 30 = .ok (.lload 7, 2) := by decide +kernel
theorem dX11_addsMiddle_32 : decode cX11_addsMiddle 32 = .ok (.ldiv, 1) := by decide +kernel
theorem dX11_addsMiddle_33 : decode cX11_addsMiddle 33 = .ok (.lstore 9, 2) := by decide +kernel
theorem dX11_addsMiddle_35 : decode cX11_addsMiddle 35 = .ok (.lload_n 3, 1) := by decide +kernel
theorem dX11_addsMiddle_36 : decode cX11_addsMiddle 36 = .ok (.lload 7, 2) := by decide +kernel
theorem dX11_addsMiddle_38 : decode cX11_addsMiddle 38 = .ok (.ldiv, 1) := by decide +kernel
theorem dX11_addsMiddle_39 : decode cX11_addsMiddle 39 = .ok (.lstore 11, 2) := by decide +kernel
theorem dX11_addsMiddle_41 : decode cX11_addsMiddle 41 = .ok (.lload 5, 2) := by decide +kernel
theorem dX11_addsMiddle_43 : decode cX11_addsMiddle 43 = .ok (.lload 7, 2) := by decide +kernel
theorem dX11_addsMiddle_45 : decode cX11_addsMiddle 45 = .ok (.ldiv, 1) := by decide +kernel
theorem dX11_addsMiddle_46 : decode cX11_addsMiddle 46 = .ok (.lstore 13, 2) := by decide +kernel
theorem dX11_addsMiddle_48 : decode cX11_addsMiddle 48 = .ok (.iconst 0, 1) := by decide +kernel
theorem dX11_addsMiddle_49 : decode cX11_addsMiddle 49 = .ok (.istore 15, 2) := by decide +kernel
theorem dX11_addsMiddle_51 : decode cX11_addsMiddle 51 = .ok (.iload 15, 2) := by decide +kernel
theorem dX11_addsMiddle_53 : decode cX11_addsMiddle 53 = .ok (.aload_n 0, 1) := by decide +kernel
theorem dX11_addsMiddle_54 : decode cX11_addsMiddle 54 = .ok (.getfield 317, 3) := by decide +kernel
theorem dX11_addsMiddle_57 : decode cX11_addsMiddle 57 = .ok (.if_icmp .ge 49, 3) := by decide +kernel
theorem dX11_addsMiddle_60 : decode cX11_addsMiddle 60 = .ok (.aload_n 0, 1) := by decide +kernel
theorem dX11_addsMiddle_61 : decode cX11_addsMiddle 61 = .ok (.getfield 78, 3) := by decide +kernel
theorem dX11_addsMiddle_64 : decode cX11_addsMiddle 64 = .ok (.iload 15, 2) := by decide +kernel
theorem dX11_addsMiddle_66 : decode cX11_addsMiddle 66 = .ok (.laload, 1) := by decide +kernel
theorem dX11_addsMiddle_67 : decode cX11_addsMiddle 67 = .ok (.lload 9, 2) := by decide +kernel
theorem dX11_addsMiddle_69 : decode cX11_addsMiddle 69 = .ok (.lcmp, 1) := by decide +kernel
theorem dX11_addsMiddle_70 : decode cX11_addsMiddle 70 = .ok (.ifCond .ne 30, 3) := by decide +kernel
theorem dX11_addsMiddle_73 : decode cX11_addsMiddle 73 = .ok (.aload_n 0, 1) := by decide +kernel
theorem dX11_addsMiddle_74 : decode cX11_addsMiddle 74 = .ok (.getfield 82, 3) := by decide +kernel
theorem dX11_addsMiddle_77 : decode cX11_addsMiddle 77 = .ok (.iload 15, 2) := by decide +kernel
theorem dX11_addsMiddle_79 : decode cX11_addsMiddle 79 = .ok (.laload, 1) := by decide +kernel
theorem dX11_addsMiddle_80 : decode cX11_addsMiddle 80 = .ok (.lload 11, 2) := by decide +kernel
theorem dX11_addsMiddle_82 : decode cX11_addsMiddle 82 = .ok (.lcmp, 1) := by decide +kernel
theorem dX11_addsMiddle_83 : decode cX11_addsMiddle 83 = .ok (.ifCond .ne 17, 3) := by decide +kernel
theorem dX11_addsMiddle_86 : decode cX11_addsMiddle 86 = .ok (.aload_n 0, 1) := by decide +kernel
theorem dX11_addsMiddle_87 : decode cX11_addsMiddle 87 = .ok (.getfield 85, 3) := by decide +kernel
theorem dX11_addsMiddle_90 : decode cX11_addsMiddle 90 = .ok (.iload 15, 2) := by decide +kernel
theorem dX11_addsMiddle_92 : decode cX11_addsMiddle 92 = .ok (.laload, 1) := by decide +kernel
theorem dX11_addsMiddle_93 : decode cX11_addsMiddle 93 = .ok (.lload 13, 2) := by decide +kernel
theorem dX11_addsMiddle_95 : decode cX11_addsMiddle 95 = .ok (.lcmp, 1) := by decide +kernel
theorem dX11_addsMiddle_96 : decode cX11_addsMiddle 96 = .ok (.ifCond .ne 4, 3) := by decide +kernel
theorem dX11_addsMiddle_99 : decode cX11_addsMiddle 99 = .ok (.return_, 1) := by decide +kernel
theorem dX11_addsMiddle_100 : decode cX11_addsMiddle 100 = .ok (.iinc 15 1, 3) := by decide +kernel
theorem dX11_addsMiddle_103 : decode cX11_addsMiddle 103 = .ok (.goto (-52), 3) := by decide +kernel
theorem dX11_addsMiddle_106 : decode cX11_addsMiddle 106 = .ok (.aload_n 0, 1) := by decide +kernel
theorem dX11_addsMiddle_107 : decode cX11_addsMiddle 107 = .ok (.lload 9, 2) := by decide +kernel
theorem dX11_addsMiddle_109 : decode cX11_addsMiddle 109 = .ok (.lload 11, 2) := by decide +kernel
theorem dX11_addsMiddle_111 : decode cX11_addsMiddle 111 = .ok (.lload 13, 2) := by decide +kernel
theorem dX11_addsMiddle_113 : decode cX11_addsMiddle 113 = .ok (.invokevirtual 320, 3) := by decide +kernel
theorem dX11_addsMiddle_116 : decode cX11_addsMiddle 116 = .ok (.ifCond .ne 4, 3) := by decide +kernel
theorem dX11_addsMiddle_119 : decode cX11_addsMiddle 119 = .ok (.return_, 1) := by decide +kernel
theorem dX11_addsMiddle_120 : decode cX11_addsMiddle 120 = .ok (.aload_n 0, 1) := by decide +kernel
theorem dX11_addsMiddle_121 : decode cX11_addsMiddle 121 = .ok (.getfield 317, 3) := by decide +kernel
theorem dX11_addsMiddle_124 : decode cX11_addsMiddle 124 = .ok (.istore 15, 2) := by decide +kernel
theorem dX11_addsMiddle_126 : decode cX11_addsMiddle 126 = .ok (.iload 15, 2) := by decide +kernel
theorem dX11_addsMiddle_128 : decode cX11_addsMiddle 128 = .ok (.ifCond .le 74, 3) := by decide +kernel
theorem dX11_addsMiddle_131 : decode cX11_addsMiddle 131 = .ok (.aload_n 0, 1) := by decide +kernel
theorem dX11_addsMiddle_132 : decode cX11_addsMiddle 132 = .ok (.iload 15, 2) := by decide +kernel
theorem dX11_addsMiddle_134 : decode cX11_addsMiddle 134 = .ok (.iconst 1, 1) := by decide +kernel
theorem dX11_addsMiddle_135 : decode cX11_addsMiddle 135 = .ok (.isub, 1) := by decide +kernel
theorem dX11_addsMiddle_136 : decode cX11_addsMiddle 136 = .ok (.lload 9, 2) := by decide +kernel
theorem dX11_addsMiddle_138 : decode cX11_addsMiddle 138 = .ok (.lload 11, 2) := by decide +kernel
theorem dX11_addsMiddle_140 : decode cX11_addsMiddle 140 = .ok (.lload 13, 2) := by decide +kernel
theorem dX11_addsMiddle_142 : decode cX11_addsMiddle 142 = .ok (.invokevirtual 323, 3) := by decide +kernel
theorem dX11_addsMiddle_145 : decode cX11_addsMiddle 145 = .ok (.ifCond .eq 57, 3) := by decide +kernel
theorem dX11_addsMiddle_148 : decode cX11_addsMiddle 148 = .ok (.aload_n 0, 1) := by decide +kernel
theorem dX11_addsMiddle_149 : decode cX11_addsMiddle 149 = .ok (.getfield 78, 3) := by decide +kernel
theorem dX11_addsMiddle_152 : decode cX11_addsMiddle 152 = .ok (.iload 15, 2) := by decide +kernel
theorem dX11_addsMiddle_154 : decode cX11_addsMiddle 154 = .ok (.aload_n 0, 1) := by decide +kernel
theorem dX11_addsMiddle_155 : decode cX11_addsMiddle 155 = .ok (.getfield 78, 3) := by decide +kernel
theorem dX11_addsMiddle_158 : decode cX11_addsMiddle 158 = .ok (.iload 15, 2) := by decide +kernel
theorem dX11_addsMiddle_160 : decode cX11_addsMiddle 160 = .ok (.iconst 1, 1) := by decide +kernel
theorem dX11_addsMiddle_161 : decode cX11_addsMiddle 161 = .ok (.isub, 1) := by decide +kernel
theorem dX11_addsMiddle_162 : decode cX11_addsMiddle 162 = .ok (.laload, 1) := by decide +kernel
theorem dX11_addsMiddle_163 : decode cX11_addsMiddle 163 = .ok (.lastore, 1) := by decide +kernel
theorem dX11_addsMiddle_164 : decode cX11_addsMiddle 164 = .ok (.aload_n 0, 1) := by decide +kernel
theorem dX11_addsMiddle_165 : decode cX11_addsMiddle 165 = .ok (.getfield 82, 3) := by decide +kernel
theorem dX11_addsMiddle_168 : decode cX11_addsMiddle 168 = .ok (.iload 15, 2) := by decide +kernel
theorem dX11_addsMiddle_170 : decode cX11_addsMiddle 170 = .ok (.aload_n 0, 1) := by decide +kernel
theorem dX11_addsMiddle_171 : decode cX11_addsMiddle 171 = .ok (.getfield 82, 3) := by decide +kernel
theorem dX11_addsMiddle_174 : decode cX11_addsMiddle 174 = .ok (.iload 15, 2) := by decide +kernel
theorem dX11_addsMiddle_176 : decode cX11_addsMiddle 176 = .ok (.iconst 1, 1) := by decide +kernel
theorem dX11_addsMiddle_177 : decode cX11_addsMiddle 177 = .ok (.isub, 1) := by decide +kernel
theorem dX11_addsMiddle_178 : decode cX11_addsMiddle 178 = .ok (.laload, 1) := by decide +kernel
theorem dX11_addsMiddle_179 : decode cX11_addsMiddle 179 = .ok (.lastore, 1) := by decide +kernel
theorem dX11_addsMiddle_180 : decode cX11_addsMiddle 180 = .ok (.aload_n 0, 1) := by decide +kernel
theorem dX11_addsMiddle_181 : decode cX11_addsMiddle 181 = .ok (.getfield 85, 3) := by decide +kernel
theorem dX11_addsMiddle_184 : decode cX11_addsMiddle 184 = .ok (.iload 15, 2) := by decide +kernel
theorem dX11_addsMiddle_186 : decode cX11_addsMiddle 186 = .ok (.aload_n 0, 1) := by decide +kernel
theorem dX11_addsMiddle_187 : decode cX11_addsMiddle 187 = .ok (.getfield 85, 3) := by decide +kernel
theorem dX11_addsMiddle_190 : decode cX11_addsMiddle 190 = .ok (.iload 15, 2) := by decide +kernel
theorem dX11_addsMiddle_192 : decode cX11_addsMiddle 192 = .ok (.iconst 1, 1) := by decide +kernel
theorem dX11_addsMiddle_193 : decode cX11_addsMiddle 193 = .ok (.isub, 1) := by decide +kernel
theorem dX11_addsMiddle_194 : decode cX11_addsMiddle 194 = .ok (.laload, 1) := by decide +kernel
theorem dX11_addsMiddle_195 : decode cX11_addsMiddle 195 = .ok (.lastore, 1) := by decide +kernel
theorem dX11_addsMiddle_196 : decode cX11_addsMiddle 196 = .ok (.iinc 15 (-1), 3) := by decide +kernel
theorem dX11_addsMiddle_199 : decode cX11_addsMiddle 199 = .ok (.goto (-73), 3) := by decide +kernel
theorem dX11_addsMiddle_202 : decode cX11_addsMiddle 202 = .ok (.aload_n 0, 1) := by decide +kernel
theorem dX11_addsMiddle_203 : decode cX11_addsMiddle 203 = .ok (.getfield 78, 3) := by decide +kernel
theorem dX11_addsMiddle_206 : decode cX11_addsMiddle 206 = .ok (.iload 15, 2) := by decide +kernel
theorem dX11_addsMiddle_208 : decode cX11_addsMiddle 208 = .ok (.lload 9, 2) := by decide +kernel
theorem dX11_addsMiddle_210 : decode cX11_addsMiddle 210 = .ok (.lastore, 1) := by decide +kernel
theorem dX11_addsMiddle_211 : decode cX11_addsMiddle 211 = .ok (.aload_n 0, 1) := by decide +kernel
theorem dX11_addsMiddle_212 : decode cX11_addsMiddle 212 = .ok (.getfield 82, 3) := by decide +kernel
theorem dX11_addsMiddle_215 : decode cX11_addsMiddle 215 = .ok (.iload 15, 2) := by decide +kernel
theorem dX11_addsMiddle_217 : decode cX11_addsMiddle 217 = .ok (.lload 11, 2) := by decide +kernel
theorem dX11_addsMiddle_219 : decode cX11_addsMiddle 219 = .ok (.lastore, 1) := by decide +kernel
theorem dX11_addsMiddle_220 : decode cX11_addsMiddle 220 = .ok (.aload_n 0, 1) := by decide +kernel
theorem dX11_addsMiddle_221 : decode cX11_addsMiddle 221 = .ok (.getfield 85, 3) := by decide +kernel
theorem dX11_addsMiddle_224 : decode cX11_addsMiddle 224 = .ok (.iload 15, 2) := by decide +kernel
theorem dX11_addsMiddle_226 : decode cX11_addsMiddle 226 = .ok (.lload 13, 2) := by decide +kernel
theorem dX11_addsMiddle_228 : decode cX11_addsMiddle 228 = .ok (.lastore, 1) := by decide +kernel
theorem dX11_addsMiddle_229 : decode cX11_addsMiddle 229 = .ok (.aload_n 0, 1) := by decide +kernel
theorem dX11_addsMiddle_230 : decode cX11_addsMiddle 230 = .ok (.dup, 1) := by decide +kernel
theorem dX11_addsMiddle_231 : decode cX11_addsMiddle 231 = .ok (.getfield 317, 3) := by decide +kernel
theorem dX11_addsMiddle_234 : decode cX11_addsMiddle 234 = .ok (.iconst 1, 1) := by decide +kernel
theorem dX11_addsMiddle_235 : decode cX11_addsMiddle 235 = .ok (.iadd, 1) := by decide +kernel
theorem dX11_addsMiddle_236 : decode cX11_addsMiddle 236 = .ok (.putfield 317, 3) := by decide +kernel
theorem dX11_addsMiddle_239 : decode cX11_addsMiddle 239 = .ok (.return_, 1) := by decide +kernel
theorem dX11_findsMiddles_0 : decode cX11_findsMiddles 0 = .ok (.aload_n 0, 1) := by decide +kernel
theorem dX11_findsMiddles_1 : decode cX11_findsMiddles 1 = .ok (.iconst 0, 1) := by decide +kernel
theorem dX11_findsMiddles_2 : decode cX11_findsMiddles 2 = .ok (.putfield 317, 3) := by decide +kernel
theorem dX11_findsMiddles_5 : decode cX11_findsMiddles 5 = .ok (.iconst 0, 1) := by decide +kernel
theorem dX11_findsMiddles_6 : decode cX11_findsMiddles 6 = .ok (.istore_n 1, 1) := by decide +kernel
theorem dX11_findsMiddles_7 : decode cX11_findsMiddles 7 = .ok (.iload_n 1, 1) := by decide +kernel
theorem dX11_findsMiddles_8 : decode cX11_findsMiddles 8 = .ok (.aload_n 0, 1) := by decide +kernel
theorem dX11_findsMiddles_9 : decode cX11_findsMiddles 9 = .ok (.invokevirtual 237, 3) := by decide +kernel
theorem dX11_findsMiddles_12 : decode cX11_findsMiddles 12 = .ok (.if_icmp .ge 32, 3) := by decide +kernel
theorem dX11_findsMiddles_15 : decode cX11_findsMiddles 15 = .ok (.aload_n 0, 1) := by decide +kernel
theorem dX11_findsMiddles_16 : decode cX11_findsMiddles 16 = .ok (.aload_n 0, 1) := by decide +kernel
theorem dX11_findsMiddles_17 : decode cX11_findsMiddles 17 = .ok (.getfield 15, 3) := by decide +kernel
theorem dX11_findsMiddles_20 : decode cX11_findsMiddles 20 = .ok (.iconst 0, 1) := by decide +kernel
theorem dX11_findsMiddles_21 : decode cX11_findsMiddles 21 = .ok (.aaload, 1) := by decide +kernel
theorem dX11_findsMiddles_22 : decode cX11_findsMiddles 22 = .ok (.iload_n 1, 1) := by decide +kernel
theorem dX11_findsMiddles_23 : decode cX11_findsMiddles 23 = .ok (.iaload, 1) := by decide +kernel
theorem dX11_findsMiddles_24 : decode cX11_findsMiddles 24 = .ok (.i2l, 1) := by decide +kernel
theorem dX11_findsMiddles_25 : decode cX11_findsMiddles 25 = .ok (.aload_n 0, 1) := by decide +kernel
theorem dX11_findsMiddles_26 : decode cX11_findsMiddles 26 = .ok (.getfield 18, 3) := by decide +kernel
theorem dX11_findsMiddles_29 : decode cX11_findsMiddles 29 = .ok (.iconst 0, 1) := by decide +kernel
theorem dX11_findsMiddles_30 : decode cX11_findsMiddles 30 = .ok (.aaload, 1) := by decide +kernel
theorem dX11_findsMiddles_31 : decode cX11_findsMiddles 31 = .ok (.iload_n 1, 1) := by decide +kernel
theorem dX11_findsMiddles_32 : decode cX11_findsMiddles 32 = .ok (.iaload, 1) := by decide +kernel
theorem dX11_findsMiddles_33 : decode cX11_findsMiddles 33 = .ok (.i2l, 1) := by decide +kernel
theorem dX11_findsMiddles_34 : decode cX11_findsMiddles 34 = .ok (.lconst 1, 1) := by decide +kernel
theorem dX11_findsMiddles_35 : decode cX11_findsMiddles 35 = .ok (.invokevirtual 327, 3) := by decide +kernel
theorem dX11_findsMiddles_38 : decode cX11_findsMiddles 38 = .ok (.iinc 1 1, 3) := by decide +kernel
theorem dX11_findsMiddles_41 : decode cX11_findsMiddles 41 = .ok (.goto (-34), 3) := by decide +kernel
theorem dX11_findsMiddles_44 : decode cX11_findsMiddles 44 = .ok (.iconst 0, 1) := by decide +kernel
theorem dX11_findsMiddles_45 : decode cX11_findsMiddles 45 = .ok (.istore_n 1, 1) := by decide +kernel
theorem dX11_findsMiddles_46 : decode cX11_findsMiddles 46 = .ok (.iload_n 1, 1) := by decide +kernel
theorem dX11_findsMiddles_47 : decode cX11_findsMiddles 47 = .ok (.aload_n 0, 1) := by decide +kernel
theorem dX11_findsMiddles_48 : decode cX11_findsMiddles 48 = .ok (.getfield 288, 3) := by decide +kernel
theorem dX11_findsMiddles_51 : decode cX11_findsMiddles 51 = .ok (.if_icmp .ge 130, 3) := by decide +kernel
theorem dX11_findsMiddles_54 : decode cX11_findsMiddles 54 = .ok (.iconst 0, 1) := by decide +kernel
theorem dX11_findsMiddles_55 : decode cX11_findsMiddles 55 = .ok (.istore_n 2, 1) := by decide +kernel
theorem dX11_findsMiddles_56 : decode cX11_findsMiddles 56 = .ok (.iload_n 2, 1) := by decide +kernel
theorem dX11_findsMiddles_57 : decode cX11_findsMiddles 57 = .ok (.iload_n 1, 1) := by decide +kernel
theorem dX11_findsMiddles_58 : decode cX11_findsMiddles 58 = .ok (.if_icmp .ge 117, 3) := by decide +kernel
theorem dX11_findsMiddles_61 : decode cX11_findsMiddles 61 = .ok (.aload_n 0, 1) := by decide +kernel
theorem dX11_findsMiddles_62 : decode cX11_findsMiddles 62 = .ok (.getfield 69, 3) := by decide +kernel
theorem dX11_findsMiddles_65 : decode cX11_findsMiddles 65 = .ok (.iload_n 1, 1) := by decide +kernel
theorem dX11_findsMiddles_66 : decode cX11_findsMiddles 66 = .ok (.iaload, 1) := by decide +kernel
theorem dX11_findsMiddles_67 : decode cX11_findsMiddles 67 = .ok (.i2l, 1) := by decide +kernel
theorem dX11_findsMiddles_68 : decode cX11_findsMiddles 68 = .ok (.aload_n 0, 1) := by decide +kernel
theorem dX11_findsMiddles_69 : decode cX11_findsMiddles 69 = .ok (.getfield 72, 3) := by decide +kernel
theorem dX11_findsMiddles_72 : decode cX11_findsMiddles 72 = .ok (.iload_n 2, 1) := by decide +kernel
theorem dX11_findsMiddles_73 : decode cX11_findsMiddles 73 = .ok (.iaload, 1) := by decide +kernel
theorem dX11_findsMiddles_74 : decode cX11_findsMiddles 74 = .ok (.i2l, 1) := by decide +kernel
theorem dX11_findsMiddles_75 : decode cX11_findsMiddles 75 = .ok (.lmul, 1) := by decide +kernel
theorem dX11_findsMiddles_76 : decode cX11_findsMiddles 76 = .ok (.aload_n 0, 1) := by decide +kernel
theorem dX11_findsMiddles_77 : decode cX11_findsMiddles 77 = .ok (.getfield 69, 3) := by decide +kernel
theorem dX11_findsMiddles_80 : decode cX11_findsMiddles 80 = .ok (.iload_n 2, 1) := by decide +kernel
theorem dX11_findsMiddles_81 : decode cX11_findsMiddles 81 = .ok (.iaload, 1) := by decide +kernel
theorem dX11_findsMiddles_82 : decode cX11_findsMiddles 82 = .ok (.i2l, 1) := by decide +kernel
theorem dX11_findsMiddles_83 : decode cX11_findsMiddles 83 = .ok (.aload_n 0, 1) := by decide +kernel
theorem dX11_findsMiddles_84 : decode cX11_findsMiddles 84 = .ok (.getfield 72, 3) := by decide +kernel
theorem dX11_findsMiddles_87 : decode cX11_findsMiddles 87 = .ok (.iload_n 1, 1) := by decide +kernel
theorem dX11_findsMiddles_88 : decode cX11_findsMiddles 88 = .ok (.iaload, 1) := by decide +kernel
theorem dX11_findsMiddles_89 : decode cX11_findsMiddles 89 = .ok (.i2l, 1) := by decide +kernel
theorem dX11_findsMiddles_90 : decode cX11_findsMiddles 90 = .ok (.lmul, 1) := by decide +kernel
theorem dX11_findsMiddles_91 : decode cX11_findsMiddles 91 = .ok (.lsub, 1) := by decide +kernel
theorem dX11_findsMiddles_92 : decode cX11_findsMiddles 92 = .ok (.lstore_n 3, 1) := by decide +kernel
theorem dX11_findsMiddles_93 : decode cX11_findsMiddles 93 = .ok (.lload_n 3, 1) := by decide +kernel
theorem dX11_findsMiddles_94 : decode cX11_findsMiddles 94 = .ok (.lconst 0, 1) := by decide +kernel
theorem dX11_findsMiddles_95 : decode cX11_findsMiddles 95 = .ok (.lcmp, 1) := by decide +kernel
theorem dX11_findsMiddles_96 : decode cX11_findsMiddles 96 = .ok (.ifCond .ne 6, 3) := by decide +kernel
theorem dX11_findsMiddles_99 : decode cX11_findsMiddles 99 = .ok (.goto 70, 3) := by decide +kernel
theorem dX11_findsMiddles_102 : decode cX11_findsMiddles 102 = .ok (.aload_n 0, 1) := by decide +kernel
theorem dX11_findsMiddles_103 : decode cX11_findsMiddles 103 = .ok (.aload_n 0, 1) := by decide +kernel
theorem dX11_findsMiddles_104 : decode cX11_findsMiddles 104 = .ok (.getfield 75, 3) := by decide +kernel
theorem dX11_findsMiddles_107 : decode cX11_findsMiddles 107 = .ok (.iload_n 1, 1) := by decide +kernel
theorem dX11_findsMiddles_108 : decode cX11_findsMiddles 108 = .ok (.iaload, 1) := by decide +kernel
theorem dX11_findsMiddles_109 : decode cX11_findsMiddles 109 = .ok (.i2l, 1) := by decide +kernel
theorem dX11_findsMiddles_110 : decode cX11_findsMiddles 110 = .ok (.aload_n 0, 1) := by decide +kernel
theorem dX11_findsMiddles_111 : decode cX11_findsMiddles 111 = .ok (.getfield 72, 3) := by decide +kernel
theorem dX11_findsMiddles_114 : decode cX11_findsMiddles 114 = .ok (.iload_n 2, 1) := by decide +kernel
theorem dX11_findsMiddles_115 : decode cX11_findsMiddles 115 = .ok (.iaload, 1) := by decide +kernel
theorem dX11_findsMiddles_116 : decode cX11_findsMiddles 116 = .ok (.i2l, 1) := by decide +kernel
theorem dX11_findsMiddles_117 : decode cX11_findsMiddles 117 = .ok (.lmul, 1) := by decide +kernel
theorem dX11_findsMiddles_118 : decode cX11_findsMiddles 118 = .ok (.aload_n 0, 1) := by decide +kernel
theorem dX11_findsMiddles_119 : decode cX11_findsMiddles 119 = .ok (.getfield 75, 3) := by decide +kernel
theorem dX11_findsMiddles_122 : decode cX11_findsMiddles 122 = .ok (.iload_n 2, 1) := by decide +kernel
theorem dX11_findsMiddles_123 : decode cX11_findsMiddles 123 = .ok (.iaload, 1) := by decide +kernel
theorem dX11_findsMiddles_124 : decode cX11_findsMiddles 124 = .ok (.i2l, 1) := by decide +kernel
theorem dX11_findsMiddles_125 : decode cX11_findsMiddles 125 = .ok (.aload_n 0, 1) := by decide +kernel
theorem dX11_findsMiddles_126 : decode cX11_findsMiddles 126 = .ok (.getfield 72, 3) := by decide +kernel
theorem dX11_findsMiddles_129 : decode cX11_findsMiddles 129 = .ok (.iload_n 1, 1) := by decide +kernel
theorem dX11_findsMiddles_130 : decode cX11_findsMiddles 130 = .ok (.iaload, 1) := by decide +kernel
theorem dX11_findsMiddles_131 : decode cX11_findsMiddles 131 = .ok (.i2l, 1) := by decide +kernel
theorem dX11_findsMiddles_132 : decode cX11_findsMiddles 132 = .ok (.lmul, 1) := by decide +kernel
theorem dX11_findsMiddles_133 : decode cX11_findsMiddles 133 = .ok (.lsub, 1) := by decide +kernel
theorem dX11_findsMiddles_134 : decode cX11_findsMiddles 134 = .ok (.aload_n 0, 1) := by decide +kernel
theorem dX11_findsMiddles_135 : decode cX11_findsMiddles 135 = .ok (.getfield 69, 3) := by decide +kernel
theorem dX11_findsMiddles_138 : decode cX11_findsMiddles 138 = .ok (.iload_n 1, 1) := by decide +kernel
theorem dX11_findsMiddles_139 : decode cX11_findsMiddles 139 = .ok (.iaload, 1) := by decide +kernel
theorem dX11_findsMiddles_140 : decode cX11_findsMiddles 140 = .ok (.i2l, 1) := by decide +kernel
theorem dX11_findsMiddles_141 : decode cX11_findsMiddles 141 = .ok (.aload_n 0, 1) := by decide +kernel
theorem dX11_findsMiddles_142 : decode cX11_findsMiddles 142 = .ok (.getfield 75, 3) := by decide +kernel
theorem dX11_findsMiddles_145 : decode cX11_findsMiddles 145 = .ok (.iload_n 2, 1) := by decide +kernel
theorem dX11_findsMiddles_146 : decode cX11_findsMiddles 146 = .ok (.iaload, 1) := by decide +kernel
theorem dX11_findsMiddles_147 : decode cX11_findsMiddles 147 = .ok (.i2l, 1) := by decide +kernel
theorem dX11_findsMiddles_148 : decode cX11_findsMiddles 148 = .ok (.lmul, 1) := by decide +kernel
theorem dX11_findsMiddles_149 : decode cX11_findsMiddles 149 = .ok (.aload_n 0, 1) := by decide +kernel
theorem dX11_findsMiddles_150 : decode cX11_findsMiddles 150 = .ok (.getfield 69, 3) := by decide +kernel
theorem dX11_findsMiddles_153 : decode cX11_findsMiddles 153 = .ok (.iload_n 2, 1) := by decide +kernel
theorem dX11_findsMiddles_154 : decode cX11_findsMiddles 154 = .ok (.iaload, 1) := by decide +kernel
theorem dX11_findsMiddles_155 : decode cX11_findsMiddles 155 = .ok (.i2l, 1) := by decide +kernel
theorem dX11_findsMiddles_156 : decode cX11_findsMiddles 156 = .ok (.aload_n 0, 1) := by decide +kernel
theorem dX11_findsMiddles_157 : decode cX11_findsMiddles 157 = .ok (.getfield 75, 3) := by decide +kernel
theorem dX11_findsMiddles_160 : decode cX11_findsMiddles 160 = .ok (.iload_n 1, 1) := by decide +kernel
theorem dX11_findsMiddles_161 : decode cX11_findsMiddles 161 = .ok (.iaload, 1) := by decide +kernel
theorem dX11_findsMiddles_162 : decode cX11_findsMiddles 162 = .ok (.i2l, 1) := by decide +kernel
theorem dX11_findsMiddles_163 : decode cX11_findsMiddles 163 = .ok (.lmul, 1) := by decide +kernel
theorem dX11_findsMiddles_164 : decode cX11_findsMiddles 164 = .ok (.lsub, 1) := by decide +kernel
theorem dX11_findsMiddles_165 : decode cX11_findsMiddles 165 = .ok (.lload_n 3, 1) := by decide +kernel
theorem dX11_findsMiddles_166 : decode cX11_findsMiddles 166 = .ok (.invokevirtual 327, 3) := by decide +kernel
theorem dX11_findsMiddles_169 : decode cX11_findsMiddles 169 = .ok (.iinc 2 1, 3) := by decide +kernel
theorem dX11_findsMiddles_172 : decode cX11_findsMiddles 172 = .ok (.goto (-116), 3) := by decide +kernel
theorem dX11_findsMiddles_175 : decode cX11_findsMiddles 175 = .ok (.iinc 1 1, 3) := by decide +kernel
theorem dX11_findsMiddles_178 : decode cX11_findsMiddles 178 = .ok (.goto (-132), 3) := by decide +kernel
theorem dX11_findsMiddles_181 : decode cX11_findsMiddles 181 = .ok (.return_, 1) := by decide +kernel
theorem dX11_middle_0 : decode cX11_middle 0 = .ok (.aload_n 0, 1) := by decide +kernel
theorem dX11_middle_1 : decode cX11_middle 1 = .ok (.invokevirtual 313, 3) := by decide +kernel
theorem dX11_middle_4 : decode cX11_middle 4 = .ok (.iload_n 1, 1) := by decide +kernel
theorem dX11_middle_5 : decode cX11_middle 5 = .ok (.iconst (-1), 1) := by decide +kernel
theorem dX11_middle_6 : decode cX11_middle 6 = .ok (.if_icmp .ne 8, 3) := by decide +kernel
theorem dX11_middle_9 : decode cX11_middle 9 = .ok (.aload_n 0, 1) := by decide +kernel
theorem dX11_middle_10 : decode cX11_middle 10 = .ok (.getfield 317, 3) := by decide +kernel
theorem dX11_middle_13 : decode cX11_middle 13 = .ok (.ireturn, 1) := by decide +kernel
theorem dX11_middle_14 : decode cX11_middle 14 = .ok (.iload_n 1, 1) := by decide +kernel
theorem dX11_middle_15 : decode cX11_middle 15 = .ok (.i2l, 1) := by decide +kernel
theorem dX11_middle_16 : decode cX11_middle 16 = .ok (.lconst 0, 1) := by decide +kernel
theorem dX11_middle_17 : decode cX11_middle 17 = .ok (.aload_n 0, 1) := by decide +kernel
theorem dX11_middle_18 : decode cX11_middle 18 = .ok (.getfield 317, 3) := by decide +kernel
theorem dX11_middle_21 : decode cX11_middle 21 = .ok (.iconst 1, 1) := by decide +kernel
theorem dX11_middle_22 : decode cX11_middle 22 = .ok (.isub, 1) := by decide +kernel
theorem dX11_middle_23 : decode cX11_middle 23 = .ok (.i2l, 1) := by decide +kernel
theorem dX11_middle_24 : decode cX11_middle 24 = .ok (.invokestatic 122, 3) := by decide +kernel
theorem dX11_middle_27 : decode cX11_middle 27 = .ok (.ifCond .ne 7, 3) := by decide +kernel
theorem dX11_middle_30 : decode cX11_middle 30 = .ok (.ldc_w 316, 3) := by decide +kernel
theorem dX11_middle_33 : decode cX11_middle 33 = .ok (.ireturn, 1) := by decide +kernel
theorem dX11_middle_34 : decode cX11_middle 34 = .ok (.iload_n 2, 1) := by decide +kernel
theorem dX11_middle_35 : decode cX11_middle 35 = .ok (.tableswitch 49 0 2 #[25, 33, 41], 25) := by decide +kernel
theorem dX11_middle_60 : decode cX11_middle 60 = .ok (.aload_n 0, 1) := by decide +kernel
theorem dX11_middle_61 : decode cX11_middle 61 = .ok (.getfield 78, 3) := by decide +kernel
theorem dX11_middle_64 : decode cX11_middle 64 = .ok (.iload_n 1, 1) := by decide +kernel
theorem dX11_middle_65 : decode cX11_middle 65 = .ok (.laload, 1) := by decide +kernel
theorem dX11_middle_66 : decode cX11_middle 66 = .ok (.l2i, 1) := by decide +kernel
theorem dX11_middle_67 : decode cX11_middle 67 = .ok (.ireturn, 1) := by decide +kernel
theorem dX11_middle_68 : decode cX11_middle 68 = .ok (.aload_n 0, 1) := by decide +kernel
theorem dX11_middle_69 : decode cX11_middle 69 = .ok (.getfield 82, 3) := by decide +kernel
theorem dX11_middle_72 : decode cX11_middle 72 = .ok (.iload_n 1, 1) := by decide +kernel
theorem dX11_middle_73 : decode cX11_middle 73 = .ok (.laload, 1) := by decide +kernel
theorem dX11_middle_74 : decode cX11_middle 74 = .ok (.l2i, 1) := by decide +kernel
theorem dX11_middle_75 : decode cX11_middle 75 = .ok (.ireturn, 1) := by decide +kernel
theorem dX11_middle_76 : decode cX11_middle 76 = .ok (.aload_n 0, 1) := by decide +kernel
theorem dX11_middle_77 : decode cX11_middle 77 = .ok (.getfield 85, 3) := by decide +kernel
theorem dX11_middle_80 : decode cX11_middle 80 = .ok (.iload_n 1, 1) := by decide +kernel
theorem dX11_middle_81 : decode cX11_middle 81 = .ok (.laload, 1) := by decide +kernel
theorem dX11_middle_82 : decode cX11_middle 82 = .ok (.l2i, 1) := by decide +kernel
theorem dX11_middle_83 : decode cX11_middle 83 = .ok (.ireturn, 1) := by decide +kernel
theorem dX11_middle_84 : decode cX11_middle 84 = .ok (.ldc_w 316, 3) := by decide +kernel
theorem dX11_middle_87 : decode cX11_middle 87 = .ok (.ireturn, 1) := by decide +kernel
theorem dX11_meet_0 : decode cX11_meet 0 = .ok (.aload_n 0, 1) := by decide +kernel
theorem dX11_meet_1 : decode cX11_meet 1 = .ok (.getfield 69, 3) := by decide +kernel
theorem dX11_meet_4 : decode cX11_meet 4 = .ok (.iload_n 1, 1) := by decide +kernel
theorem dX11_meet_5 : decode cX11_meet 5 = .ok (.iaload, 1) := by decide +kernel
theorem dX11_meet_6 : decode cX11_meet 6 = .ok (.i2l, 1) := by decide +kernel
theorem dX11_meet_7 : decode cX11_meet 7 = .ok (.aload_n 0, 1) := by decide +kernel
theorem dX11_meet_8 : decode cX11_meet 8 = .ok (.getfield 72, 3) := by decide +kernel
theorem dX11_meet_11 : decode cX11_meet 11 = .ok (.iload_n 2, 1) := by decide +kernel
theorem dX11_meet_12 : decode cX11_meet 12 = .ok (.iaload, 1) := by decide +kernel
theorem dX11_meet_13 : decode cX11_meet 13 = .ok (.i2l, 1) := by decide +kernel
theorem dX11_meet_14 : decode cX11_meet 14 = .ok (.lmul, 1) := by decide +kernel
theorem dX11_meet_15 : decode cX11_meet 15 = .ok (.aload_n 0, 1) := by decide +kernel
theorem dX11_meet_16 : decode cX11_meet 16 = .ok (.getfield 69, 3) := by decide +kernel
theorem dX11_meet_19 : decode cX11_meet 19 = .ok (.iload_n 2, 1) := by decide +kernel
theorem dX11_meet_20 : decode cX11_meet 20 = .ok (.iaload, 1) := by decide +kernel
theorem dX11_meet_21 : decode cX11_meet 21 = .ok (.i2l, 1) := by decide +kernel
theorem dX11_meet_22 : decode cX11_meet 22 = .ok (.aload_n 0, 1) := by decide +kernel
theorem dX11_meet_23 : decode cX11_meet 23 = .ok (.getfield 72, 3) := by decide +kernel
theorem dX11_meet_26 : decode cX11_meet 26 = .ok (.iload_n 1, 1) := by decide +kernel
theorem dX11_meet_27 : decode cX11_meet 27 = .ok (.iaload, 1) := by decide +kernel
theorem dX11_meet_28 : decode cX11_meet 28 = .ok (.i2l, 1) := by decide +kernel
theorem dX11_meet_29 : decode cX11_meet 29 = .ok (.lmul, 1) := by decide +kernel
theorem dX11_meet_30 : decode cX11_meet 30 = .ok (.lsub, 1) := by decide +kernel
theorem dX11_meet_31 : decode cX11_meet 31 = .ok (.lstore 4, 2) := by decide +kernel
theorem dX11_meet_33 : decode cX11_meet 33 = .ok (.lload 4, 2) := by decide +kernel
theorem dX11_meet_35 : decode cX11_meet 35 = .ok (.lconst 0, 1) := by decide +kernel
theorem dX11_meet_36 : decode cX11_meet 36 = .ok (.lcmp, 1) := by decide +kernel
theorem dX11_meet_37 : decode cX11_meet 37 = .ok (.ifCond .ne 5, 3) := by decide +kernel
theorem dX11_meet_40 : decode cX11_meet 40 = .ok (.iconst 0, 1) := by decide +kernel
theorem dX11_meet_41 : decode cX11_meet 41 = .ok (.ireturn, 1) := by decide +kernel
theorem dX11_meet_42 : decode cX11_meet 42 = .ok (.aload_n 0, 1) := by decide +kernel
theorem dX11_meet_43 : decode cX11_meet 43 = .ok (.getfield 75, 3) := by decide +kernel
theorem dX11_meet_46 : decode cX11_meet 46 = .ok (.iload_n 1, 1) := by decide +kernel
theorem dX11_meet_47 : decode cX11_meet 47 = .ok (.iaload, 1) := by decide +kernel
theorem dX11_meet_48 : decode cX11_meet 48 = .ok (.i2l, 1) := by decide +kernel
theorem dX11_meet_49 : decode cX11_meet 49 = .ok (.aload_n 0, 1) := by decide +kernel
theorem dX11_meet_50 : decode cX11_meet 50 = .ok (.getfield 72, 3) := by decide +kernel
theorem dX11_meet_53 : decode cX11_meet 53 = .ok (.iload_n 2, 1) := by decide +kernel
theorem dX11_meet_54 : decode cX11_meet 54 = .ok (.iaload, 1) := by decide +kernel
theorem dX11_meet_55 : decode cX11_meet 55 = .ok (.i2l, 1) := by decide +kernel
theorem dX11_meet_56 : decode cX11_meet 56 = .ok (.lmul, 1) := by decide +kernel
theorem dX11_meet_57 : decode cX11_meet 57 = .ok (.aload_n 0, 1) := by decide +kernel
theorem dX11_meet_58 : decode cX11_meet 58 = .ok (.getfield 75, 3) := by decide +kernel
theorem dX11_meet_61 : decode cX11_meet 61 = .ok (.iload_n 2, 1) := by decide +kernel
theorem dX11_meet_62 : decode cX11_meet 62 = .ok (.iaload, 1) := by decide +kernel
theorem dX11_meet_63 : decode cX11_meet 63 = .ok (.i2l, 1) := by decide +kernel
theorem dX11_meet_64 : decode cX11_meet 64 = .ok (.aload_n 0, 1) := by decide +kernel
theorem dX11_meet_65 : decode cX11_meet 65 = .ok (.getfield 72, 3) := by decide +kernel
theorem dX11_meet_68 : decode cX11_meet 68 = .ok (.iload_n 1, 1) := by decide +kernel
theorem dX11_meet_69 : decode cX11_meet 69 = .ok (.iaload, 1) := by decide +kernel
theorem dX11_meet_70 : decode cX11_meet 70 = .ok (.i2l, 1) := by decide +kernel
theorem dX11_meet_71 : decode cX11_meet 71 = .ok (.lmul, 1) := by decide +kernel
theorem dX11_meet_72 : decode cX11_meet 72 = .ok (.lsub, 1) := by decide +kernel
theorem dX11_meet_73 : decode cX11_meet 73 = .ok (.lstore 6, 2) := by decide +kernel
theorem dX11_meet_75 : decode cX11_meet 75 = .ok (.aload_n 0, 1) := by decide +kernel
theorem dX11_meet_76 : decode cX11_meet 76 = .ok (.getfield 69, 3) := by decide +kernel
theorem dX11_meet_79 : decode cX11_meet 79 = .ok (.iload_n 1, 1) := by decide +kernel
theorem dX11_meet_80 : decode cX11_meet 80 = .ok (.iaload, 1) := by decide +kernel
theorem dX11_meet_81 : decode cX11_meet 81 = .ok (.i2l, 1) := by decide +kernel
theorem dX11_meet_82 : decode cX11_meet 82 = .ok (.aload_n 0, 1) := by decide +kernel
theorem dX11_meet_83 : decode cX11_meet 83 = .ok (.getfield 75, 3) := by decide +kernel
theorem dX11_meet_86 : decode cX11_meet 86 = .ok (.iload_n 2, 1) := by decide +kernel
theorem dX11_meet_87 : decode cX11_meet 87 = .ok (.iaload, 1) := by decide +kernel
theorem dX11_meet_88 : decode cX11_meet 88 = .ok (.i2l, 1) := by decide +kernel
theorem dX11_meet_89 : decode cX11_meet 89 = .ok (.lmul, 1) := by decide +kernel
theorem dX11_meet_90 : decode cX11_meet 90 = .ok (.aload_n 0, 1) := by decide +kernel
theorem dX11_meet_91 : decode cX11_meet 91 = .ok (.getfield 69, 3) := by decide +kernel
theorem dX11_meet_94 : decode cX11_meet 94 = .ok (.iload_n 2, 1) := by decide +kernel
theorem dX11_meet_95 : decode cX11_meet 95 = .ok (.iaload, 1) := by decide +kernel
theorem dX11_meet_96 : decode cX11_meet 96 = .ok (.i2l, 1) := by decide +kernel
theorem dX11_meet_97 : decode cX11_meet 97 = .ok (.aload_n 0, 1) := by decide +kernel
theorem dX11_meet_98 : decode cX11_meet 98 = .ok (.getfield 75, 3) := by decide +kernel
theorem dX11_meet_101 : decode cX11_meet 101 = .ok (.iload_n 1, 1) := by decide +kernel
theorem dX11_meet_102 : decode cX11_meet 102 = .ok (.iaload, 1) := by decide +kernel
theorem dX11_meet_103 : decode cX11_meet 103 = .ok (.i2l, 1) := by decide +kernel
theorem dX11_meet_104 : decode cX11_meet 104 = .ok (.lmul, 1) := by decide +kernel
theorem dX11_meet_105 : decode cX11_meet 105 = .ok (.lsub, 1) := by decide +kernel
theorem dX11_meet_106 : decode cX11_meet 106 = .ok (.lstore 8, 2) := by decide +kernel
theorem dX11_meet_108 : decode cX11_meet 108 = .ok (.aload_n 0, 1) := by decide +kernel
theorem dX11_meet_109 : decode cX11_meet 109 = .ok (.getfield 69, 3) := by decide +kernel
theorem dX11_meet_112 : decode cX11_meet 112 = .ok (.iload_n 3, 1) := by decide +kernel
theorem dX11_meet_113 : decode cX11_meet 113 = .ok (.iaload, 1) := by decide +kernel
theorem dX11_meet_114 : decode cX11_meet 114 = .ok (.i2l, 1) := by decide +kernel
theorem dX11_meet_115 : decode cX11_meet 115 = .ok (.lload 6, 2) := by decide +kernel
theorem dX11_meet_117 : decode cX11_meet 117 = .ok (.lmul, 1) := by decide +kernel
theorem dX11_meet_118 : decode cX11_meet 118 = .ok (.aload_n 0, 1) := by decide +kernel
theorem dX11_meet_119 : decode cX11_meet 119 = .ok (.getfield 72, 3) := by decide +kernel
theorem dX11_meet_122 : decode cX11_meet 122 = .ok (.iload_n 3, 1) := by decide +kernel
theorem dX11_meet_123 : decode cX11_meet 123 = .ok (.iaload, 1) := by decide +kernel
theorem dX11_meet_124 : decode cX11_meet 124 = .ok (.i2l, 1) := by decide +kernel
theorem dX11_meet_125 : decode cX11_meet 125 = .ok (.lload 8, 2) := by decide +kernel
theorem dX11_meet_127 : decode cX11_meet 127 = .ok (.lmul, 1) := by decide +kernel
theorem dX11_meet_128 : decode cX11_meet 128 = .ok (.ladd, 1) := by decide +kernel
theorem dX11_meet_129 : decode cX11_meet 129 = .ok (.aload_n 0, 1) := by decide +kernel
theorem dX11_meet_130 : decode cX11_meet 130 = .ok (.getfield 75, 3) := by decide +kernel
theorem dX11_meet_133 : decode cX11_meet 133 = .ok (.iload_n 3, 1) := by decide +kernel
theorem dX11_meet_134 : decode cX11_meet 134 = .ok (.iaload, 1) := by decide +kernel
theorem dX11_meet_135 : decode cX11_meet 135 = .ok (.i2l, 1) := by decide +kernel
theorem dX11_meet_136 : decode cX11_meet 136 = .ok (.lload 4, 2) := by decide +kernel
theorem dX11_meet_138 : decode cX11_meet 138 = .ok (.lmul, 1) := by decide +kernel
theorem dX11_meet_139 : decode cX11_meet 139 = .ok (.lcmp, 1) := by decide +kernel
theorem dX11_meet_140 : decode cX11_meet 140 = .ok (.ifCond .ne 7, 3) := by decide +kernel
theorem dX11_meet_143 : decode cX11_meet 143 = .ok (.iconst 1, 1) := by decide +kernel
theorem dX11_meet_144 : decode cX11_meet 144 = .ok (.goto 4, 3) := by decide +kernel
theorem dX11_meet_147 : decode cX11_meet 147 = .ok (.iconst 0, 1) := by decide +kernel
theorem dX11_meet_148 : decode cX11_meet 148 = .ok (.ireturn, 1) := by decide +kernel
theorem dX11_proof_0 : decode cX11_proof 0 = .ok (.iload_n 1, 1) := by decide +kernel
theorem dX11_proof_1 : decode cX11_proof 1 = .ok (.i2l, 1) := by decide +kernel
theorem dX11_proof_2 : decode cX11_proof 2 = .ok (.lconst 0, 1) := by decide +kernel
theorem dX11_proof_3 : decode cX11_proof 3 = .ok (.ldc2_w 331, 3) := by decide +kernel
theorem dX11_proof_6 : decode cX11_proof 6 = .ok (.invokestatic 122, 3) := by decide +kernel
theorem dX11_proof_9 : decode cX11_proof 9 = .ok (.ifCond .ne 5, 3) := by decide +kernel
theorem dX11_proof_12 : decode cX11_proof 12 = .ok (.iconst (-1), 1) := by decide +kernel
theorem dX11_proof_13 : decode cX11_proof 13 = .ok (.ireturn, 1) := by decide +kernel
theorem dX11_proof_14 : decode cX11_proof 14 = .ok (.aload_n 0, 1) := by decide +kernel
theorem dX11_proof_15 : decode cX11_proof 15 = .ok (.invokevirtual 313, 3) := by decide +kernel
theorem dX11_proof_18 : decode cX11_proof 18 = .ok (.aload_n 0, 1) := by decide +kernel
theorem dX11_proof_19 : decode cX11_proof 19 = .ok (.getfield 317, 3) := by decide +kernel
theorem dX11_proof_22 : decode cX11_proof 22 = .ok (.ifCond .le 5, 3) := by decide +kernel
theorem dX11_proof_25 : decode cX11_proof 25 = .ok (.iconst (-1), 1) := by decide +kernel
theorem dX11_proof_26 : decode cX11_proof 26 = .ok (.ireturn, 1) := by decide +kernel
theorem dX11_proof_27 : decode cX11_proof 27 = .ok (.iconst 0, 1) := by decide +kernel
theorem dX11_proof_28 : decode cX11_proof 28 = .ok (.istore_n 2, 1) := by decide +kernel
theorem dX11_proof_29 : decode cX11_proof 29 = .ok (.iload_n 2, 1) := by decide +kernel
theorem dX11_proof_30 : decode cX11_proof 30 = .ok (.aload_n 0, 1) := by decide +kernel
theorem dX11_proof_31 : decode cX11_proof 31 = .ok (.getfield 288, 3) := by decide +kernel
theorem dX11_proof_34 : decode cX11_proof 34 = .ok (.if_icmp .ge 78, 3) := by decide +kernel
theorem dX11_proof_37 : decode cX11_proof 37 = .ok (.iload_n 2, 1) := by decide +kernel
theorem dX11_proof_38 : decode cX11_proof 38 = .ok (.iconst 1, 1) := by decide +kernel
theorem dX11_proof_39 : decode cX11_proof 39 = .ok (.iadd, 1) := by decide +kernel
theorem dX11_proof_40 : decode cX11_proof 40 = .ok (.istore_n 3, 1) := by decide +kernel
theorem dX11_proof_41 : decode cX11_proof 41 = .ok (.iload_n 3, 1) := by decide +kernel
theorem dX11_proof_42 : decode cX11_proof 42 = .ok (.aload_n 0, 1) := by decide +kernel
theorem dX11_proof_43 : decode cX11_proof 43 = .ok (.getfield 288, 3) := by decide +kernel
theorem dX11_proof_46 : decode cX11_proof 46 = .ok (.if_icmp .ge 60, 3) := by decide +kernel
theorem dX11_proof_49 : decode cX11_proof 49 = .ok (.iload_n 3, 1) := by decide +kernel
theorem dX11_proof_50 : decode cX11_proof 50 = .ok (.iconst 1, 1) := by decide +kernel
theorem dX11_proof_51 : decode cX11_proof 51 = .ok (.iadd, 1) := by decide +kernel
theorem dX11_proof_52 : decode cX11_proof 52 = .ok (.istore 4, 2) := by decide +kernel
theorem dX11_proof_54 : decode cX11_proof 54 = .ok (.iload 4, 2) := by decide +kernel
theorem dX11_proof_56 : decode cX11_proof 56 = .ok (.aload_n 0, 1) := by decide +kernel
theorem dX11_proof_57 : decode cX11_proof 57 = .ok (.getfield 288, 3) := by decide +kernel
theorem dX11_proof_60 : decode cX11_proof 60 = .ok (.if_icmp .ge 40, 3) := by decide +kernel
theorem dX11_proof_63 : decode cX11_proof 63 = .ok (.aload_n 0, 1) := by decide +kernel
theorem dX11_proof_64 : decode cX11_proof 64 = .ok (.iload_n 2, 1) := by decide +kernel
theorem dX11_proof_65 : decode cX11_proof 65 = .ok (.iload_n 3, 1) := by decide +kernel
theorem dX11_proof_66 : decode cX11_proof 66 = .ok (.iload 4, 2) := by decide +kernel
theorem dX11_proof_68 : decode cX11_proof 68 = .ok (.invokevirtual 333, 3) := by decide +kernel
theorem dX11_proof_71 : decode cX11_proof 71 = .ok (.ifCond .ne 23, 3) := by decide +kernel
theorem dX11_proof_74 : decode cX11_proof 74 = .ok (.iload_n 1, 1) := by decide +kernel
theorem dX11_proof_75 : decode cX11_proof 75 = .ok (.ifCond .ne 7, 3) := by decide +kernel
theorem dX11_proof_78 : decode cX11_proof 78 = .ok (.iload_n 2, 1) := by decide +kernel
theorem dX11_proof_79 : decode cX11_proof 79 = .ok (.goto 14, 3) := by decide +kernel
theorem dX11_proof_82 : decode cX11_proof 82 = .ok (.iload_n 1, 1) := by decide +kernel
theorem dX11_proof_83 : decode cX11_proof 83 = .ok (.iconst 1, 1) := by decide +kernel
theorem dX11_proof_84 : decode cX11_proof 84 = .ok (.if_icmp .ne 7, 3) := by decide +kernel
theorem dX11_proof_87 : decode cX11_proof 87 = .ok (.iload_n 3, 1) := by decide +kernel
theorem dX11_proof_88 : decode cX11_proof 88 = .ok (.goto 5, 3) := by decide +kernel
theorem dX11_proof_91 : decode cX11_proof 91 = .ok (.iload 4, 2) := by decide +kernel
theorem dX11_proof_93 : decode cX11_proof 93 = .ok (.ireturn, 1) := by decide +kernel
theorem dX11_proof_94 : decode cX11_proof 94 = .ok (.iinc 4 1, 3) := by decide +kernel
theorem dX11_proof_97 : decode cX11_proof 97 = .ok (.goto (-43), 3) := by decide +kernel
theorem dX11_proof_100 : decode cX11_proof 100 = .ok (.iinc 3 1, 3) := by decide +kernel
theorem dX11_proof_103 : decode cX11_proof 103 = .ok (.goto (-62), 3) := by decide +kernel
theorem dX11_proof_106 : decode cX11_proof 106 = .ok (.iinc 2 1, 3) := by decide +kernel
theorem dX11_proof_109 : decode cX11_proof 109 = .ok (.goto (-80), 3) := by decide +kernel
theorem dX11_proof_112 : decode cX11_proof 112 = .ok (.iconst (-1), 1) := by decide +kernel
theorem dX11_proof_113 : decode cX11_proof 113 = .ok (.ireturn, 1) := by decide +kernel
theorem dX11_far_0 : decode cX11_far 0 = .ok (.aload_n 0, 1) := by decide +kernel
theorem dX11_far_1 : decode cX11_far 1 = .ok (.lconst 0, 1) := by decide +kernel
theorem dX11_far_2 : decode cX11_far 2 = .ok (.putfield 336, 3) := by decide +kernel
theorem dX11_far_5 : decode cX11_far 5 = .ok (.aload_n 0, 1) := by decide +kernel
theorem dX11_far_6 : decode cX11_far 6 = .ok (.lconst 1, 1) := by decide +kernel
theorem dX11_far_7 : decode cX11_far 7 = .ok (.putfield 340, 3) := by decide +kernel
theorem dX11_far_10 : decode cX11_far 10 = .ok (.iconst 0, 1) := by decide +kernel
theorem dX11_far_11 : decode cX11_far 11 = .ok (.istore_n 3, 1) := by decide +kernel
theorem dX11_far_12 : decode cX11_far 12 = .ok (.iload_n 3, 1) := by decide +kernel
theorem dX11_far_13 : decode cX11_far 13 = .ok (.aload_n 0, 1) := by decide +kernel
theorem dX11_far_14 : decode cX11_far 14 = .ok (.getfield 288, 3) := by decide +kernel
theorem dX11_far_17 : decode cX11_far 17 = .ok (.if_icmp .ge 112, 3) := by decide +kernel
theorem dX11_far_20 : decode cX11_far 20 = .ok (.aload_n 0, 1) := by decide +kernel
theorem dX11_far_21 : decode cX11_far 21 = .ok (.getfield 69, 3) := by decide +kernel
theorem dX11_far_24 : decode cX11_far 24 = .ok (.iload_n 3, 1) := by decide +kernel
theorem dX11_far_25 : decode cX11_far 25 = .ok (.iaload, 1) := by decide +kernel
theorem dX11_far_26 : decode cX11_far 26 = .ok (.i2l, 1) := by decide +kernel
theorem dX11_far_27 : decode cX11_far 27 = .ok (.iload_n 1, 1) := by decide +kernel
theorem dX11_far_28 : decode cX11_far 28 = .ok (.i2l, 1) := by decide +kernel
theorem dX11_far_29 : decode cX11_far 29 = .ok (.lmul, 1) := by decide +kernel
theorem dX11_far_30 : decode cX11_far 30 = .ok (.aload_n 0, 1) := by decide +kernel
theorem dX11_far_31 : decode cX11_far 31 = .ok (.getfield 72, 3) := by decide +kernel
theorem dX11_far_34 : decode cX11_far 34 = .ok (.iload_n 3, 1) := by decide +kernel
theorem dX11_far_35 : decode cX11_far 35 = .ok (.iaload, 1) := by decide +kernel
theorem dX11_far_36 : decode cX11_far 36 = .ok (.i2l, 1) := by decide +kernel
theorem dX11_far_37 : decode cX11_far 37 = .ok (.iload_n 2, 1) := by decide +kernel
theorem dX11_far_38 : decode cX11_far 38 = .ok (.i2l, 1) := by decide +kernel
theorem dX11_far_39 : decode cX11_far 39 = .ok (.lmul, 1) := by decide +kernel
theorem dX11_far_40 : decode cX11_far 40 = .ok (.ladd, 1) := by decide +kernel
theorem dX11_far_41 : decode cX11_far 41 = .ok (.aload_n 0, 1) := by decide +kernel
theorem dX11_far_42 : decode cX11_far 42 = .ok (.getfield 75, 3) := by decide +kernel
theorem dX11_far_45 : decode cX11_far 45 = .ok (.iload_n 3, 1) := by decide +kernel
theorem dX11_far_46 : decode cX11_far 46 = .ok (.iaload, 1) := by decide +kernel
theorem dX11_far_47 : decode cX11_far 47 = .ok (.i2l, 1) := by decide +kernel
theorem dX11_far_48 : decode cX11_far 48 = .ok (.lsub, 1) := by decide +kernel
theorem dX11_far_49 : decode cX11_far 49 = .ok (.lstore 4, 2) := by decide +kernel
theorem dX11_far_51 : decode cX11_far 51 = .ok (.aload_n 0, 1) := by decide +kernel
theorem dX11_far_52 : decode cX11_far 52 = .ok (.getfield 69, 3) := by decide +kernel
theorem dX11_far_55 : decode cX11_far 55 = .ok (.iload_n 3, 1) := by decide +kernel
theorem dX11_far_56 : decode cX11_far 56 = .ok (.iaload, 1) := by decide +kernel
theorem dX11_far_57 : decode cX11_far 57 = .ok (.i2l, 1) := by decide +kernel
theorem dX11_far_58 : decode cX11_far 58 = .ok (.aload_n 0, 1) := by decide +kernel
theorem dX11_far_59 : decode cX11_far 59 = .ok (.getfield 69, 3) := by decide +kernel
theorem dX11_far_62 : decode cX11_far 62 = .ok (.iload_n 3, 1) := by decide +kernel
theorem dX11_far_63 : decode cX11_far 63 = .ok (.iaload, 1) := by decide +kernel
theorem dX11_far_64 : decode cX11_far 64 = .ok (.i2l, 1) := by decide +kernel
theorem dX11_far_65 : decode cX11_far 65 = .ok (.lmul, 1) := by decide +kernel
theorem dX11_far_66 : decode cX11_far 66 = .ok (.aload_n 0, 1) := by decide +kernel
theorem dX11_far_67 : decode cX11_far 67 = .ok (.getfield 72, 3) := by decide +kernel
theorem dX11_far_70 : decode cX11_far 70 = .ok (.iload_n 3, 1) := by decide +kernel
theorem dX11_far_71 : decode cX11_far 71 = .ok (.iaload, 1) := by decide +kernel
theorem dX11_far_72 : decode cX11_far 72 = .ok (.i2l, 1) := by decide +kernel
theorem dX11_far_73 : decode cX11_far 73 = .ok (.aload_n 0, 1) := by decide +kernel
theorem dX11_far_74 : decode cX11_far 74 = .ok (.getfield 72, 3) := by decide +kernel
theorem dX11_far_77 : decode cX11_far 77 = .ok (.iload_n 3, 1) := by decide +kernel
theorem dX11_far_78 : decode cX11_far 78 = .ok (.iaload, 1) := by decide +kernel
theorem dX11_far_79 : decode cX11_far 79 = .ok (.i2l, 1) := by decide +kernel
theorem dX11_far_80 : decode cX11_far 80 = .ok (.lmul, 1) := by decide +kernel
theorem dX11_far_81 : decode cX11_far 81 = .ok (.ladd, 1) := by decide +kernel
theorem dX11_far_82 : decode cX11_far 82 = .ok (.lstore 6, 2) := by decide +kernel
theorem dX11_far_84 : decode cX11_far 84 = .ok (.lload 4, 2) := by decide +kernel
theorem dX11_far_86 : decode cX11_far 86 = .ok (.lload 4, 2) := by decide +kernel
theorem dX11_far_88 : decode cX11_far 88 = .ok (.lmul, 1) := by decide +kernel
theorem dX11_far_89 : decode cX11_far 89 = .ok (.aload_n 0, 1) := by decide +kernel
theorem dX11_far_90 : decode cX11_far 90 = .ok (.getfield 340, 3) := by decide +kernel
theorem dX11_far_93 : decode cX11_far 93 = .ok (.lmul, 1) := by decide +kernel
theorem dX11_far_94 : decode cX11_far 94 = .ok (.aload_n 0, 1) := by decide +kernel
theorem dX11_far_95 : decode cX11_far 95 = .ok (.getfield 336, 3) := by decide +kernel
theorem dX11_far_98 : decode cX11_far 98 = .ok (.lload 6, 2) := by decide +kernel
theorem dX11_far_100 : decode cX11_far 100 = .ok (.lmul, 1) := by decide +kernel
theorem dX11_far_101 : decode cX11_far 101 = .ok (.lcmp, 1) := by decide +kernel
theorem dX11_far_102 : decode cX11_far 102 = .ok (.ifCond .gt 6, 3) := by decide +kernel
theorem dX11_far_105 : decode cX11_far 105 = .ok (.goto 18, 3) := by decide +kernel
theorem dX11_far_108 : decode cX11_far 108 = .ok (.aload_n 0, 1) := by decide +kernel
theorem dX11_far_109 : decode cX11_far 109 = .ok (.lload 4, 2) := by decide +kernel
theorem dX11_far_111 : decode cX11_far 111 = .ok (.lload 4, 2) := by decide +kernel
theorem dX11_far_113 : decode cX11_far 113 = .ok (.lmul, 1) := by decide +kernel
theorem dX11_far_114 : decode cX11_far 114 = .ok (.putfield 336, 3) := by decide +kernel
theorem dX11_far_117 : decode cX11_far 117 = .ok (.aload_n 0, 1) := by decide +kernel
theorem dX11_far_118 : decode cX11_far 118 = .ok (.lload 6, 2) := by decide +kernel
theorem dX11_far_120 : decode cX11_far 120 = .ok (.putfield 340, 3) := by decide +kernel
theorem dX11_far_123 : decode cX11_far 123 = .ok (.iinc 3 1, 3) := by decide +kernel
theorem dX11_far_126 : decode cX11_far 126 = .ok (.goto (-114), 3) := by decide +kernel
theorem dX11_far_129 : decode cX11_far 129 = .ok (.return_, 1) := by decide +kernel
theorem dX11_round_0 : decode cX11_round 0 = .ok (.aload_n 0, 1) := by decide +kernel
theorem dX11_round_1 : decode cX11_round 1 = .ok (.invokevirtual 237, 3) := by decide +kernel
theorem dX11_round_4 : decode cX11_round 4 = .ok (.ifCond .eq 15, 3) := by decide +kernel
theorem dX11_round_7 : decode cX11_round 7 = .ok (.iload_n 1, 1) := by decide +kernel
theorem dX11_round_8 : decode cX11_round 8 = .ok (.i2l, 1) := by decide +kernel
theorem dX11_round_9 : decode cX11_round 9 = .ok (.lconst 0, 1) := by decide +kernel
theorem dX11_round_10 : decode cX11_round 10 = .ok (.ldc2_w 343, 3) := by decide +kernel
theorem dX11_round_13 : decode cX11_round 13 = .ok (.invokestatic 122, 3) := by decide +kernel
theorem dX11_round_16 : decode cX11_round 16 = .ok (.ifCond .ne 5, 3) := by decide +kernel
theorem dX11_round_19 : decode cX11_round 19 = .ok (.iconst (-1), 1) := by decide +kernel
theorem dX11_round_20 : decode cX11_round 20 = .ok (.ireturn, 1) := by decide +kernel
theorem dX11_round_21 : decode cX11_round 21 = .ok (.aload_n 0, 1) := by decide +kernel
theorem dX11_round_22 : decode cX11_round 22 = .ok (.invokevirtual 313, 3) := by decide +kernel
theorem dX11_round_25 : decode cX11_round 25 = .ok (.iconst 0, 1) := by decide +kernel
theorem dX11_round_26 : decode cX11_round 26 = .ok (.istore_n 2, 1) := by decide +kernel
theorem dX11_round_27 : decode cX11_round 27 = .ok (.aload_n 0, 1) := by decide +kernel
theorem dX11_round_28 : decode cX11_round 28 = .ok (.iconst 0, 1) := by decide +kernel
theorem dX11_round_29 : decode cX11_round 29 = .ok (.iconst 0, 1) := by decide +kernel
theorem dX11_round_30 : decode cX11_round 30 = .ok (.invokevirtual 345, 3) := by decide +kernel
theorem dX11_round_33 : decode cX11_round 33 = .ok (.aload_n 0, 1) := by decide +kernel
theorem dX11_round_34 : decode cX11_round 34 = .ok (.getfield 336, 3) := by decide +kernel
theorem dX11_round_37 : decode cX11_round 37 = .ok (.lstore_n 3, 1) := by decide +kernel
theorem dX11_round_38 : decode cX11_round 38 = .ok (.aload_n 0, 1) := by decide +kernel
theorem dX11_round_39 : decode cX11_round 39 = .ok (.getfield 340, 3) := by decide +kernel
theorem dX11_round_42 : decode cX11_round 42 = .ok (.lstore 5, 2) := by decide +kernel
theorem dX11_round_44 : decode cX11_round 44 = .ok (.iconst 1, 1) := by decide +kernel
theorem dX11_round_45 : decode cX11_round 45 = .ok (.istore 7, 2) := by decide +kernel
theorem dX11_round_47 : decode cX11_round 47 = .ok (.iload 7, 2) := by decide +kernel
theorem dX11_round_49 : decode cX11_round 49 = .ok (.sipush 10000, 3) := by decide +kernel
theorem dX11_round_52 : decode cX11_round 52 = .ok (.if_icmp .ge 57, 3) := by decide +kernel
theorem dX11_round_55 : decode cX11_round 55 = .ok (.aload_n 0, 1) := by decide +kernel
theorem dX11_round_56 : decode cX11_round 56 = .ok (.iload 7, 2) := by decide +kernel
theorem dX11_round_58 : decode cX11_round 58 = .ok (.bipush 100, 2) := by decide +kernel
theorem dX11_round_60 : decode cX11_round 60 = .ok (.idiv, 1) := by decide +kernel
theorem dX11_round_61 : decode cX11_round 61 = .ok (.iload 7, 2) := by decide +kernel
theorem dX11_round_63 : decode cX11_round 63 = .ok (.bipush 100, 2) := by decide +kernel
theorem dX11_round_65 : decode cX11_round 65 = .ok (.irem, 1) := by decide +kernel
theorem dX11_round_66 : decode cX11_round 66 = .ok (.invokevirtual 345, 3) := by decide +kernel
theorem dX11_round_69 : decode cX11_round 69 = .ok (.aload_n 0, 1) := by decide +kernel
theorem dX11_round_70 : decode cX11_round 70 = .ok (.getfield 336, 3) := by decide +kernel
theorem dX11_round_73 : decode cX11_round 73 = .ok (.lload 5, 2) := by decide +kernel
theorem dX11_round_75 : decode cX11_round 75 = .ok (.lmul, 1) := by decide +kernel
theorem dX11_round_76 : decode cX11_round 76 = .ok (.lload_n 3, 1) := by decide +kernel
theorem dX11_round_77 : decode cX11_round 77 = .ok (.aload_n 0, 1) := by decide +kernel
theorem dX11_round_78 : decode cX11_round 78 = .ok (.getfield 340, 3) := by decide +kernel
theorem dX11_round_81 : decode cX11_round 81 = .ok (.lmul, 1) := by decide +kernel
theorem dX11_round_82 : decode cX11_round 82 = .ok (.lcmp, 1) := by decide +kernel
theorem dX11_round_83 : decode cX11_round 83 = .ok (.ifCond .lt 6, 3) := by decide +kernel
theorem dX11_round_86 : decode cX11_round 86 = .ok (.goto 17, 3) := by decide +kernel
theorem dX11_round_89 : decode cX11_round 89 = .ok (.iload 7, 2) := by decide +kernel
theorem dX11_round_91 : decode cX11_round 91 = .ok (.istore_n 2, 1) := by decide +kernel
theorem dX11_round_92 : decode cX11_round 92 = .ok (.aload_n 0, 1) := by decide +kernel
theorem dX11_round_93 : decode cX11_round 93 = .ok (.getfield 336, 3) := by decide +kernel
theorem dX11_round_96 : decode cX11_round 96 = .ok (.lstore_n 3, 1) := by decide +kernel
theorem dX11_round_97 : decode cX11_round 97 = .ok (.aload_n 0, 1) := by decide +kernel
theorem dX11_round_98 : decode cX11_round 98 = .ok (.getfield 340, 3) := by decide +kernel
theorem dX11_round_101 : decode cX11_round 101 = .ok (.lstore 5, 2) := by decide +kernel
theorem dX11_round_103 : decode cX11_round 103 = .ok (.iinc 7 1, 3) := by decide +kernel
theorem dX11_round_106 : decode cX11_round 106 = .ok (.goto (-59), 3) := by decide +kernel
theorem dX11_round_109 : decode cX11_round 109 = .ok (.lload_n 3, 1) := by decide +kernel
theorem dX11_round_110 : decode cX11_round 110 = .ok (.lload 5, 2) := by decide +kernel
theorem dX11_round_112 : decode cX11_round 112 = .ok (.invokestatic 294, 3) := by decide +kernel
theorem dX11_round_115 : decode cX11_round 115 = .ok (.lstore 7, 2) := by decide +kernel
theorem dX11_round_117 : decode cX11_round 117 = .ok (.iload_n 1, 1) := by decide +kernel
theorem dX11_round_118 : decode cX11_round 118 = .ok (.ifCond .ne 10, 3) := by decide +kernel
theorem dX11_round_121 : decode cX11_round 121 = .ok (.iload_n 2, 1) := by decide +kernel
theorem dX11_round_122 : decode cX11_round 122 = .ok (.bipush 100, 2) := by decide +kernel
theorem dX11_round_124 : decode cX11_round 124 = .ok (.idiv, 1) := by decide +kernel
theorem dX11_round_125 : decode cX11_round 125 = .ok (.goto 30, 3) := by decide +kernel
theorem dX11_round_128 : decode cX11_round 128 = .ok (.iload_n 1, 1) := by decide +kernel
theorem dX11_round_129 : decode cX11_round 129 = .ok (.iconst 1, 1) := by decide +kernel
theorem dX11_round_130 : decode cX11_round 130 = .ok (.if_icmp .ne 10, 3) := by decide +kernel
theorem dX11_round_133 : decode cX11_round 133 = .ok (.iload_n 2, 1) := by decide +kernel
theorem dX11_round_134 : decode cX11_round 134 = .ok (.bipush 100, 2) := by decide +kernel
theorem dX11_round_136 : decode cX11_round 136 = .ok (.irem, 1) := by decide +kernel
theorem dX11_round_137 : decode cX11_round 137 = .ok (.goto 18, 3) := by decide +kernel
theorem dX11_round_140 : decode cX11_round 140 = .ok (.iload_n 1, 1) := by decide +kernel
theorem dX11_round_141 : decode cX11_round 141 = .ok (.iconst 2, 1) := by decide +kernel
theorem dX11_round_142 : decode cX11_round 142 = .ok (.if_icmp .ne 7, 3) := by decide +kernel
theorem dX11_round_145 : decode cX11_round 145 = .ok (.lload_n 3, 1) := by decide +kernel
theorem dX11_round_146 : decode cX11_round 146 = .ok (.goto 5, 3) := by decide +kernel
theorem dX11_round_149 : decode cX11_round 149 = .ok (.lload 5, 2) := by decide +kernel
theorem dX11_round_151 : decode cX11_round 151 = .ok (.lload 7, 2) := by decide +kernel
theorem dX11_round_153 : decode cX11_round 153 = .ok (.ldiv, 1) := by decide +kernel
theorem dX11_round_154 : decode cX11_round 154 = .ok (.l2i, 1) := by decide +kernel
theorem dX11_round_155 : decode cX11_round 155 = .ok (.ireturn, 1) := by decide +kernel
theorem dX11_floods_0 : decode cX11_floods 0 = .ok (.iconst 1, 1) := by decide +kernel
theorem dX11_floods_1 : decode cX11_floods 1 = .ok (.istore_n 3, 1) := by decide +kernel
theorem dX11_floods_2 : decode cX11_floods 2 = .ok (.aload_n 0, 1) := by decide +kernel
theorem dX11_floods_3 : decode cX11_floods 3 = .ok (.getfield 91, 3) := by decide +kernel
theorem dX11_floods_6 : decode cX11_floods 6 = .ok (.iconst 0, 1) := by decide +kernel
theorem dX11_floods_7 : decode cX11_floods 7 = .ok (.iload_n 1, 1) := by decide +kernel
theorem dX11_floods_8 : decode cX11_floods 8 = .ok (.iastore, 1) := by decide +kernel
theorem dX11_floods_9 : decode cX11_floods 9 = .ok (.aload_n 0, 1) := by decide +kernel
theorem dX11_floods_10 : decode cX11_floods 10 = .ok (.getfield 88, 3) := by decide +kernel
theorem dX11_floods_13 : decode cX11_floods 13 = .ok (.iload_n 1, 1) := by decide +kernel
theorem dX11_floods_14 : decode cX11_floods 14 = .ok (.iload_n 2, 1) := by decide +kernel
theorem dX11_floods_15 : decode cX11_floods 15 = .ok (.iastore, 1) := by decide +kernel
theorem dX11_floods_16 : decode cX11_floods 16 = .ok (.iconst 0, 1) := by decide +kernel
theorem dX11_floods_17 : decode cX11_floods 17 = .ok (.istore 4, 2) := by decide +kernel
theorem dX11_floods_19 : decode cX11_floods 19 = .ok (.iload 4, 2) := by decide +kernel
theorem dX11_floods_21 : decode cX11_floods 21 = .ok (.iload_n 3, 1) := by decide +kernel
theorem dX11_floods_22 : decode cX11_floods 22 = .ok (.if_icmp .ge 169, 3) := by decide +kernel
theorem dX11_floods_25 : decode cX11_floods 25 = .ok (.aload_n 0, 1) := by decide +kernel
theorem dX11_floods_26 : decode cX11_floods 26 = .ok (.getfield 91, 3) := by decide +kernel
theorem dX11_floods_29 : decode cX11_floods 29 = .ok (.iload 4, 2) := by decide +kernel
theorem dX11_floods_31 : decode cX11_floods 31 = .ok (.iaload, 1) := by decide +kernel
theorem dX11_floods_32 : decode cX11_floods 32 = .ok (.bipush 100, 2) := by decide +kernel
theorem dX11_floods_34 : decode cX11_floods 34 = .ok (.idiv, 1) := by decide +kernel
theorem dX11_floods_35 : decode cX11_floods 35 = .ok (.istore 5, 2) := by decide +kernel
theorem dX11_floods_37 : decode cX11_floods 37 = .ok (.aload_n 0, 1) := by decide +kernel
theorem dX11_floods_38 : decode cX11_floods 38 = .ok (.getfield 91, 3) := by decide +kernel
theorem dX11_floods_41 : decode cX11_floods 41 = .ok (.iload 4, 2) := by decide +kernel
theorem dX11_floods_43 : decode cX11_floods 43 = .ok (.iaload, 1) := by decide +kernel
theorem dX11_floods_44 : decode cX11_floods 44 = .ok (.bipush 100, 2) := by decide +kernel
theorem dX11_floods_46 : decode cX11_floods 46 = .ok (.irem, 1) := by decide +kernel
theorem dX11_floods_47 : decode cX11_floods 47 = .ok (.istore 6, 2) := by decide +kernel
theorem dX11_floods_49 : decode cX11_floods 49 = .ok (.iconst 0, 1) := by decide +kernel
theorem dX11_floods_50 : decode cX11_floods 50 = .ok (.istore 7, 2) := by decide +kernel
theorem dX11_floods_52 : decode cX11_floods 52 = .ok (.iload 7, 2) := by decide +kernel
theorem dX11_floods_54 : decode cX11_floods 54 = .ok (.iconst 4, 1) := by decide +kernel
theorem dX11_floods_55 : decode cX11_floods 55 = .ok (.if_icmp .ge 130, 3) := by decide +kernel
theorem dX11_floods_58 : decode cX11_floods 58 = .ok (.iload 7, 2) := by decide +kernel
theorem dX11_floods_60 : decode cX11_floods 60 = .ok (.ifCond .ne 10, 3) := by decide +kernel
theorem dX11_floods_63 : decode cX11_floods 63 = .ok (.iload 5, 2) := by decide +kernel
theorem dX11_floods_65 : decode cX11_floods 65 = .ok (.iconst 1, 1) := by decide +kernel
theorem dX11_floods_66 : decode cX11_floods 66 = .ok (.isub, 1) := by decide +kernel
theorem dX11_floods_67 : decode cX11_floods 67 = .ok (.goto 18, 3) := by decide +kernel
theorem dX11_floods_70 : decode cX11_floods 70 = .ok (.iload 7, 2) := by decide +kernel
theorem dX11_floods_72 : decode cX11_floods 72 = .ok (.iconst 1, 1) := by decide +kernel
theorem dX11_floods_73 : decode cX11_floods 73 = .ok (.if_icmp .ne 10, 3) := by decide +kernel
theorem dX11_floods_76 : decode cX11_floods 76 = .ok (.iload 5, 2) := by decide +kernel
theorem dX11_floods_78 : decode cX11_floods 78 = .ok (.iconst 1, 1) := by decide +kernel
theorem dX11_floods_79 : decode cX11_floods 79 = .ok (.iadd, 1) := by decide +kernel
theorem dX11_floods_80 : decode cX11_floods 80 = .ok (.goto 5, 3) := by decide +kernel
theorem dX11_floods_83 : decode cX11_floods 83 = .ok (.iload 5, 2) := by decide +kernel
theorem dX11_floods_85 : decode cX11_floods 85 = .ok (.istore 8, 2) := by decide +kernel
theorem dX11_floods_87 : decode cX11_floods 87 = .ok (.iload 7, 2) := by decide +kernel
theorem dX11_floods_89 : decode cX11_floods 89 = .ok (.iconst 2, 1) := by decide +kernel
theorem dX11_floods_90 : decode cX11_floods 90 = .ok (.if_icmp .ne 10, 3) := by decide +kernel
theorem dX11_floods_93 : decode cX11_floods 93 = .ok (.iload 6, 2) := by decide +kernel
theorem dX11_floods_95 : decode cX11_floods 95 = .ok (.iconst 1, 1) := by decide +kernel
theorem dX11_floods_96 : decode cX11_floods 96 = .ok (.isub, 1) := by decide +kernel
theorem dX11_floods_97 : decode cX11_floods 97 = .ok (.goto 18, 3) := by decide +kernel
theorem dX11_floods_100 : decode cX11_floods 100 = .ok (.iload 7, 2) := by decide +kernel
theorem dX11_floods_102 : decode cX11_floods 102 = .ok (.iconst 3, 1) := by decide +kernel
theorem dX11_floods_103 : decode cX11_floods 103 = .ok (.if_icmp .ne 10, 3) := by decide +kernel
theorem dX11_floods_106 : decode cX11_floods 106 = .ok (.iload 6, 2) := by decide +kernel
theorem dX11_floods_108 : decode cX11_floods 108 = .ok (.iconst 1, 1) := by decide +kernel
theorem dX11_floods_109 : decode cX11_floods 109 = .ok (.iadd, 1) := by decide +kernel
theorem dX11_floods_110 : decode cX11_floods 110 = .ok (.goto 5, 3) := by decide +kernel
theorem dX11_floods_113 : decode cX11_floods 113 = .ok (.iload 6, 2) := by decide +kernel
theorem dX11_floods_115 : decode cX11_floods 115 = .ok (.istore 9, 2) := by decide +kernel
theorem dX11_floods_117 : decode cX11_floods 117 = .ok (.iload 8, 2) := by decide +kernel
theorem dX11_floods_119 : decode cX11_floods 119 = .ok (.iload 9, 2) := by decide +kernel
theorem dX11_floods_121 : decode cX11_floods 121 = .ok (.invokestatic 251, 3) := by decide +kernel
theorem dX11_floods_124 : decode cX11_floods 124 = .ok (.ifCond .eq 55, 3) := by decide +kernel
theorem dX11_floods_127 : decode cX11_floods 127 = .ok (.aload_n 0, 1) := by decide +kernel
theorem dX11_floods_128 : decode cX11_floods 128 = .ok (.getfield 88, 3) := by decide +kernel
theorem dX11_floods_131 : decode cX11_floods 131 = .ok (.bipush 100, 2) := by decide +kernel
theorem dX11_floods_133 : decode cX11_floods 133 = .ok (.iload 8, 2) := by decide +kernel
theorem dX11_floods_135 : decode cX11_floods 135 = .ok (.imul, 1) := by decide +kernel
theorem dX11_floods_136 : decode cX11_floods 136 = .ok (.iload 9, 2) := by decide +kernel
theorem dX11_floods_138 : decode cX11_floods 138 = .ok (.iadd, 1) := by decide +kernel
theorem dX11_floods_139 : decode cX11_floods 139 = .ok (.iaload, 1) := by decide +kernel
theorem dX11_floods_140 : decode cX11_floods 140 = .ok (.bipush (-2), 2) := by decide +kernel
theorem dX11_floods_142 : decode cX11_floods 142 = .ok (.if_icmp .eq 6, 3) := by decide +kernel
theorem dX11_floods_145 : decode cX11_floods 145 = .ok (.goto 34, 3) := by decide +kernel
theorem dX11_floods_148 : decode cX11_floods 148 = .ok (.aload_n 0, 1) := by decide +kernel
theorem dX11_floods_149 : decode cX11_floods 149 = .ok (.getfield 88, 3) := by decide +kernel
theorem dX11_floods_152 : decode cX11_floods 152 = .ok (.bipush 100, 2) := by decide +kernel
theorem dX11_floods_154 : decode cX11_floods 154 = .ok (.iload 8, 2) := by decide +kernel
theorem dX11_floods_156 : decode cX11_floods 156 = .ok (.imul, 1) := by decide +kernel
theorem dX11_floods_157 : decode cX11_floods 157 = .ok (.iload 9, 2) := by decide +kernel
theorem dX11_floods_159 : decode cX11_floods 159 = .ok (.iadd, 1) := by decide +kernel
theorem dX11_floods_160 : decode cX11_floods 160 = .ok (.iload_n 2, 1) := by decide +kernel
theorem dX11_floods_161 : decode cX11_floods 161 = .ok (.iastore, 1) := by decide +kernel
theorem dX11_floods_162 : decode cX11_floods 162 = .ok (.aload_n 0, 1) := by decide +kernel
theorem dX11_floods_163 : decode cX11_floods 163 = .ok (.getfield 91, 3) := by decide +kernel
theorem dX11_floods_166 : decode cX11_floods 166 = .ok (.iload_n 3, 1) := by decide +kernel
theorem dX11_floods_167 : decode cX11_floods 167 = .ok (.bipush 100, 2) := by decide +kernel
theorem dX11_floods_169 : decode cX11_floods 169 = .ok (.iload 8, 2) := by decide +kernel
theorem dX11_floods_171 : decode cX11_floods 171 = .ok (.imul, 1) := by decide +kernel
theorem dX11_floods_172 : decode cX11_floods 172 = .ok (.iload 9, 2) := by decide +kernel
theorem dX11_floods_174 : decode cX11_floods 174 = .ok (.iadd, 1) := by decide +kernel
theorem dX11_floods_175 : decode cX11_floods 175 = .ok (.iastore, 1) := by decide +kernel
theorem dX11_floods_176 : decode cX11_floods 176 = .ok (.iinc 3 1, 3) := by decide +kernel
theorem dX11_floods_179 : decode cX11_floods 179 = .ok (.iinc 7 1, 3) := by decide +kernel
theorem dX11_floods_182 : decode cX11_floods 182 = .ok (.goto (-130), 3) := by decide +kernel
theorem dX11_floods_185 : decode cX11_floods 185 = .ok (.iinc 4 1, 3) := by decide +kernel
theorem dX11_floods_188 : decode cX11_floods 188 = .ok (.goto (-169), 3) := by decide +kernel
theorem dX11_floods_191 : decode cX11_floods 191 = .ok (.return_, 1) := by decide +kernel
theorem dX11_finds_0 : decode cX11_finds 0 = .ok (.aload_n 0, 1) := by decide +kernel
theorem dX11_finds_1 : decode cX11_finds 1 = .ok (.iconst 0, 1) := by decide +kernel
theorem dX11_finds_2 : decode cX11_finds 2 = .ok (.putfield 348, 3) := by decide +kernel
theorem dX11_finds_5 : decode cX11_finds 5 = .ok (.aload_n 0, 1) := by decide +kernel
theorem dX11_finds_6 : decode cX11_finds 6 = .ok (.iconst 0, 1) := by decide +kernel
theorem dX11_finds_7 : decode cX11_finds 7 = .ok (.putfield 351, 3) := by decide +kernel
theorem dX11_finds_10 : decode cX11_finds 10 = .ok (.iconst 0, 1) := by decide +kernel
theorem dX11_finds_11 : decode cX11_finds 11 = .ok (.istore_n 3, 1) := by decide +kernel
theorem dX11_finds_12 : decode cX11_finds 12 = .ok (.iload_n 3, 1) := by decide +kernel
theorem dX11_finds_13 : decode cX11_finds 13 = .ok (.sipush 10000, 3) := by decide +kernel
theorem dX11_finds_16 : decode cX11_finds 16 = .ok (.if_icmp .ge 61, 3) := by decide +kernel
theorem dX11_finds_19 : decode cX11_finds 19 = .ok (.aload_n 0, 1) := by decide +kernel
theorem dX11_finds_20 : decode cX11_finds 20 = .ok (.iload_n 3, 1) := by decide +kernel
theorem dX11_finds_21 : decode cX11_finds 21 = .ok (.bipush 100, 2) := by decide +kernel
theorem dX11_finds_23 : decode cX11_finds 23 = .ok (.idiv, 1) := by decide +kernel
theorem dX11_finds_24 : decode cX11_finds 24 = .ok (.iload_n 3, 1) := by decide +kernel
theorem dX11_finds_25 : decode cX11_finds 25 = .ok (.bipush 100, 2) := by decide +kernel
theorem dX11_finds_27 : decode cX11_finds 27 = .ok (.irem, 1) := by decide +kernel
theorem dX11_finds_28 : decode cX11_finds 28 = .ok (.iload_n 1, 1) := by decide +kernel
theorem dX11_finds_29 : decode cX11_finds 29 = .ok (.iload_n 2, 1) := by decide +kernel
theorem dX11_finds_30 : decode cX11_finds 30 = .ok (.invokevirtual 276, 3) := by decide +kernel
theorem dX11_finds_33 : decode cX11_finds 33 = .ok (.istore 4, 2) := by decide +kernel
theorem dX11_finds_35 : decode cX11_finds 35 = .ok (.aload_n 0, 1) := by decide +kernel
theorem dX11_finds_36 : decode cX11_finds 36 = .ok (.getfield 88, 3) := by decide +kernel
theorem dX11_finds_39 : decode cX11_finds 39 = .ok (.iload_n 3, 1) := by decide +kernel
theorem dX11_finds_40 : decode cX11_finds 40 = .ok (.iload 4, 2) := by decide +kernel
theorem dX11_finds_42 : decode cX11_finds 42 = .ok (.ifCond .eq 8, 3) := by decide +kernel
theorem dX11_finds_45 : decode cX11_finds 45 = .ok (.bipush (-2), 2) := by decide +kernel
theorem dX11_finds_47 : decode cX11_finds 47 = .ok (.goto 4, 3) := by decide +kernel
theorem dX11_finds_50 : decode cX11_finds 50 = .ok (.iconst (-1), 1) := by decide +kernel
theorem dX11_finds_51 : decode cX11_finds 51 = .ok (.iastore, 1) := by decide +kernel
theorem dX11_finds_52 : decode cX11_finds 52 = .ok (.aload_n 0, 1) := by decide +kernel
theorem dX11_finds_53 : decode cX11_finds 53 = .ok (.dup, 1) := by decide +kernel
theorem dX11_finds_54 : decode cX11_finds 54 = .ok (.getfield 348, 3) := by decide +kernel
theorem dX11_finds_57 : decode cX11_finds 57 = .ok (.iload 4, 2) := by decide +kernel
theorem dX11_finds_59 : decode cX11_finds 59 = .ok (.ifCond .eq 7, 3) := by decide +kernel
theorem dX11_finds_62 : decode cX11_finds 62 = .ok (.iconst 1, 1) := by decide +kernel
theorem dX11_finds_63 : decode cX11_finds 63 = .ok (.goto 4, 3) := by decide +kernel
theorem dX11_finds_66 : decode cX11_finds 66 = .ok (.iconst 0, 1) := by decide +kernel
theorem dX11_finds_67 : decode cX11_finds 67 = .ok (.iadd, 1) := by decide +kernel
theorem dX11_finds_68 : decode cX11_finds 68 = .ok (.putfield 348, 3) := by decide +kernel
theorem dX11_finds_71 : decode cX11_finds 71 = .ok (.iinc 3 1, 3) := by decide +kernel
theorem dX11_finds_74 : decode cX11_finds 74 = .ok (.goto (-62), 3) := by decide +kernel
theorem dX11_finds_77 : decode cX11_finds 77 = .ok (.iconst 0, 1) := by decide +kernel
theorem dX11_finds_78 : decode cX11_finds 78 = .ok (.istore_n 3, 1) := by decide +kernel
theorem dX11_finds_79 : decode cX11_finds 79 = .ok (.iload_n 3, 1) := by decide +kernel
theorem dX11_finds_80 : decode cX11_finds 80 = .ok (.sipush 10000, 3) := by decide +kernel
theorem dX11_finds_83 : decode cX11_finds 83 = .ok (.if_icmp .ge 42, 3) := by decide +kernel
theorem dX11_finds_86 : decode cX11_finds 86 = .ok (.aload_n 0, 1) := by decide +kernel
theorem dX11_finds_87 : decode cX11_finds 87 = .ok (.getfield 88, 3) := by decide +kernel
theorem dX11_finds_90 : decode cX11_finds 90 = .ok (.iload_n 3, 1) := by decide +kernel
theorem dX11_finds_91 : decode cX11_finds 91 = .ok (.iaload, 1) := by decide +kernel
theorem dX11_finds_92 : decode cX11_finds 92 = .ok (.bipush (-2), 2) := by decide +kernel
theorem dX11_finds_94 : decode cX11_finds 94 = .ok (.if_icmp .eq 6, 3) := by decide +kernel
theorem dX11_finds_97 : decode cX11_finds 97 = .ok (.goto 22, 3) := by decide +kernel
theorem dX11_finds_100 : decode cX11_finds 100 = .ok (.aload_n 0, 1) := by decide +kernel
theorem dX11_finds_101 : decode cX11_finds 101 = .ok (.iload_n 3, 1) := by decide +kernel
theorem dX11_finds_102 : decode cX11_finds 102 = .ok (.aload_n 0, 1) := by decide +kernel
theorem dX11_finds_103 : decode cX11_finds 103 = .ok (.getfield 351, 3) := by decide +kernel
theorem dX11_finds_106 : decode cX11_finds 106 = .ok (.invokevirtual 354, 3) := by decide +kernel
theorem dX11_finds_109 : decode cX11_finds 109 = .ok (.aload_n 0, 1) := by decide +kernel
theorem dX11_finds_110 : decode cX11_finds 110 = .ok (.dup, 1) := by decide +kernel
theorem dX11_finds_111 : decode cX11_finds 111 = .ok (.getfield 351, 3) := by decide +kernel
theorem dX11_finds_114 : decode cX11_finds 114 = .ok (.iconst 1, 1) := by decide +kernel
theorem dX11_finds_115 : decode cX11_finds 115 = .ok (.iadd, 1) := by decide +kernel
theorem dX11_finds_116 : decode cX11_finds 116 = .ok (.putfield 351, 3) := by decide +kernel
theorem dX11_finds_119 : decode cX11_finds 119 = .ok (.iinc 3 1, 3) := by decide +kernel
theorem dX11_finds_122 : decode cX11_finds 122 = .ok (.goto (-43), 3) := by decide +kernel
theorem dX11_finds_125 : decode cX11_finds 125 = .ok (.return_, 1) := by decide +kernel
theorem dX11_winSet_0 : decode cX11_winSet 0 = .ok (.aload_n 0, 1) := by decide +kernel
theorem dX11_winSet_1 : decode cX11_winSet 1 = .ok (.invokevirtual 237, 3) := by decide +kernel
theorem dX11_winSet_4 : decode cX11_winSet 4 = .ok (.ifCond .eq 21, 3) := by decide +kernel
theorem dX11_winSet_7 : decode cX11_winSet 7 = .ok (.iload_n 1, 1) := by decide +kernel
theorem dX11_winSet_8 : decode cX11_winSet 8 = .ok (.iload_n 2, 1) := by decide +kernel
theorem dX11_winSet_9 : decode cX11_winSet 9 = .ok (.invokestatic 251, 3) := by decide +kernel
theorem dX11_winSet_12 : decode cX11_winSet 12 = .ok (.ifCond .eq 13, 3) := by decide +kernel
theorem dX11_winSet_15 : decode cX11_winSet 15 = .ok (.iload_n 3, 1) := by decide +kernel
theorem dX11_winSet_16 : decode cX11_winSet 16 = .ok (.i2l, 1) := by decide +kernel
theorem dX11_winSet_17 : decode cX11_winSet 17 = .ok (.lconst 0, 1) := by decide +kernel
theorem dX11_winSet_18 : decode cX11_winSet 18 = .ok (.lconst 1, 1) := by decide +kernel
theorem dX11_winSet_19 : decode cX11_winSet 19 = .ok (.invokestatic 122, 3) := by decide +kernel
theorem dX11_winSet_22 : decode cX11_winSet 22 = .ok (.ifCond .ne 5, 3) := by decide +kernel
theorem dX11_winSet_25 : decode cX11_winSet 25 = .ok (.iconst (-1), 1) := by decide +kernel
theorem dX11_winSet_26 : decode cX11_winSet 26 = .ok (.ireturn, 1) := by decide +kernel
theorem dX11_winSet_27 : decode cX11_winSet 27 = .ok (.aload_n 0, 1) := by decide +kernel
theorem dX11_winSet_28 : decode cX11_winSet 28 = .ok (.iload_n 1, 1) := by decide +kernel
theorem dX11_winSet_29 : decode cX11_winSet 29 = .ok (.iload_n 2, 1) := by decide +kernel
theorem dX11_winSet_30 : decode cX11_winSet 30 = .ok (.invokevirtual 357, 3) := by decide +kernel
theorem dX11_winSet_33 : decode cX11_winSet 33 = .ok (.iload_n 3, 1) := by decide +kernel
theorem dX11_winSet_34 : decode cX11_winSet 34 = .ok (.ifCond .ne 10, 3) := by decide +kernel
theorem dX11_winSet_37 : decode cX11_winSet 37 = .ok (.aload_n 0, 1) := by decide +kernel
theorem dX11_winSet_38 : decode cX11_winSet 38 = .ok (.getfield 348, 3) := by decide +kernel
theorem dX11_winSet_41 : decode cX11_winSet 41 = .ok (.goto 7, 3) := by decide +kernel
theorem dX11_winSet_44 : decode cX11_winSet 44 = .ok (.aload_n 0, 1) := by decide +kernel
theorem dX11_winSet_45 : decode cX11_winSet 45 = .ok (.getfield 351, 3) := by decide +kernel
theorem dX11_winSet_48 : decode cX11_winSet 48 = .ok (.ireturn, 1) := by decide +kernel
theorem dX11_piece_0 : decode cX11_piece 0 = .ok (.aload_n 0, 1) := by decide +kernel
theorem dX11_piece_1 : decode cX11_piece 1 = .ok (.invokevirtual 237, 3) := by decide +kernel
theorem dX11_piece_4 : decode cX11_piece 4 = .ok (.ifCond .eq 24, 3) := by decide +kernel
theorem dX11_piece_7 : decode cX11_piece 7 = .ok (.iload_n 1, 1) := by decide +kernel
theorem dX11_piece_8 : decode cX11_piece 8 = .ok (.iload_n 2, 1) := by decide +kernel
theorem dX11_piece_9 : decode cX11_piece 9 = .ok (.invokestatic 251, 3) := by decide +kernel
theorem dX11_piece_12 : decode cX11_piece 12 = .ok (.ifCond .eq 16, 3) := by decide +kernel
theorem dX11_piece_15 : decode cX11_piece 15 = .ok (.iload 4, 2) := by decide +kernel
theorem dX11_piece_17 : decode cX11_piece 17 = .ok (.i2l, 1) := by decide +kernel
theorem dX11_piece_18 : decode cX11_piece 18 = .ok (.lconst 0, 1) := by decide +kernel
theorem dX11_piece_19 : decode cX11_piece 19 = .ok (.ldc2_w 331, 3) := by decide +kernel
theorem dX11_piece_22 : decode cX11_piece 22 = .ok (.invokestatic 122, 3) := by decide +kernel
theorem dX11_piece_25 : decode cX11_piece 25 = .ok (.ifCond .ne 5, 3) := by decide +kernel
theorem dX11_piece_28 : decode cX11_piece 28 = .ok (.iconst (-1), 1) := by decide +kernel
theorem dX11_piece_29 : decode cX11_piece 29 = .ok (.ireturn, 1) := by decide +kernel
theorem dX11_piece_30 : decode cX11_piece 30 = .ok (.aload_n 0, 1) := by decide +kernel
theorem dX11_piece_31 : decode cX11_piece 31 = .ok (.iload_n 1, 1) := by decide +kernel
theorem dX11_piece_32 : decode cX11_piece 32 = .ok (.iload_n 2, 1) := by decide +kernel
theorem dX11_piece_33 : decode cX11_piece 33 = .ok (.invokevirtual 357, 3) := by decide +kernel
theorem dX11_piece_36 : decode cX11_piece 36 = .ok (.iload_n 3, 1) := by decide +kernel
theorem dX11_piece_37 : decode cX11_piece 37 = .ok (.i2l, 1) := by decide +kernel
theorem dX11_piece_38 : decode cX11_piece 38 = .ok (.lconst 0, 1) := by decide +kernel
theorem dX11_piece_39 : decode cX11_piece 39 = .ok (.aload_n 0, 1) := by decide +kernel
theorem dX11_piece_40 : decode cX11_piece 40 = .ok (.getfield 351, 3) := by decide +kernel
theorem dX11_piece_43 : decode cX11_piece 43 = .ok (.iconst 1, 1) := by decide +kernel
theorem dX11_piece_44 : decode cX11_piece 44 = .ok (.isub, 1) := by decide +kernel
theorem dX11_piece_45 : decode cX11_piece 45 = .ok (.i2l, 1) := by decide +kernel
theorem dX11_piece_46 : decode cX11_piece 46 = .ok (.invokestatic 122, 3) := by decide +kernel
theorem dX11_piece_49 : decode cX11_piece 49 = .ok (.ifCond .ne 5, 3) := by decide +kernel
theorem dX11_piece_52 : decode cX11_piece 52 = .ok (.iconst (-1), 1) := by decide +kernel
theorem dX11_piece_53 : decode cX11_piece 53 = .ok (.ireturn, 1) := by decide +kernel
theorem dX11_piece_54 : decode cX11_piece 54 = .ok (.iconst (-1), 1) := by decide +kernel
theorem dX11_piece_55 : decode cX11_piece 55 = .ok (.istore 5, 2) := by decide +kernel
theorem dX11_piece_57 : decode cX11_piece 57 = .ok (.iconst 0, 1) := by decide +kernel
theorem dX11_piece_58 : decode cX11_piece 58 = .ok (.istore 6, 2) := by decide +kernel
theorem dX11_piece_60 : decode cX11_piece 60 = .ok (.iconst 0, 1) := by decide +kernel
theorem dX11_piece_61 : decode cX11_piece 61 = .ok (.istore 7, 2) := by decide +kernel
theorem dX11_piece_63 : decode cX11_piece 63 = .ok (.iload 7, 2) := by decide +kernel
theorem dX11_piece_65 : decode cX11_piece 65 = .ok (.sipush 10000, 3) := by decide +kernel
theorem dX11_piece_68 : decode cX11_piece 68 = .ok (.if_icmp .ge 41, 3) := by decide +kernel
theorem dX11_piece_71 : decode cX11_piece 71 = .ok (.aload_n 0, 1) := by decide +kernel
theorem dX11_piece_72 : decode cX11_piece 72 = .ok (.getfield 88, 3) := by decide +kernel
theorem dX11_piece_75 : decode cX11_piece 75 = .ok (.iload 7, 2) := by decide +kernel
theorem dX11_piece_77 : decode cX11_piece 77 = .ok (.iaload, 1) := by decide +kernel
theorem dX11_piece_78 : decode cX11_piece 78 = .ok (.iload_n 3, 1) := by decide +kernel
theorem dX11_piece_79 : decode cX11_piece 79 = .ok (.if_icmp .eq 6, 3) := by decide +kernel
theorem dX11_piece_82 : decode cX11_piece 82 = .ok (.goto 21, 3) := by decide +kernel
theorem dX11_piece_85 : decode cX11_piece 85 = .ok (.iload 5, 2) := by decide +kernel
theorem dX11_piece_87 : decode cX11_piece 87 = .ok (.iconst (-1), 1) := by decide +kernel
theorem dX11_piece_88 : decode cX11_piece 88 = .ok (.if_icmp .ne 8, 3) := by decide +kernel
theorem dX11_piece_91 : decode cX11_piece 91 = .ok (.iload 7, 2) := by decide +kernel
theorem dX11_piece_93 : decode cX11_piece 93 = .ok (.goto 5, 3) := by decide +kernel
theorem dX11_piece_96 : decode cX11_piece 96 = .ok (.iload 5, 2) := by decide +kernel
theorem dX11_piece_98 : decode cX11_piece 98 = .ok (.istore 5, 2) := by decide +kernel
theorem dX11_piece_100 : decode cX11_piece 100 = .ok (.iinc 6 1, 3) := by decide +kernel
theorem dX11_piece_103 : decode cX11_piece 103 = .ok (.iinc 7 1, 3) := by decide +kernel
theorem dX11_piece_106 : decode cX11_piece 106 = .ok (.goto (-43), 3) := by decide +kernel
theorem dX11_piece_109 : decode cX11_piece 109 = .ok (.iload 4, 2) := by decide +kernel
theorem dX11_piece_111 : decode cX11_piece 111 = .ok (.ifCond .ne 11, 3) := by decide +kernel
theorem dX11_piece_114 : decode cX11_piece 114 = .ok (.iload 5, 2) := by decide +kernel
theorem dX11_piece_116 : decode cX11_piece 116 = .ok (.bipush 100, 2) := by decide +kernel
theorem dX11_piece_118 : decode cX11_piece 118 = .ok (.idiv, 1) := by decide +kernel
theorem dX11_piece_119 : decode cX11_piece 119 = .ok (.goto 19, 3) := by decide +kernel
theorem dX11_piece_122 : decode cX11_piece 122 = .ok (.iload 4, 2) := by decide +kernel
theorem dX11_piece_124 : decode cX11_piece 124 = .ok (.iconst 1, 1) := by decide +kernel
theorem dX11_piece_125 : decode cX11_piece 125 = .ok (.if_icmp .ne 11, 3) := by decide +kernel
theorem dX11_piece_128 : decode cX11_piece 128 = .ok (.iload 5, 2) := by decide +kernel
theorem dX11_piece_130 : decode cX11_piece 130 = .ok (.bipush 100, 2) := by decide +kernel
theorem dX11_piece_132 : decode cX11_piece 132 = .ok (.irem, 1) := by decide +kernel
theorem dX11_piece_133 : decode cX11_piece 133 = .ok (.goto 5, 3) := by decide +kernel
theorem dX11_piece_136 : decode cX11_piece 136 = .ok (.iload 6, 2) := by decide +kernel
theorem dX11_piece_138 : decode cX11_piece 138 = .ok (.ireturn, 1) := by decide +kernel
theorem dX11_leads_0 : decode cX11_leads 0 = .ok (.iconst 0, 1) := by decide +kernel
theorem dX11_leads_1 : decode cX11_leads 1 = .ok (.istore_n 2, 1) := by decide +kernel
theorem dX11_leads_2 : decode cX11_leads 2 = .ok (.iload_n 2, 1) := by decide +kernel
theorem dX11_leads_3 : decode cX11_leads 3 = .ok (.bipush 20, 2) := by decide +kernel
theorem dX11_leads_5 : decode cX11_leads 5 = .ok (.if_icmp .ge 25, 3) := by decide +kernel
theorem dX11_leads_8 : decode cX11_leads 8 = .ok (.aload_n 0, 1) := by decide +kernel
theorem dX11_leads_9 : decode cX11_leads 9 = .ok (.getfield 94, 3) := by decide +kernel
theorem dX11_leads_12 : decode cX11_leads 12 = .ok (.iload_n 2, 1) := by decide +kernel
theorem dX11_leads_13 : decode cX11_leads 13 = .ok (.iload_n 2, 1) := by decide +kernel
theorem dX11_leads_14 : decode cX11_leads 14 = .ok (.iload_n 1, 1) := by decide +kernel
theorem dX11_leads_15 : decode cX11_leads 15 = .ok (.if_icmp .ne 7, 3) := by decide +kernel
theorem dX11_leads_18 : decode cX11_leads 18 = .ok (.iconst 0, 1) := by decide +kernel
theorem dX11_leads_19 : decode cX11_leads 19 = .ok (.goto 4, 3) := by decide +kernel
theorem dX11_leads_22 : decode cX11_leads 22 = .ok (.iconst (-1), 1) := by decide +kernel
theorem dX11_leads_23 : decode cX11_leads 23 = .ok (.iastore, 1) := by decide +kernel
theorem dX11_leads_24 : decode cX11_leads 24 = .ok (.iinc 2 1, 3) := by decide +kernel
theorem dX11_leads_27 : decode cX11_leads 27 = .ok (.goto (-25), 3) := by decide +kernel
theorem dX11_leads_30 : decode cX11_leads 30 = .ok (.iconst 0, 1) := by decide +kernel
theorem dX11_leads_31 : decode cX11_leads 31 = .ok (.istore_n 2, 1) := by decide +kernel
theorem dX11_leads_32 : decode cX11_leads 32 = .ok (.iload_n 2, 1) := by decide +kernel
theorem dX11_leads_33 : decode cX11_leads 33 = .ok (.aload_n 0, 1) := by decide +kernel
theorem dX11_leads_34 : decode cX11_leads 34 = .ok (.invokevirtual 242, 3) := by decide +kernel
theorem dX11_leads_37 : decode cX11_leads 37 = .ok (.if_icmp .ge 86, 3) := by decide +kernel
theorem dX11_leads_40 : decode cX11_leads 40 = .ok (.iconst 0, 1) := by decide +kernel
theorem dX11_leads_41 : decode cX11_leads 41 = .ok (.istore_n 3, 1) := by decide +kernel
theorem dX11_leads_42 : decode cX11_leads 42 = .ok (.iload_n 3, 1) := by decide +kernel
theorem dX11_leads_43 : decode cX11_leads 43 = .ok (.aload_n 0, 1) := by decide +kernel
theorem dX11_leads_44 : decode cX11_leads 44 = .ok (.invokevirtual 242, 3) := by decide +kernel
theorem dX11_leads_47 : decode cX11_leads 47 = .ok (.if_icmp .ge 70, 3) := by decide +kernel
theorem dX11_leads_50 : decode cX11_leads 50 = .ok (.aload_n 0, 1) := by decide +kernel
theorem dX11_leads_51 : decode cX11_leads 51 = .ok (.getfield 94, 3) := by decide +kernel
theorem dX11_leads_54 : decode cX11_leads 54 = .ok (.iload_n 3, 1) := by decide +kernel
theorem dX11_leads_55 : decode cX11_leads 55 = .ok (.iaload, 1) := by decide +kernel
theorem dX11_leads_56 : decode cX11_leads 56 = .ok (.iconst (-1), 1) := by decide +kernel
theorem dX11_leads_57 : decode cX11_leads 57 = .ok (.if_icmp .eq 6, 3) := by decide +kernel
theorem dX11_leads_60 : decode cX11_leads 60 = .ok (.goto 51, 3) := by decide +kernel
theorem dX11_leads_63 : decode cX11_leads 63 = .ok (.iconst 0, 1) := by decide +kernel
theorem dX11_leads_64 : decode cX11_leads 64 = .ok (.istore 4, 2) := by decide +kernel
theorem dX11_leads_66 : decode cX11_leads 66 = .ok (.iload 4, 2) := by decide +kernel
theorem dX11_leads_68 : decode cX11_leads 68 = .ok (.aload_n 0, 1) := by decide +kernel
theorem dX11_leads_69 : decode cX11_leads 69 = .ok (.invokevirtual 242, 3) := by decide +kernel
theorem dX11_leads_72 : decode cX11_leads 72 = .ok (.if_icmp .ge 39, 3) := by decide +kernel
theorem dX11_leads_75 : decode cX11_leads 75 = .ok (.aload_n 0, 1) := by decide +kernel
theorem dX11_leads_76 : decode cX11_leads 76 = .ok (.getfield 94, 3) := by decide +kernel
theorem dX11_leads_79 : decode cX11_leads 79 = .ok (.iload 4, 2) := by decide +kernel
theorem dX11_leads_81 : decode cX11_leads 81 = .ok (.iaload, 1) := by decide +kernel
theorem dX11_leads_82 : decode cX11_leads 82 = .ok (.iload_n 2, 1) := by decide +kernel
theorem dX11_leads_83 : decode cX11_leads 83 = .ok (.if_icmp .ne 22, 3) := by decide +kernel
theorem dX11_leads_86 : decode cX11_leads 86 = .ok (.aload_n 0, 1) := by decide +kernel
theorem dX11_leads_87 : decode cX11_leads 87 = .ok (.iload 4, 2) := by decide +kernel
theorem dX11_leads_89 : decode cX11_leads 89 = .ok (.iload_n 3, 1) := by decide +kernel
theorem dX11_leads_90 : decode cX11_leads 90 = .ok (.invokevirtual 283, 3) := by decide +kernel
theorem dX11_leads_93 : decode cX11_leads 93 = .ok (.ifCond .eq 12, 3) := by decide +kernel
theorem dX11_leads_96 : decode cX11_leads 96 = .ok (.aload_n 0, 1) := by decide +kernel
theorem dX11_leads_97 : decode cX11_leads 97 = .ok (.getfield 94, 3) := by decide +kernel
theorem dX11_leads_100 : decode cX11_leads 100 = .ok (.iload_n 3, 1) := by decide +kernel
theorem dX11_leads_101 : decode cX11_leads 101 = .ok (.iload_n 2, 1) := by decide +kernel
theorem dX11_leads_102 : decode cX11_leads 102 = .ok (.iconst 1, 1) := by decide +kernel
theorem dX11_leads_103 : decode cX11_leads 103 = .ok (.iadd, 1) := by decide +kernel
theorem dX11_leads_104 : decode cX11_leads 104 = .ok (.iastore, 1) := by decide +kernel
theorem dX11_leads_105 : decode cX11_leads 105 = .ok (.iinc 4 1, 3) := by decide +kernel
theorem dX11_leads_108 : decode cX11_leads 108 = .ok (.goto (-42), 3) := by decide +kernel
theorem dX11_leads_111 : decode cX11_leads 111 = .ok (.iinc 3 1, 3) := by decide +kernel
theorem dX11_leads_114 : decode cX11_leads 114 = .ok (.goto (-72), 3) := by decide +kernel
theorem dX11_leads_117 : decode cX11_leads 117 = .ok (.iinc 2 1, 3) := by decide +kernel
theorem dX11_leads_120 : decode cX11_leads 120 = .ok (.goto (-88), 3) := by decide +kernel
theorem dX11_leads_123 : decode cX11_leads 123 = .ok (.return_, 1) := by decide +kernel
theorem dX11_led_0 : decode cX11_led 0 = .ok (.aload_n 0, 1) := by decide +kernel
theorem dX11_led_1 : decode cX11_led 1 = .ok (.iload_n 1, 1) := by decide +kernel
theorem dX11_led_2 : decode cX11_led 2 = .ok (.invokevirtual 248, 3) := by decide +kernel
theorem dX11_led_5 : decode cX11_led 5 = .ok (.ifCond .eq 11, 3) := by decide +kernel
theorem dX11_led_8 : decode cX11_led 8 = .ok (.aload_n 0, 1) := by decide +kernel
theorem dX11_led_9 : decode cX11_led 9 = .ok (.iload_n 2, 1) := by decide +kernel
theorem dX11_led_10 : decode cX11_led 10 = .ok (.invokevirtual 248, 3) := by decide +kernel
theorem dX11_led_13 : decode cX11_led 13 = .ok (.ifCond .ne 5, 3) := by decide +kernel
theorem dX11_led_16 : decode cX11_led 16 = .ok (.iconst (-1), 1) := by decide +kernel
theorem dX11_led_17 : decode cX11_led 17 = .ok (.ireturn, 1) := by decide +kernel
theorem dX11_led_18 : decode cX11_led 18 = .ok (.aload_n 0, 1) := by decide +kernel
theorem dX11_led_19 : decode cX11_led 19 = .ok (.iload_n 2, 1) := by decide +kernel
theorem dX11_led_20 : decode cX11_led 20 = .ok (.invokevirtual 360, 3) := by decide +kernel
theorem dX11_led_23 : decode cX11_led 23 = .ok (.aload_n 0, 1) := by decide +kernel
theorem dX11_led_24 : decode cX11_led 24 = .ok (.getfield 94, 3) := by decide +kernel
theorem dX11_led_27 : decode cX11_led 27 = .ok (.iload_n 1, 1) := by decide +kernel
theorem dX11_led_28 : decode cX11_led 28 = .ok (.iaload, 1) := by decide +kernel
theorem dX11_led_29 : decode cX11_led 29 = .ok (.iconst (-1), 1) := by decide +kernel
theorem dX11_led_30 : decode cX11_led 30 = .ok (.if_icmp .ne 5, 3) := by decide +kernel
theorem dX11_led_33 : decode cX11_led 33 = .ok (.iconst (-1), 1) := by decide +kernel
theorem dX11_led_34 : decode cX11_led 34 = .ok (.ireturn, 1) := by decide +kernel
theorem dX11_led_35 : decode cX11_led 35 = .ok (.iload_n 3, 1) := by decide +kernel
theorem dX11_led_36 : decode cX11_led 36 = .ok (.iconst (-1), 1) := by decide +kernel
theorem dX11_led_37 : decode cX11_led 37 = .ok (.if_icmp .ne 10, 3) := by decide +kernel
theorem dX11_led_40 : decode cX11_led 40 = .ok (.aload_n 0, 1) := by decide +kernel
theorem dX11_led_41 : decode cX11_led 41 = .ok (.getfield 94, 3) := by decide +kernel
theorem dX11_led_44 : decode cX11_led 44 = .ok (.iload_n 1, 1) := by decide +kernel
theorem dX11_led_45 : decode cX11_led 45 = .ok (.iaload, 1) := by decide +kernel
theorem dX11_led_46 : decode cX11_led 46 = .ok (.ireturn, 1) := by decide +kernel
theorem dX11_led_47 : decode cX11_led 47 = .ok (.iload_n 3, 1) := by decide +kernel
theorem dX11_led_48 : decode cX11_led 48 = .ok (.i2l, 1) := by decide +kernel
theorem dX11_led_49 : decode cX11_led 49 = .ok (.lconst 0, 1) := by decide +kernel
theorem dX11_led_50 : decode cX11_led 50 = .ok (.aload_n 0, 1) := by decide +kernel
theorem dX11_led_51 : decode cX11_led 51 = .ok (.getfield 94, 3) := by decide +kernel
theorem dX11_led_54 : decode cX11_led 54 = .ok (.iload_n 1, 1) := by decide +kernel
theorem dX11_led_55 : decode cX11_led 55 = .ok (.iaload, 1) := by decide +kernel
theorem dX11_led_56 : decode cX11_led 56 = .ok (.i2l, 1) := by decide +kernel
theorem dX11_led_57 : decode cX11_led 57 = .ok (.invokestatic 122, 3) := by decide +kernel
theorem dX11_led_60 : decode cX11_led 60 = .ok (.ifCond .ne 5, 3) := by decide +kernel
theorem dX11_led_63 : decode cX11_led 63 = .ok (.iconst (-1), 1) := by decide +kernel
theorem dX11_led_64 : decode cX11_led 64 = .ok (.ireturn, 1) := by decide +kernel
theorem dX11_led_65 : decode cX11_led 65 = .ok (.iload_n 1, 1) := by decide +kernel
theorem dX11_led_66 : decode cX11_led 66 = .ok (.istore 4, 2) := by decide +kernel
theorem dX11_led_68 : decode cX11_led 68 = .ok (.iconst 0, 1) := by decide +kernel
theorem dX11_led_69 : decode cX11_led 69 = .ok (.istore 5, 2) := by decide +kernel
theorem dX11_led_71 : decode cX11_led 71 = .ok (.iload 5, 2) := by decide +kernel
theorem dX11_led_73 : decode cX11_led 73 = .ok (.iload_n 3, 1) := by decide +kernel
theorem dX11_led_74 : decode cX11_led 74 = .ok (.if_icmp .ge 52, 3) := by decide +kernel
theorem dX11_led_77 : decode cX11_led 77 = .ok (.iconst 0, 1) := by decide +kernel
theorem dX11_led_78 : decode cX11_led 78 = .ok (.istore 6, 2) := by decide +kernel
theorem dX11_led_80 : decode cX11_led 80 = .ok (.aload_n 0, 1) := by decide +kernel
theorem dX11_led_81 : decode cX11_led 81 = .ok (.getfield 94, 3) := by decide +kernel
theorem dX11_led_84 : decode cX11_led 84 = .ok (.iload 6, 2) := by decide +kernel
theorem dX11_led_86 : decode cX11_led 86 = .ok (.iaload, 1) := by decide +kernel
theorem dX11_led_87 : decode cX11_led 87 = .ok (.aload_n 0, 1) := by decide +kernel
theorem dX11_led_88 : decode cX11_led 88 = .ok (.getfield 94, 3) := by decide +kernel
theorem dX11_led_91 : decode cX11_led 91 = .ok (.iload 4, 2) := by decide +kernel
theorem dX11_led_93 : decode cX11_led 93 = .ok (.iaload, 1) := by decide +kernel
theorem dX11_led_94 : decode cX11_led 94 = .ok (.iconst 1, 1) := by decide +kernel
theorem dX11_led_95 : decode cX11_led 95 = .ok (.isub, 1) := by decide +kernel
theorem dX11_led_96 : decode cX11_led 96 = .ok (.if_icmp .ne 14, 3) := by decide +kernel
theorem dX11_led_99 : decode cX11_led 99 = .ok (.aload_n 0, 1) := by decide +kernel
theorem dX11_led_100 : decode cX11_led 100 = .ok (.iload 6, 2) := by decide +kernel
theorem dX11_led_102 : decode cX11_led 102 = .ok (.iload 4, 2) := by decide +kernel
theorem dX11_led_104 : decode cX11_led 104 = .ok (.invokevirtual 283, 3) := by decide +kernel
theorem dX11_led_107 : decode cX11_led 107 = .ok (.ifCond .ne 9, 3) := by decide +kernel
theorem dX11_led_110 : decode cX11_led 110 = .ok (.iinc 6 1, 3) := by decide +kernel
theorem dX11_led_113 : decode cX11_led 113 = .ok (.goto (-33), 3) := by decide +kernel
theorem dX11_led_116 : decode cX11_led 116 = .ok (.iload 6, 2) := by decide +kernel
theorem dX11_led_118 : decode cX11_led 118 = .ok (.istore 4, 2) := by decide +kernel
theorem dX11_led_120 : decode cX11_led 120 = .ok (.iinc 5 1, 3) := by decide +kernel
theorem dX11_led_123 : decode cX11_led 123 = .ok (.goto (-52), 3) := by decide +kernel
theorem dX11_led_126 : decode cX11_led 126 = .ok (.iload 4, 2) := by decide +kernel
theorem dX11_led_128 : decode cX11_led 128 = .ok (.ireturn, 1) := by decide +kernel
theorem dX11_isReached_0 : decode cX11_isReached 0 = .ok (.aload_n 0, 1) := by decide +kernel
theorem dX11_isReached_1 : decode cX11_isReached 1 = .ok (.iload_n 1, 1) := by decide +kernel
theorem dX11_isReached_2 : decode cX11_isReached 2 = .ok (.invokevirtual 360, 3) := by decide +kernel
theorem dX11_isReached_5 : decode cX11_isReached 5 = .ok (.iconst 0, 1) := by decide +kernel
theorem dX11_isReached_6 : decode cX11_isReached 6 = .ok (.istore_n 2, 1) := by decide +kernel
theorem dX11_isReached_7 : decode cX11_isReached 7 = .ok (.iload_n 2, 1) := by decide +kernel
theorem dX11_isReached_8 : decode cX11_isReached 8 = .ok (.aload_n 0, 1) := by decide +kernel
theorem dX11_isReached_9 : decode cX11_isReached 9 = .ok (.invokevirtual 242, 3) := by decide +kernel
theorem dX11_isReached_12 : decode cX11_isReached 12 = .ok (.if_icmp .ge 21, 3) := by decide +kernel
theorem dX11_isReached_15 : decode cX11_isReached 15 = .ok (.aload_n 0, 1) := by decide +kernel
theorem dX11_isReached_16 : decode cX11_isReached 16 = .ok (.getfield 94, 3) := by decide +kernel
theorem dX11_isReached_19 : decode cX11_isReached 19 = .ok (.iload_n 2, 1) := by decide +kernel
theorem dX11_isReached_20 : decode cX11_isReached 20 = .ok (.iaload, 1) := by decide +kernel
theorem dX11_isReached_21 : decode cX11_isReached 21 = .ok (.iconst (-1), 1) := by decide +kernel
theorem dX11_isReached_22 : decode cX11_isReached 22 = .ok (.if_icmp .ne 5, 3) := by decide +kernel
theorem dX11_isReached_25 : decode cX11_isReached 25 = .ok (.iconst 0, 1) := by decide +kernel
theorem dX11_isReached_26 : decode cX11_isReached 26 = .ok (.ireturn, 1) := by decide +kernel
theorem dX11_isReached_27 : decode cX11_isReached 27 = .ok (.iinc 2 1, 3) := by decide +kernel
theorem dX11_isReached_30 : decode cX11_isReached 30 = .ok (.goto (-23), 3) := by decide +kernel
theorem dX11_isReached_33 : decode cX11_isReached 33 = .ok (.iconst 1, 1) := by decide +kernel
theorem dX11_isReached_34 : decode cX11_isReached 34 = .ok (.ireturn, 1) := by decide +kernel
theorem dX11_covers_0 : decode cX11_covers 0 = .ok (.aload_n 0, 1) := by decide +kernel
theorem dX11_covers_1 : decode cX11_covers 1 = .ok (.iload_n 1, 1) := by decide +kernel
theorem dX11_covers_2 : decode cX11_covers 2 = .ok (.iload_n 2, 1) := by decide +kernel
theorem dX11_covers_3 : decode cX11_covers 3 = .ok (.invokevirtual 283, 3) := by decide +kernel
theorem dX11_covers_6 : decode cX11_covers 6 = .ok (.ifCond .ne 5, 3) := by decide +kernel
theorem dX11_covers_9 : decode cX11_covers 9 = .ok (.iconst 0, 1) := by decide +kernel
theorem dX11_covers_10 : decode cX11_covers 10 = .ok (.ireturn, 1) := by decide +kernel
theorem dX11_covers_11 : decode cX11_covers 11 = .ok (.iconst 0, 1) := by decide +kernel
theorem dX11_covers_12 : decode cX11_covers 12 = .ok (.istore_n 3, 1) := by decide +kernel
theorem dX11_covers_13 : decode cX11_covers 13 = .ok (.iload_n 3, 1) := by decide +kernel
theorem dX11_covers_14 : decode cX11_covers 14 = .ok (.aload_n 0, 1) := by decide +kernel
theorem dX11_covers_15 : decode cX11_covers 15 = .ok (.invokevirtual 242, 3) := by decide +kernel
theorem dX11_covers_18 : decode cX11_covers 18 = .ok (.if_icmp .ge 29, 3) := by decide +kernel
theorem dX11_covers_21 : decode cX11_covers 21 = .ok (.aload_n 0, 1) := by decide +kernel
theorem dX11_covers_22 : decode cX11_covers 22 = .ok (.iload_n 3, 1) := by decide +kernel
theorem dX11_covers_23 : decode cX11_covers 23 = .ok (.iload_n 1, 1) := by decide +kernel
theorem dX11_covers_24 : decode cX11_covers 24 = .ok (.invokevirtual 283, 3) := by decide +kernel
theorem dX11_covers_27 : decode cX11_covers 27 = .ok (.ifCond .eq 14, 3) := by decide +kernel
theorem dX11_covers_30 : decode cX11_covers 30 = .ok (.aload_n 0, 1) := by decide +kernel
theorem dX11_covers_31 : decode cX11_covers 31 = .ok (.iload_n 3, 1) := by decide +kernel
theorem dX11_covers_32 : decode cX11_covers 32 = .ok (.iload_n 2, 1) := by decide +kernel
theorem dX11_covers_33 : decode cX11_covers 33 = .ok (.invokevirtual 283, 3) := by decide +kernel
theorem dX11_covers_36 : decode cX11_covers 36 = .ok (.ifCond .ne 5, 3) := by decide +kernel
theorem dX11_covers_39 : decode cX11_covers 39 = .ok (.iconst 0, 1) := by decide +kernel
theorem dX11_covers_40 : decode cX11_covers 40 = .ok (.ireturn, 1) := by decide +kernel
theorem dX11_covers_41 : decode cX11_covers 41 = .ok (.iinc 3 1, 3) := by decide +kernel
theorem dX11_covers_44 : decode cX11_covers 44 = .ok (.goto (-31), 3) := by decide +kernel
theorem dX11_covers_47 : decode cX11_covers 47 = .ok (.iconst 1, 1) := by decide +kernel
theorem dX11_covers_48 : decode cX11_covers 48 = .ok (.ireturn, 1) := by decide +kernel
theorem dX11_isOpen_0 : decode cX11_isOpen 0 = .ok (.iconst 0, 1) := by decide +kernel
theorem dX11_isOpen_1 : decode cX11_isOpen 1 = .ok (.istore_n 2, 1) := by decide +kernel
theorem dX11_isOpen_2 : decode cX11_isOpen 2 = .ok (.iload_n 2, 1) := by decide +kernel
theorem dX11_isOpen_3 : decode cX11_isOpen 3 = .ok (.aload_n 0, 1) := by decide +kernel
theorem dX11_isOpen_4 : decode cX11_isOpen 4 = .ok (.invokevirtual 242, 3) := by decide +kernel
theorem dX11_isOpen_7 : decode cX11_isOpen 7 = .ok (.if_icmp .ge 25, 3) := by decide +kernel
theorem dX11_isOpen_10 : decode cX11_isOpen 10 = .ok (.iload_n 2, 1) := by decide +kernel
theorem dX11_isOpen_11 : decode cX11_isOpen 11 = .ok (.iload_n 1, 1) := by decide +kernel
theorem dX11_isOpen_12 : decode cX11_isOpen 12 = .ok (.if_icmp .eq 14, 3) := by decide +kernel
theorem dX11_isOpen_15 : decode cX11_isOpen 15 = .ok (.aload_n 0, 1) := by decide +kernel
theorem dX11_isOpen_16 : decode cX11_isOpen 16 = .ok (.iload_n 2, 1) := by decide +kernel
theorem dX11_isOpen_17 : decode cX11_isOpen 17 = .ok (.iload_n 1, 1) := by decide +kernel
theorem dX11_isOpen_18 : decode cX11_isOpen 18 = .ok (.invokevirtual 363, 3) := by decide +kernel
theorem dX11_isOpen_21 : decode cX11_isOpen 21 = .ok (.ifCond .eq 5, 3) := by decide +kernel
theorem dX11_isOpen_24 : decode cX11_isOpen 24 = .ok (.iconst 0, 1) := by decide +kernel
theorem dX11_isOpen_25 : decode cX11_isOpen 25 = .ok (.ireturn, 1) := by decide +kernel
theorem dX11_isOpen_26 : decode cX11_isOpen 26 = .ok (.iinc 2 1, 3) := by decide +kernel
theorem dX11_isOpen_29 : decode cX11_isOpen 29 = .ok (.goto (-27), 3) := by decide +kernel
theorem dX11_isOpen_32 : decode cX11_isOpen 32 = .ok (.iconst 1, 1) := by decide +kernel
theorem dX11_isOpen_33 : decode cX11_isOpen 33 = .ok (.ireturn, 1) := by decide +kernel
theorem dX11_best_0 : decode cX11_best 0 = .ok (.aload_n 0, 1) := by decide +kernel
theorem dX11_best_1 : decode cX11_best 1 = .ok (.invokevirtual 237, 3) := by decide +kernel
theorem dX11_best_4 : decode cX11_best 4 = .ok (.ifCond .eq 13, 3) := by decide +kernel
theorem dX11_best_7 : decode cX11_best 7 = .ok (.iload_n 1, 1) := by decide +kernel
theorem dX11_best_8 : decode cX11_best 8 = .ok (.i2l, 1) := by decide +kernel
theorem dX11_best_9 : decode cX11_best 9 = .ok (.lconst 0, 1) := by decide +kernel
theorem dX11_best_10 : decode cX11_best 10 = .ok (.lconst 1, 1) := by decide +kernel
theorem dX11_best_11 : decode cX11_best 11 = .ok (.invokestatic 122, 3) := by decide +kernel
theorem dX11_best_14 : decode cX11_best 14 = .ok (.ifCond .ne 5, 3) := by decide +kernel
theorem dX11_best_17 : decode cX11_best 17 = .ok (.iconst (-1), 1) := by decide +kernel
theorem dX11_best_18 : decode cX11_best 18 = .ok (.ireturn, 1) := by decide +kernel
theorem dX11_best_19 : decode cX11_best 19 = .ok (.iconst 0, 1) := by decide +kernel
theorem dX11_best_20 : decode cX11_best 20 = .ok (.istore_n 2, 1) := by decide +kernel
theorem dX11_best_21 : decode cX11_best 21 = .ok (.iconst 0, 1) := by decide +kernel
theorem dX11_best_22 : decode cX11_best 22 = .ok (.istore_n 3, 1) := by decide +kernel
theorem dX11_best_23 : decode cX11_best 23 = .ok (.iload_n 3, 1) := by decide +kernel
theorem dX11_best_24 : decode cX11_best 24 = .ok (.aload_n 0, 1) := by decide +kernel
theorem dX11_best_25 : decode cX11_best 25 = .ok (.invokevirtual 242, 3) := by decide +kernel
theorem dX11_best_28 : decode cX11_best 28 = .ok (.if_icmp .ge 42, 3) := by decide +kernel
theorem dX11_best_31 : decode cX11_best 31 = .ok (.iload_n 2, 1) := by decide +kernel
theorem dX11_best_32 : decode cX11_best 32 = .ok (.iload_n 1, 1) := by decide +kernel
theorem dX11_best_33 : decode cX11_best 33 = .ok (.ifCond .ne 14, 3) := by decide +kernel
theorem dX11_best_36 : decode cX11_best 36 = .ok (.aload_n 0, 1) := by decide +kernel
theorem dX11_best_37 : decode cX11_best 37 = .ok (.iload_n 3, 1) := by decide +kernel
theorem dX11_best_38 : decode cX11_best 38 = .ok (.invokevirtual 366, 3) := by decide +kernel
theorem dX11_best_41 : decode cX11_best 41 = .ok (.ifCond .eq 20, 3) := by decide +kernel
theorem dX11_best_44 : decode cX11_best 44 = .ok (.goto 11, 3) := by decide +kernel
theorem dX11_best_47 : decode cX11_best 47 = .ok (.aload_n 0, 1) := by decide +kernel
theorem dX11_best_48 : decode cX11_best 48 = .ok (.iload_n 3, 1) := by decide +kernel
theorem dX11_best_49 : decode cX11_best 49 = .ok (.invokevirtual 369, 3) := by decide +kernel
theorem dX11_best_52 : decode cX11_best 52 = .ok (.ifCond .eq 9, 3) := by decide +kernel
theorem dX11_best_55 : decode cX11_best 55 = .ok (.iconst 1, 1) := by decide +kernel
theorem dX11_best_56 : decode cX11_best 56 = .ok (.iload_n 3, 1) := by decide +kernel
theorem dX11_best_57 : decode cX11_best 57 = .ok (.ishl, 1) := by decide +kernel
theorem dX11_best_58 : decode cX11_best 58 = .ok (.goto 4, 3) := by decide +kernel
theorem dX11_best_61 : decode cX11_best 61 = .ok (.iconst 0, 1) := by decide +kernel
theorem dX11_best_62 : decode cX11_best 62 = .ok (.ior, 1) := by decide +kernel
theorem dX11_best_63 : decode cX11_best 63 = .ok (.istore_n 2, 1) := by decide +kernel
theorem dX11_best_64 : decode cX11_best 64 = .ok (.iinc 3 1, 3) := by decide +kernel
theorem dX11_best_67 : decode cX11_best 67 = .ok (.goto (-44), 3) := by decide +kernel
theorem dX11_best_70 : decode cX11_best 70 = .ok (.iload_n 2, 1) := by decide +kernel
theorem dX11_best_71 : decode cX11_best 71 = .ok (.ireturn, 1) := by decide +kernel
theorem dX11_between_0 : decode cX11_between 0 = .ok (.aload_n 0, 1) := by decide +kernel
theorem dX11_between_1 : decode cX11_between 1 = .ok (.iload_n 1, 1) := by decide +kernel
theorem dX11_between_2 : decode cX11_between 2 = .ok (.invokevirtual 248, 3) := by decide +kernel
theorem dX11_between_5 : decode cX11_between 5 = .ok (.ifCond .eq 11, 3) := by decide +kernel
theorem dX11_between_8 : decode cX11_between 8 = .ok (.aload_n 0, 1) := by decide +kernel
theorem dX11_between_9 : decode cX11_between 9 = .ok (.iload_n 2, 1) := by decide +kernel
theorem dX11_between_10 : decode cX11_between 10 = .ok (.invokevirtual 248, 3) := by decide +kernel
theorem dX11_between_13 : decode cX11_between 13 = .ok (.ifCond .ne 5, 3) := by decide +kernel
theorem dX11_between_16 : decode cX11_between 16 = .ok (.iconst (-1), 1) := by decide +kernel
theorem dX11_between_17 : decode cX11_between 17 = .ok (.ireturn, 1) := by decide +kernel
theorem dX11_between_18 : decode cX11_between 18 = .ok (.iconst 0, 1) := by decide +kernel
theorem dX11_between_19 : decode cX11_between 19 = .ok (.istore_n 3, 1) := by decide +kernel
theorem dX11_between_20 : decode cX11_between 20 = .ok (.iload_n 3, 1) := by decide +kernel
theorem dX11_between_21 : decode cX11_between 21 = .ok (.sipush 10000, 3) := by decide +kernel
theorem dX11_between_24 : decode cX11_between 24 = .ok (.if_icmp .ge 77, 3) := by decide +kernel
theorem dX11_between_27 : decode cX11_between 27 = .ok (.iload_n 3, 1) := by decide +kernel
theorem dX11_between_28 : decode cX11_between 28 = .ok (.bipush 100, 2) := by decide +kernel
theorem dX11_between_30 : decode cX11_between 30 = .ok (.idiv, 1) := by decide +kernel
theorem dX11_between_31 : decode cX11_between 31 = .ok (.istore 4, 2) := by decide +kernel
theorem dX11_between_33 : decode cX11_between 33 = .ok (.iload_n 3, 1) := by decide +kernel
theorem dX11_between_34 : decode cX11_between 34 = .ok (.bipush 100, 2) := by decide +kernel
theorem dX11_between_36 : decode cX11_between 36 = .ok (.irem, 1) := by decide +kernel
theorem dX11_between_37 : decode cX11_between 37 = .ok (.istore 5, 2) := by decide +kernel
theorem dX11_between_39 : decode cX11_between 39 = .ok (.aload_n 0, 1) := by decide +kernel
theorem dX11_between_40 : decode cX11_between 40 = .ok (.iload 4, 2) := by decide +kernel
theorem dX11_between_42 : decode cX11_between 42 = .ok (.iload 5, 2) := by decide +kernel
theorem dX11_between_44 : decode cX11_between 44 = .ok (.aload_n 0, 1) := by decide +kernel
theorem dX11_between_45 : decode cX11_between 45 = .ok (.getfield 33, 3) := by decide +kernel
theorem dX11_between_48 : decode cX11_between 48 = .ok (.iconst 0, 1) := by decide +kernel
theorem dX11_between_49 : decode cX11_between 49 = .ok (.aaload, 1) := by decide +kernel
theorem dX11_between_50 : decode cX11_between 50 = .ok (.iload_n 1, 1) := by decide +kernel
theorem dX11_between_51 : decode cX11_between 51 = .ok (.iaload, 1) := by decide +kernel
theorem dX11_between_52 : decode cX11_between 52 = .ok (.aload_n 0, 1) := by decide +kernel
theorem dX11_between_53 : decode cX11_between 53 = .ok (.getfield 36, 3) := by decide +kernel
theorem dX11_between_56 : decode cX11_between 56 = .ok (.iconst 0, 1) := by decide +kernel
theorem dX11_between_57 : decode cX11_between 57 = .ok (.aaload, 1) := by decide +kernel
theorem dX11_between_58 : decode cX11_between 58 = .ok (.iload_n 1, 1) := by decide +kernel
theorem dX11_between_59 : decode cX11_between 59 = .ok (.iaload, 1) := by decide +kernel
theorem dX11_between_60 : decode cX11_between 60 = .ok (.invokevirtual 276, 3) := by decide +kernel
theorem dX11_between_63 : decode cX11_between 63 = .ok (.ifCond .eq 32, 3) := by decide +kernel
theorem dX11_between_66 : decode cX11_between 66 = .ok (.aload_n 0, 1) := by decide +kernel
theorem dX11_between_67 : decode cX11_between 67 = .ok (.aload_n 0, 1) := by decide +kernel
theorem dX11_between_68 : decode cX11_between 68 = .ok (.getfield 33, 3) := by decide +kernel
theorem dX11_between_71 : decode cX11_between 71 = .ok (.iconst 0, 1) := by decide +kernel
theorem dX11_between_72 : decode cX11_between 72 = .ok (.aaload, 1) := by decide +kernel
theorem dX11_between_73 : decode cX11_between 73 = .ok (.iload_n 2, 1) := by decide +kernel
theorem dX11_between_74 : decode cX11_between 74 = .ok (.iaload, 1) := by decide +kernel
theorem dX11_between_75 : decode cX11_between 75 = .ok (.aload_n 0, 1) := by decide +kernel
theorem dX11_between_76 : decode cX11_between 76 = .ok (.getfield 36, 3) := by decide +kernel
theorem dX11_between_79 : decode cX11_between 79 = .ok (.iconst 0, 1) := by decide +kernel
theorem dX11_between_80 : decode cX11_between 80 = .ok (.aaload, 1) := by decide +kernel
theorem dX11_between_81 : decode cX11_between 81 = .ok (.iload_n 2, 1) := by decide +kernel
theorem dX11_between_82 : decode cX11_between 82 = .ok (.iaload, 1) := by decide +kernel
theorem dX11_between_83 : decode cX11_between 83 = .ok (.iload 4, 2) := by decide +kernel
theorem dX11_between_85 : decode cX11_between 85 = .ok (.iload 5, 2) := by decide +kernel
theorem dX11_between_87 : decode cX11_between 87 = .ok (.invokevirtual 276, 3) := by decide +kernel
theorem dX11_between_90 : decode cX11_between 90 = .ok (.ifCond .eq 5, 3) := by decide +kernel
theorem dX11_between_93 : decode cX11_between 93 = .ok (.iload_n 3, 1) := by decide +kernel
theorem dX11_between_94 : decode cX11_between 94 = .ok (.ireturn, 1) := by decide +kernel
theorem dX11_between_95 : decode cX11_between 95 = .ok (.iinc 3 1, 3) := by decide +kernel
theorem dX11_between_98 : decode cX11_between 98 = .ok (.goto (-78), 3) := by decide +kernel
theorem dX11_between_101 : decode cX11_between 101 = .ok (.iconst (-1), 1) := by decide +kernel
theorem dX11_between_102 : decode cX11_between 102 = .ok (.ireturn, 1) := by decide +kernel
theorem dX11_chosen_0 : decode cX11_chosen 0 = .ok (.bipush 8, 2) := by decide +kernel
theorem dX11_chosen_2 : decode cX11_chosen 2 = .ok (.aload_n 0, 1) := by decide +kernel
theorem dX11_chosen_3 : decode cX11_chosen 3 = .ok (.invokevirtual 242, 3) := by decide +kernel
theorem dX11_chosen_6 : decode cX11_chosen 6 = .ok (.invokestatic 198, 3) := by decide +kernel
theorem dX11_chosen_9 : decode cX11_chosen 9 = .ok (.ireturn, 1) := by decide +kernel
theorem dX11_gain_0 : decode cX11_gain 0 = .ok (.aload_n 0, 1) := by decide +kernel
theorem dX11_gain_1 : decode cX11_gain 1 = .ok (.iload_n 1, 1) := by decide +kernel
theorem dX11_gain_2 : decode cX11_gain 2 = .ok (.iload_n 2, 1) := by decide +kernel
theorem dX11_gain_3 : decode cX11_gain 3 = .ok (.invokevirtual 280, 3) := by decide +kernel
theorem dX11_gain_6 : decode cX11_gain 6 = .ok (.aload_n 0, 1) := by decide +kernel
theorem dX11_gain_7 : decode cX11_gain 7 = .ok (.iload_n 2, 1) := by decide +kernel
theorem dX11_gain_8 : decode cX11_gain 8 = .ok (.iload_n 1, 1) := by decide +kernel
theorem dX11_gain_9 : decode cX11_gain 9 = .ok (.invokevirtual 280, 3) := by decide +kernel
theorem dX11_gain_12 : decode cX11_gain 12 = .ok (.isub, 1) := by decide +kernel
theorem dX11_gain_13 : decode cX11_gain 13 = .ok (.ireturn, 1) := by decide +kernel
theorem dX11_rest_0 : decode cX11_rest 0 = .ok (.iconst 0, 1) := by decide +kernel
theorem dX11_rest_1 : decode cX11_rest 1 = .ok (.istore_n 1, 1) := by decide +kernel
theorem dX11_rest_2 : decode cX11_rest 2 = .ok (.iload_n 1, 1) := by decide +kernel
theorem dX11_rest_3 : decode cX11_rest 3 = .ok (.aload_n 0, 1) := by decide +kernel
theorem dX11_rest_4 : decode cX11_rest 4 = .ok (.invokevirtual 372, 3) := by decide +kernel
theorem dX11_rest_7 : decode cX11_rest 7 = .ok (.if_icmp .ge 52, 3) := by decide +kernel
theorem dX11_rest_10 : decode cX11_rest 10 = .ok (.iconst 1, 1) := by decide +kernel
theorem dX11_rest_11 : decode cX11_rest 11 = .ok (.istore_n 2, 1) := by decide +kernel
theorem dX11_rest_12 : decode cX11_rest 12 = .ok (.iconst 0, 1) := by decide +kernel
theorem dX11_rest_13 : decode cX11_rest 13 = .ok (.istore_n 3, 1) := by decide +kernel
theorem dX11_rest_14 : decode cX11_rest 14 = .ok (.iload_n 3, 1) := by decide +kernel
theorem dX11_rest_15 : decode cX11_rest 15 = .ok (.aload_n 0, 1) := by decide +kernel
theorem dX11_rest_16 : decode cX11_rest 16 = .ok (.invokevirtual 372, 3) := by decide +kernel
theorem dX11_rest_19 : decode cX11_rest 19 = .ok (.if_icmp .ge 28, 3) := by decide +kernel
theorem dX11_rest_22 : decode cX11_rest 22 = .ok (.iload_n 2, 1) := by decide +kernel
theorem dX11_rest_23 : decode cX11_rest 23 = .ok (.ifCond .eq 16, 3) := by decide +kernel
theorem dX11_rest_26 : decode cX11_rest 26 = .ok (.aload_n 0, 1) := by decide +kernel
theorem dX11_rest_27 : decode cX11_rest 27 = .ok (.iload_n 3, 1) := by decide +kernel
theorem dX11_rest_28 : decode cX11_rest 28 = .ok (.iload_n 1, 1) := by decide +kernel
theorem dX11_rest_29 : decode cX11_rest 29 = .ok (.invokevirtual 375, 3) := by decide +kernel
theorem dX11_rest_32 : decode cX11_rest 32 = .ok (.ifCond .gt 7, 3) := by decide +kernel
theorem dX11_rest_35 : decode cX11_rest 35 = .ok (.iconst 1, 1) := by decide +kernel
theorem dX11_rest_36 : decode cX11_rest 36 = .ok (.goto 4, 3) := by decide +kernel
theorem dX11_rest_39 : decode cX11_rest 39 = .ok (.iconst 0, 1) := by decide +kernel
theorem dX11_rest_40 : decode cX11_rest 40 = .ok (.istore_n 2, 1) := by decide +kernel
theorem dX11_rest_41 : decode cX11_rest 41 = .ok (.iinc 3 1, 3) := by decide +kernel
theorem dX11_rest_44 : decode cX11_rest 44 = .ok (.goto (-30), 3) := by decide +kernel
theorem dX11_rest_47 : decode cX11_rest 47 = .ok (.iload_n 2, 1) := by decide +kernel
theorem dX11_rest_48 : decode cX11_rest 48 = .ok (.ifCond .eq 5, 3) := by decide +kernel
theorem dX11_rest_51 : decode cX11_rest 51 = .ok (.iload_n 1, 1) := by decide +kernel
theorem dX11_rest_52 : decode cX11_rest 52 = .ok (.ireturn, 1) := by decide +kernel
theorem dX11_rest_53 : decode cX11_rest 53 = .ok (.iinc 1 1, 3) := by decide +kernel
theorem dX11_rest_56 : decode cX11_rest 56 = .ok (.goto (-54), 3) := by decide +kernel
theorem dX11_rest_59 : decode cX11_rest 59 = .ok (.iconst (-1), 1) := by decide +kernel
theorem dX11_rest_60 : decode cX11_rest 60 = .ok (.ireturn, 1) := by decide +kernel
theorem dX11_coupled_0 : decode cX11_coupled 0 = .ok (.iload_n 1, 1) := by decide +kernel
theorem dX11_coupled_1 : decode cX11_coupled 1 = .ok (.ifCond .ne 5, 3) := by decide +kernel
theorem dX11_coupled_4 : decode cX11_coupled 4 = .ok (.lconst 1, 1) := by decide +kernel
theorem dX11_coupled_5 : decode cX11_coupled 5 = .ok (.lreturn, 1) := by decide +kernel
theorem dX11_coupled_6 : decode cX11_coupled 6 = .ok (.iload_n 1, 1) := by decide +kernel
theorem dX11_coupled_7 : decode cX11_coupled 7 = .ok (.invokestatic 378, 3) := by decide +kernel
theorem dX11_coupled_10 : decode cX11_coupled 10 = .ok (.istore_n 2, 1) := by decide +kernel
theorem dX11_coupled_11 : decode cX11_coupled 11 = .ok (.iload_n 1, 1) := by decide +kernel
theorem dX11_coupled_12 : decode cX11_coupled 12 = .ok (.iconst 1, 1) := by decide +kernel
theorem dX11_coupled_13 : decode cX11_coupled 13 = .ok (.iload_n 2, 1) := by decide +kernel
theorem dX11_coupled_14 : decode cX11_coupled 14 = .ok (.ishl, 1) := by decide +kernel
theorem dX11_coupled_15 : decode cX11_coupled 15 = .ok (.iconst (-1), 1) := by decide +kernel
theorem dX11_coupled_16 : decode cX11_coupled 16 = .ok (.ixor, 1) := by decide +kernel
theorem dX11_coupled_17 : decode cX11_coupled 17 = .ok (.iand, 1) := by decide +kernel
theorem dX11_coupled_18 : decode cX11_coupled 18 = .ok (.istore_n 3, 1) := by decide +kernel
theorem dX11_coupled_19 : decode cX11_coupled 19 = .ok (.lconst 0, 1) := by decide +kernel
theorem dX11_coupled_20 : decode cX11_coupled 20 = .ok (.lstore 4, 2) := by decide +kernel
theorem dX11_coupled_22 : decode cX11_coupled 22 = .ok (.iconst 1, 1) := by decide +kernel
theorem dX11_coupled_23 : decode cX11_coupled 23 = .ok (.istore 6, 2) := by decide +kernel
theorem dX11_coupled_25 : decode cX11_coupled 25 = .ok (.iload_n 2, 1) := by decide +kernel
theorem dX11_coupled_26 : decode cX11_coupled 26 = .ok (.iconst 1, 1) := by decide +kernel
theorem dX11_coupled_27 : decode cX11_coupled 27 = .ok (.iadd, 1) := by decide +kernel
theorem dX11_coupled_28 : decode cX11_coupled 28 = .ok (.istore 7, 2) := by decide +kernel
theorem dX11_coupled_30 : decode cX11_coupled 30 = .ok (.iload 7, 2) := by decide +kernel
theorem dX11_coupled_32 : decode cX11_coupled 32 = .ok (.bipush 8, 2) := by decide +kernel
theorem dX11_coupled_34 : decode cX11_coupled 34 = .ok (.if_icmp .ge 71, 3) := by decide +kernel
theorem dX11_coupled_37 : decode cX11_coupled 37 = .ok (.iload_n 3, 1) := by decide +kernel
theorem dX11_coupled_38 : decode cX11_coupled 38 = .ok (.iload 7, 2) := by decide +kernel
theorem dX11_coupled_40 : decode cX11_coupled 40 = .ok (.ishr, 1) := by decide +kernel
theorem dX11_coupled_41 : decode cX11_coupled 41 = .ok (.iconst 1, 1) := by decide +kernel
theorem dX11_coupled_42 : decode cX11_coupled 42 = .ok (.iand, 1) := by decide +kernel
theorem dX11_coupled_43 : decode cX11_coupled 43 = .ok (.ifCond .ne 6, 3) := by decide +kernel
theorem dX11_coupled_46 : decode cX11_coupled 46 = .ok (.goto 53, 3) := by decide +kernel
theorem dX11_coupled_49 : decode cX11_coupled 49 = .ok (.aload_n 0, 1) := by decide +kernel
theorem dX11_coupled_50 : decode cX11_coupled 50 = .ok (.getfield 99, 3) := by decide +kernel
theorem dX11_coupled_53 : decode cX11_coupled 53 = .ok (.iload_n 2, 1) := by decide +kernel
theorem dX11_coupled_54 : decode cX11_coupled 54 = .ok (.aaload, 1) := by decide +kernel
theorem dX11_coupled_55 : decode cX11_coupled 55 = .ok (.iload 7, 2) := by decide +kernel
theorem dX11_coupled_57 : decode cX11_coupled 57 = .ok (.laload, 1) := by decide +kernel
theorem dX11_coupled_58 : decode cX11_coupled 58 = .ok (.lconst 0, 1) := by decide +kernel
theorem dX11_coupled_59 : decode cX11_coupled 59 = .ok (.lcmp, 1) := by decide +kernel
theorem dX11_coupled_60 : decode cX11_coupled 60 = .ok (.ifCond .eq 34, 3) := by decide +kernel
theorem dX11_coupled_63 : decode cX11_coupled 63 = .ok (.lload 4, 2) := by decide +kernel
theorem dX11_coupled_65 : decode cX11_coupled 65 = .ok (.iload 6, 2) := by decide +kernel
theorem dX11_coupled_67 : decode cX11_coupled 67 = .ok (.i2l, 1) := by decide +kernel
theorem dX11_coupled_68 : decode cX11_coupled 68 = .ok (.aload_n 0, 1) := by decide +kernel
theorem dX11_coupled_69 : decode cX11_coupled 69 = .ok (.getfield 99, 3) := by decide +kernel
theorem dX11_coupled_72 : decode cX11_coupled 72 = .ok (.iload_n 2, 1) := by decide +kernel
theorem dX11_coupled_73 : decode cX11_coupled 73 = .ok (.aaload, 1) := by decide +kernel
theorem dX11_coupled_74 : decode cX11_coupled 74 = .ok (.iload 7, 2) := by decide +kernel
theorem dX11_coupled_76 : decode cX11_coupled 76 = .ok (.laload, 1) := by decide +kernel
theorem dX11_coupled_77 : decode cX11_coupled 77 = .ok (.lmul, 1) := by decide +kernel
theorem dX11_coupled_78 : decode cX11_coupled 78 = .ok (.aload_n 0, 1) := by decide +kernel
theorem dX11_coupled_79 : decode cX11_coupled 79 = .ok (.iload_n 3, 1) := by decide +kernel
theorem dX11_coupled_80 : decode cX11_coupled 80 = .ok (.iconst 1, 1) := by decide +kernel
theorem dX11_coupled_81 : decode cX11_coupled 81 = .ok (.iload 7, 2) := by decide +kernel
theorem dX11_coupled_83 : decode cX11_coupled 83 = .ok (.ishl, 1) := by decide +kernel
theorem dX11_coupled_84 : decode cX11_coupled 84 = .ok (.iconst (-1), 1) := by decide +kernel
theorem dX11_coupled_85 : decode cX11_coupled 85 = .ok (.ixor, 1) := by decide +kernel
theorem dX11_coupled_86 : decode cX11_coupled 86 = .ok (.iand, 1) := by decide +kernel
theorem dX11_coupled_87 : decode cX11_coupled 87 = .ok (.invokevirtual 383, 3) := by decide +kernel
theorem dX11_coupled_90 : decode cX11_coupled 90 = .ok (.lmul, 1) := by decide +kernel
theorem dX11_coupled_91 : decode cX11_coupled 91 = .ok (.ladd, 1) := by decide +kernel
theorem dX11_coupled_92 : decode cX11_coupled 92 = .ok (.lstore 4, 2) := by decide +kernel
theorem dX11_coupled_94 : decode cX11_coupled 94 = .ok (.iload 6, 2) := by decide +kernel
theorem dX11_coupled_96 : decode cX11_coupled 96 = .ok (.ineg, 1) := by decide +kernel
theorem dX11_coupled_97 : decode cX11_coupled 97 = .ok (.istore 6, 2) := by decide +kernel
theorem dX11_coupled_99 : decode cX11_coupled 99 = .ok (.iinc 7 1, 3) := by decide +kernel
theorem dX11_coupled_102 : decode cX11_coupled 102 = .ok (.goto (-72), 3) := by decide +kernel
theorem dX11_coupled_105 : decode cX11_coupled 105 = .ok (.lload 4, 2) := by decide +kernel
theorem dX11_coupled_107 : decode cX11_coupled 107 = .ok (.lreturn, 1) := by decide +kernel
theorem dX11_isLot_0 : decode cX11_isLot 0 = .ok (.iconst 1, 1) := by decide +kernel
theorem dX11_isLot_1 : decode cX11_isLot 1 = .ok (.istore_n 2, 1) := by decide +kernel
theorem dX11_isLot_2 : decode cX11_isLot 2 = .ok (.lconst 0, 1) := by decide +kernel
theorem dX11_isLot_3 : decode cX11_isLot 3 = .ok (.lstore_n 3, 1) := by decide +kernel
theorem dX11_isLot_4 : decode cX11_isLot 4 = .ok (.iconst 0, 1) := by decide +kernel
theorem dX11_isLot_5 : decode cX11_isLot 5 = .ok (.istore 5, 2) := by decide +kernel
theorem dX11_isLot_7 : decode cX11_isLot 7 = .ok (.iconst 0, 1) := by decide +kernel
theorem dX11_isLot_8 : decode cX11_isLot 8 = .ok (.istore 6, 2) := by decide +kernel
theorem dX11_isLot_10 : decode cX11_isLot 10 = .ok (.iconst 0, 1) := by decide +kernel
theorem dX11_isLot_11 : decode cX11_isLot 11 = .ok (.istore 7, 2) := by decide +kernel
theorem dX11_isLot_13 : decode cX11_isLot 13 = .ok (.iload 7, 2) := by decide +kernel
theorem dX11_isLot_15 : decode cX11_isLot 15 = .ok (.bipush 8, 2) := by decide +kernel
theorem dX11_isLot_17 : decode cX11_isLot 17 = .ok (.if_icmp .ge 110, 3) := by decide +kernel
theorem dX11_isLot_20 : decode cX11_isLot 20 = .ok (.aload_n 0, 1) := by decide +kernel
theorem dX11_isLot_21 : decode cX11_isLot 21 = .ok (.getfield 102, 3) := by decide +kernel
theorem dX11_isLot_24 : decode cX11_isLot 24 = .ok (.iload 7, 2) := by decide +kernel
theorem dX11_isLot_26 : decode cX11_isLot 26 = .ok (.lconst 0, 1) := by decide +kernel
theorem dX11_isLot_27 : decode cX11_isLot 27 = .ok (.lastore, 1) := by decide +kernel
theorem dX11_isLot_28 : decode cX11_isLot 28 = .ok (.iload_n 1, 1) := by decide +kernel
theorem dX11_isLot_29 : decode cX11_isLot 29 = .ok (.iload 7, 2) := by decide +kernel
theorem dX11_isLot_31 : decode cX11_isLot 31 = .ok (.ishr, 1) := by decide +kernel
theorem dX11_isLot_32 : decode cX11_isLot 32 = .ok (.iconst 1, 1) := by decide +kernel
theorem dX11_isLot_33 : decode cX11_isLot 33 = .ok (.iand, 1) := by decide +kernel
theorem dX11_isLot_34 : decode cX11_isLot 34 = .ok (.ifCond .ne 6, 3) := by decide +kernel
theorem dX11_isLot_37 : decode cX11_isLot 37 = .ok (.goto 84, 3) := by decide +kernel
theorem dX11_isLot_40 : decode cX11_isLot 40 = .ok (.aload_n 0, 1) := by decide +kernel
theorem dX11_isLot_41 : decode cX11_isLot 41 = .ok (.getfield 102, 3) := by decide +kernel
theorem dX11_isLot_44 : decode cX11_isLot 44 = .ok (.iload 7, 2) := by decide +kernel
theorem dX11_isLot_46 : decode cX11_isLot 46 = .ok (.iload_n 2, 1) := by decide +kernel
theorem dX11_isLot_47 : decode cX11_isLot 47 = .ok (.i2l, 1) := by decide +kernel
theorem dX11_isLot_48 : decode cX11_isLot 48 = .ok (.aload_n 0, 1) := by decide +kernel
theorem dX11_isLot_49 : decode cX11_isLot 49 = .ok (.iload_n 1, 1) := by decide +kernel
theorem dX11_isLot_50 : decode cX11_isLot 50 = .ok (.iconst 1, 1) := by decide +kernel
theorem dX11_isLot_51 : decode cX11_isLot 51 = .ok (.iload 7, 2) := by decide +kernel
theorem dX11_isLot_53 : decode cX11_isLot 53 = .ok (.ishl, 1) := by decide +kernel
theorem dX11_isLot_54 : decode cX11_isLot 54 = .ok (.iconst (-1), 1) := by decide +kernel
theorem dX11_isLot_55 : decode cX11_isLot 55 = .ok (.ixor, 1) := by decide +kernel
theorem dX11_isLot_56 : decode cX11_isLot 56 = .ok (.iand, 1) := by decide +kernel
theorem dX11_isLot_57 : decode cX11_isLot 57 = .ok (.invokevirtual 383, 3) := by decide +kernel
theorem dX11_isLot_60 : decode cX11_isLot 60 = .ok (.lmul, 1) := by decide +kernel
theorem dX11_isLot_61 : decode cX11_isLot 61 = .ok (.lastore, 1) := by decide +kernel
theorem dX11_isLot_62 : decode cX11_isLot 62 = .ok (.iload_n 2, 1) := by decide +kernel
theorem dX11_isLot_63 : decode cX11_isLot 63 = .ok (.ineg, 1) := by decide +kernel
theorem dX11_isLot_64 : decode cX11_isLot 64 = .ok (.istore_n 2, 1) := by decide +kernel
theorem dX11_isLot_65 : decode cX11_isLot 65 = .ok (.iload 6, 2) := by decide +kernel
theorem dX11_isLot_67 : decode cX11_isLot 67 = .ok (.aload_n 0, 1) := by decide +kernel
theorem dX11_isLot_68 : decode cX11_isLot 68 = .ok (.getfield 102, 3) := by decide +kernel
theorem dX11_isLot_71 : decode cX11_isLot 71 = .ok (.iload 7, 2) := by decide +kernel
theorem dX11_isLot_73 : decode cX11_isLot 73 = .ok (.laload, 1) := by decide +kernel
theorem dX11_isLot_74 : decode cX11_isLot 74 = .ok (.lconst 0, 1) := by decide +kernel
theorem dX11_isLot_75 : decode cX11_isLot 75 = .ok (.lcmp, 1) := by decide +kernel
theorem dX11_isLot_76 : decode cX11_isLot 76 = .ok (.ifCond .le 7, 3) := by decide +kernel
theorem dX11_isLot_79 : decode cX11_isLot 79 = .ok (.iconst 1, 1) := by decide +kernel
theorem dX11_isLot_80 : decode cX11_isLot 80 = .ok (.goto 4, 3) := by decide +kernel
theorem dX11_isLot_83 : decode cX11_isLot 83 = .ok (.iconst 0, 1) := by decide +kernel
theorem dX11_isLot_84 : decode cX11_isLot 84 = .ok (.iadd, 1) := by decide +kernel
theorem dX11_isLot_85 : decode cX11_isLot 85 = .ok (.istore 6, 2) := by decide +kernel
theorem dX11_isLot_87 : decode cX11_isLot 87 = .ok (.iload 5, 2) := by decide +kernel
theorem dX11_isLot_89 : decode cX11_isLot 89 = .ok (.aload_n 0, 1) := by decide +kernel
theorem dX11_isLot_90 : decode cX11_isLot 90 = .ok (.getfield 102, 3) := by decide +kernel
theorem dX11_isLot_93 : decode cX11_isLot 93 = .ok (.iload 7, 2) := by decide +kernel
theorem dX11_isLot_95 : decode cX11_isLot 95 = .ok (.laload, 1) := by decide +kernel
theorem dX11_isLot_96 : decode cX11_isLot 96 = .ok (.lconst 0, 1) := by decide +kernel
theorem dX11_isLot_97 : decode cX11_isLot 97 = .ok (.lcmp, 1) := by decide +kernel
theorem dX11_isLot_98 : decode cX11_isLot 98 = .ok (.ifCond .ge 7, 3) := by decide +kernel
theorem dX11_isLot_101 : decode cX11_isLot 101 = .ok (.iconst 1, 1) := by decide +kernel
theorem dX11_isLot_102 : decode cX11_isLot 102 = .ok (.goto 4, 3) := by decide +kernel
theorem dX11_isLot_105 : decode cX11_isLot 105 = .ok (.iconst 0, 1) := by decide +kernel
theorem dX11_isLot_106 : decode cX11_isLot 106 = .ok (.iadd, 1) := by decide +kernel
theorem dX11_isLot_107 : decode cX11_isLot 107 = .ok (.istore 5, 2) := by decide +kernel
theorem dX11_isLot_109 : decode cX11_isLot 109 = .ok (.lload_n 3, 1) := by decide +kernel
theorem dX11_isLot_110 : decode cX11_isLot 110 = .ok (.aload_n 0, 1) := by decide +kernel
theorem dX11_isLot_111 : decode cX11_isLot 111 = .ok (.getfield 102, 3) := by decide +kernel
theorem dX11_isLot_114 : decode cX11_isLot 114 = .ok (.iload 7, 2) := by decide +kernel
theorem dX11_isLot_116 : decode cX11_isLot 116 = .ok (.laload, 1) := by decide +kernel
theorem dX11_isLot_117 : decode cX11_isLot 117 = .ok (.invokestatic 294, 3) := by decide +kernel
theorem dX11_isLot_120 : decode cX11_isLot 120 = .ok (.lstore_n 3, 1) := by decide +kernel
theorem dX11_isLot_121 : decode cX11_isLot 121 = .ok (.iinc 7 1, 3) := by decide +kernel
theorem dX11_isLot_124 : decode cX11_isLot 124 = .ok (.goto (-111), 3) := by decide +kernel
theorem dX11_isLot_127 : decode cX11_isLot 127 = .ok (.iload_n 1, 1) := by decide +kernel
theorem dX11_isLot_128 : decode cX11_isLot 128 = .ok (.invokestatic 387, 3) := by decide +kernel
theorem dX11_isLot_131 : decode cX11_isLot 131 = .ok (.istore 7, 2) := by decide +kernel
theorem dX11_isLot_133 : decode cX11_isLot 133 = .ok (.iload 6, 2) := by decide +kernel
theorem dX11_isLot_135 : decode cX11_isLot 135 = .ok (.iload 7, 2) := by decide +kernel
theorem dX11_isLot_137 : decode cX11_isLot 137 = .ok (.if_icmp .eq 12, 3) := by decide +kernel
theorem dX11_isLot_140 : decode cX11_isLot 140 = .ok (.iload 5, 2) := by decide +kernel
theorem dX11_isLot_142 : decode cX11_isLot 142 = .ok (.iload 7, 2) := by decide +kernel
theorem dX11_isLot_144 : decode cX11_isLot 144 = .ok (.if_icmp .eq 5, 3) := by decide +kernel
theorem dX11_isLot_147 : decode cX11_isLot 147 = .ok (.iconst 0, 1) := by decide +kernel
theorem dX11_isLot_148 : decode cX11_isLot 148 = .ok (.ireturn, 1) := by decide +kernel
theorem dX11_isLot_149 : decode cX11_isLot 149 = .ok (.iconst 0, 1) := by decide +kernel
theorem dX11_isLot_150 : decode cX11_isLot 150 = .ok (.istore 8, 2) := by decide +kernel
theorem dX11_isLot_152 : decode cX11_isLot 152 = .ok (.iload 8, 2) := by decide +kernel
theorem dX11_isLot_154 : decode cX11_isLot 154 = .ok (.bipush 8, 2) := by decide +kernel
theorem dX11_isLot_156 : decode cX11_isLot 156 = .ok (.if_icmp .ge 41, 3) := by decide +kernel
theorem dX11_isLot_159 : decode cX11_isLot 159 = .ok (.aload_n 0, 1) := by decide +kernel
theorem dX11_isLot_160 : decode cX11_isLot 160 = .ok (.getfield 102, 3) := by decide +kernel
theorem dX11_isLot_163 : decode cX11_isLot 163 = .ok (.iload 8, 2) := by decide +kernel
theorem dX11_isLot_165 : decode cX11_isLot 165 = .ok (.iload 5, 2) := by decide +kernel
theorem dX11_isLot_167 : decode cX11_isLot 167 = .ok (.ifCond .le 14, 3) := by decide +kernel
theorem dX11_isLot_170 : decode cX11_isLot 170 = .ok (.aload_n 0, 1) := by decide +kernel
theorem dX11_isLot_171 : decode cX11_isLot 171 = .ok (.getfield 102, 3) := by decide +kernel
theorem dX11_isLot_174 : decode cX11_isLot 174 = .ok (.iload 8, 2) := by decide +kernel
theorem dX11_isLot_176 : decode cX11_isLot 176 = .ok (.laload, 1) := by decide +kernel
theorem dX11_isLot_177 : decode cX11_isLot 177 = .ok (.lneg, 1) := by decide +kernel
theorem dX11_isLot_178 : decode cX11_isLot 178 = .ok (.goto 10, 3) := by decide +kernel
theorem dX11_isLot_181 : decode cX11_isLot 181 = .ok (.aload_n 0, 1) := by decide +kernel
theorem dX11_isLot_182 : decode cX11_isLot 182 = .ok (.getfield 102, 3) := by decide +kernel
theorem dX11_isLot_185 : decode cX11_isLot 185 = .ok (.iload 8, 2) := by decide +kernel
theorem dX11_isLot_187 : decode cX11_isLot 187 = .ok (.laload, 1) := by decide +kernel
theorem dX11_isLot_188 : decode cX11_isLot 188 = .ok (.lload_n 3, 1) := by decide +kernel
theorem dX11_isLot_189 : decode cX11_isLot 189 = .ok (.ldiv, 1) := by decide +kernel
theorem dX11_isLot_190 : decode cX11_isLot 190 = .ok (.lastore, 1) := by decide +kernel
theorem dX11_isLot_191 : decode cX11_isLot 191 = .ok (.iinc 8 1, 3) := by decide +kernel
theorem dX11_isLot_194 : decode cX11_isLot 194 = .ok (.goto (-42), 3) := by decide +kernel
theorem dX11_isLot_197 : decode cX11_isLot 197 = .ok (.iconst 0, 1) := by decide +kernel
theorem dX11_isLot_198 : decode cX11_isLot 198 = .ok (.istore 8, 2) := by decide +kernel
theorem dX11_isLot_200 : decode cX11_isLot 200 = .ok (.iload 8, 2) := by decide +kernel
theorem dX11_isLot_202 : decode cX11_isLot 202 = .ok (.aload_n 0, 1) := by decide +kernel
theorem dX11_isLot_203 : decode cX11_isLot 203 = .ok (.invokevirtual 372, 3) := by decide +kernel
theorem dX11_isLot_206 : decode cX11_isLot 206 = .ok (.if_icmp .ge 62, 3) := by decide +kernel
theorem dX11_isLot_209 : decode cX11_isLot 209 = .ok (.lconst 0, 1) := by decide +kernel
theorem dX11_isLot_210 : decode cX11_isLot 210 = .ok (.lstore 9, 2) := by decide +kernel
theorem dX11_isLot_212 : decode cX11_isLot 212 = .ok (.iconst 0, 1) := by decide +kernel
theorem dX11_isLot_213 : decode cX11_isLot 213 = .ok (.istore 11, 2) := by decide +kernel
theorem dX11_isLot_215 : decode cX11_isLot 215 = .ok (.iload 11, 2) := by decide +kernel
theorem dX11_isLot_217 : decode cX11_isLot 217 = .ok (.aload_n 0, 1) := by decide +kernel
theorem dX11_isLot_218 : decode cX11_isLot 218 = .ok (.invokevirtual 372, 3) := by decide +kernel
theorem dX11_isLot_221 : decode cX11_isLot 221 = .ok (.if_icmp .ge 32, 3) := by decide +kernel
theorem dX11_isLot_224 : decode cX11_isLot 224 = .ok (.lload 9, 2) := by decide +kernel
theorem dX11_isLot_226 : decode cX11_isLot 226 = .ok (.aload_n 0, 1) := by decide +kernel
theorem dX11_isLot_227 : decode cX11_isLot 227 = .ok (.getfield 99, 3) := by decide +kernel
theorem dX11_isLot_230 : decode cX11_isLot 230 = .ok (.iload 8, 2) := by decide +kernel
theorem dX11_isLot_232 : decode cX11_isLot 232 = .ok (.aaload, 1) := by decide +kernel
theorem dX11_isLot_233 : decode cX11_isLot 233 = .ok (.iload 11, 2) := by decide +kernel
theorem dX11_isLot_235 : decode cX11_isLot 235 = .ok (.laload, 1) := by decide +kernel
theorem dX11_isLot_236 : decode cX11_isLot 236 = .ok (.aload_n 0, 1) := by decide +kernel
theorem dX11_isLot_237 : decode cX11_isLot 237 = .ok (.getfield 102, 3) := by decide +kernel
theorem dX11_isLot_240 : decode cX11_isLot 240 = .ok (.iload 11, 2) := by decide +kernel
theorem dX11_isLot_242 : decode cX11_isLot 242 = .ok (.laload, 1) := by decide +kernel
theorem dX11_isLot_243 : decode cX11_isLot 243 = .ok (.lmul, 1) := by decide +kernel
theorem dX11_isLot_244 : decode cX11_isLot 244 = .ok (.ladd, 1) := by decide +kernel
theorem dX11_isLot_245 : decode cX11_isLot 245 = .ok (.lstore 9, 2) := by decide +kernel
theorem dX11_isLot_247 : decode cX11_isLot 247 = .ok (.iinc 11 1, 3) := by decide +kernel
theorem dX11_isLot_250 : decode cX11_isLot 250 = .ok (.goto (-35), 3) := by decide +kernel
theorem dX11_isLot_253 : decode cX11_isLot 253 = .ok (.lload 9, 2) := by decide +kernel
theorem dX11_isLot_255 : decode cX11_isLot 255 = .ok (.lconst 0, 1) := by decide +kernel
theorem dX11_isLot_256 : decode cX11_isLot 256 = .ok (.lcmp, 1) := by decide +kernel
theorem dX11_isLot_257 : decode cX11_isLot 257 = .ok (.ifCond .le 5, 3) := by decide +kernel
theorem dX11_isLot_260 : decode cX11_isLot 260 = .ok (.iconst 0, 1) := by decide +kernel
theorem dX11_isLot_261 : decode cX11_isLot 261 = .ok (.ireturn, 1) := by decide +kernel
theorem dX11_isLot_262 : decode cX11_isLot 262 = .ok (.iinc 8 1, 3) := by decide +kernel
theorem dX11_isLot_265 : decode cX11_isLot 265 = .ok (.goto (-65), 3) := by decide +kernel
theorem dX11_isLot_268 : decode cX11_isLot 268 = .ok (.iconst 1, 1) := by decide +kernel
theorem dX11_isLot_269 : decode cX11_isLot 269 = .ok (.ireturn, 1) := by decide +kernel
theorem dX11_findsLots_0 : decode cX11_findsLots 0 = .ok (.iconst 0, 1) := by decide +kernel
theorem dX11_findsLots_1 : decode cX11_findsLots 1 = .ok (.istore_n 1, 1) := by decide +kernel
theorem dX11_findsLots_2 : decode cX11_findsLots 2 = .ok (.iload_n 1, 1) := by decide +kernel
theorem dX11_findsLots_3 : decode cX11_findsLots 3 = .ok (.aload_n 0, 1) := by decide +kernel
theorem dX11_findsLots_4 : decode cX11_findsLots 4 = .ok (.invokevirtual 372, 3) := by decide +kernel
theorem dX11_findsLots_7 : decode cX11_findsLots 7 = .ok (.if_icmp .ge 40, 3) := by decide +kernel
theorem dX11_findsLots_10 : decode cX11_findsLots 10 = .ok (.iconst 0, 1) := by decide +kernel
theorem dX11_findsLots_11 : decode cX11_findsLots 11 = .ok (.istore_n 2, 1) := by decide +kernel
theorem dX11_findsLots_12 : decode cX11_findsLots 12 = .ok (.iload_n 2, 1) := by decide +kernel
theorem dX11_findsLots_13 : decode cX11_findsLots 13 = .ok (.aload_n 0, 1) := by decide +kernel
theorem dX11_findsLots_14 : decode cX11_findsLots 14 = .ok (.invokevirtual 372, 3) := by decide +kernel
theorem dX11_findsLots_17 : decode cX11_findsLots 17 = .ok (.if_icmp .ge 24, 3) := by decide +kernel
theorem dX11_findsLots_20 : decode cX11_findsLots 20 = .ok (.aload_n 0, 1) := by decide +kernel
theorem dX11_findsLots_21 : decode cX11_findsLots 21 = .ok (.getfield 99, 3) := by decide +kernel
theorem dX11_findsLots_24 : decode cX11_findsLots 24 = .ok (.iload_n 1, 1) := by decide +kernel
theorem dX11_findsLots_25 : decode cX11_findsLots 25 = .ok (.aaload, 1) := by decide +kernel
theorem dX11_findsLots_26 : decode cX11_findsLots 26 = .ok (.iload_n 2, 1) := by decide +kernel
theorem dX11_findsLots_27 : decode cX11_findsLots 27 = .ok (.aload_n 0, 1) := by decide +kernel
theorem dX11_findsLots_28 : decode cX11_findsLots 28 = .ok (.iload_n 1, 1) := by decide +kernel
theorem dX11_findsLots_29 : decode cX11_findsLots 29 = .ok (.iload_n 2, 1) := by decide +kernel
theorem dX11_findsLots_30 : decode cX11_findsLots 30 = .ok (.invokevirtual 375, 3) := by decide +kernel
theorem dX11_findsLots_33 : decode cX11_findsLots 33 = .ok (.i2l, 1) := by decide +kernel
theorem dX11_findsLots_34 : decode cX11_findsLots 34 = .ok (.lastore, 1) := by decide +kernel
theorem dX11_findsLots_35 : decode cX11_findsLots 35 = .ok (.iinc 2 1, 3) := by decide +kernel
theorem dX11_findsLots_38 : decode cX11_findsLots 38 = .ok (.goto (-26), 3) := by decide +kernel
theorem dX11_findsLots_41 : decode cX11_findsLots 41 = .ok (.iinc 1 1, 3) := by decide +kernel
theorem dX11_findsLots_44 : decode cX11_findsLots 44 = .ok (.goto (-42), 3) := by decide +kernel
theorem dX11_findsLots_47 : decode cX11_findsLots 47 = .ok (.iconst 1, 1) := by decide +kernel
theorem dX11_findsLots_48 : decode cX11_findsLots 48 = .ok (.istore_n 1, 1) := by decide +kernel
theorem dX11_findsLots_49 : decode cX11_findsLots 49 = .ok (.iload_n 1, 1) := by decide +kernel
theorem dX11_findsLots_50 : decode cX11_findsLots 50 = .ok (.aload_n 0, 1) := by decide +kernel
theorem dX11_findsLots_51 : decode cX11_findsLots 51 = .ok (.invokevirtual 372, 3) := by decide +kernel
theorem dX11_findsLots_54 : decode cX11_findsLots 54 = .ok (.if_icmp .gt 45, 3) := by decide +kernel
theorem dX11_findsLots_57 : decode cX11_findsLots 57 = .ok (.iconst 1, 1) := by decide +kernel
theorem dX11_findsLots_58 : decode cX11_findsLots 58 = .ok (.istore_n 2, 1) := by decide +kernel
theorem dX11_findsLots_59 : decode cX11_findsLots 59 = .ok (.iload_n 2, 1) := by decide +kernel
theorem dX11_findsLots_60 : decode cX11_findsLots 60 = .ok (.iconst 1, 1) := by decide +kernel
theorem dX11_findsLots_61 : decode cX11_findsLots 61 = .ok (.aload_n 0, 1) := by decide +kernel
theorem dX11_findsLots_62 : decode cX11_findsLots 62 = .ok (.invokevirtual 372, 3) := by decide +kernel
theorem dX11_findsLots_65 : decode cX11_findsLots 65 = .ok (.ishl, 1) := by decide +kernel
theorem dX11_findsLots_66 : decode cX11_findsLots 66 = .ok (.if_icmp .ge 27, 3) := by decide +kernel
theorem dX11_findsLots_69 : decode cX11_findsLots 69 = .ok (.iload_n 2, 1) := by decide +kernel
theorem dX11_findsLots_70 : decode cX11_findsLots 70 = .ok (.invokestatic 387, 3) := by decide +kernel
theorem dX11_findsLots_73 : decode cX11_findsLots 73 = .ok (.iload_n 1, 1) := by decide +kernel
theorem dX11_findsLots_74 : decode cX11_findsLots 74 = .ok (.if_icmp .ne 13, 3) := by decide +kernel
theorem dX11_findsLots_77 : decode cX11_findsLots 77 = .ok (.aload_n 0, 1) := by decide +kernel
theorem dX11_findsLots_78 : decode cX11_findsLots 78 = .ok (.iload_n 2, 1) := by decide +kernel
theorem dX11_findsLots_79 : decode cX11_findsLots 79 = .ok (.invokevirtual 390, 3) := by decide +kernel
theorem dX11_findsLots_82 : decode cX11_findsLots 82 = .ok (.ifCond .eq 5, 3) := by decide +kernel
theorem dX11_findsLots_85 : decode cX11_findsLots 85 = .ok (.iconst 1, 1) := by decide +kernel
theorem dX11_findsLots_86 : decode cX11_findsLots 86 = .ok (.ireturn, 1) := by decide +kernel
theorem dX11_findsLots_87 : decode cX11_findsLots 87 = .ok (.iinc 2 1, 3) := by decide +kernel
theorem dX11_findsLots_90 : decode cX11_findsLots 90 = .ok (.goto (-31), 3) := by decide +kernel
theorem dX11_findsLots_93 : decode cX11_findsLots 93 = .ok (.iinc 1 2, 3) := by decide +kernel
theorem dX11_findsLots_96 : decode cX11_findsLots 96 = .ok (.goto (-47), 3) := by decide +kernel
theorem dX11_findsLots_99 : decode cX11_findsLots 99 = .ok (.iconst 0, 1) := by decide +kernel
theorem dX11_findsLots_100 : decode cX11_findsLots 100 = .ok (.ireturn, 1) := by decide +kernel
theorem dX11_lot_0 : decode cX11_lot 0 = .ok (.iload_n 1, 1) := by decide +kernel
theorem dX11_lot_1 : decode cX11_lot 1 = .ok (.i2l, 1) := by decide +kernel
theorem dX11_lot_2 : decode cX11_lot 2 = .ok (.ldc2_w 393, 3) := by decide +kernel
theorem dX11_lot_5 : decode cX11_lot 5 = .ok (.aload_n 0, 1) := by decide +kernel
theorem dX11_lot_6 : decode cX11_lot 6 = .ok (.invokevirtual 372, 3) := by decide +kernel
theorem dX11_lot_9 : decode cX11_lot 9 = .ok (.iconst 1, 1) := by decide +kernel
theorem dX11_lot_10 : decode cX11_lot 10 = .ok (.isub, 1) := by decide +kernel
theorem dX11_lot_11 : decode cX11_lot 11 = .ok (.i2l, 1) := by decide +kernel
theorem dX11_lot_12 : decode cX11_lot 12 = .ok (.invokestatic 122, 3) := by decide +kernel
theorem dX11_lot_15 : decode cX11_lot 15 = .ok (.ifCond .eq 10, 3) := by decide +kernel
theorem dX11_lot_18 : decode cX11_lot 18 = .ok (.aload_n 0, 1) := by decide +kernel
theorem dX11_lot_19 : decode cX11_lot 19 = .ok (.invokevirtual 395, 3) := by decide +kernel
theorem dX11_lot_22 : decode cX11_lot 22 = .ok (.ifCond .ne 5, 3) := by decide +kernel
theorem dX11_lot_25 : decode cX11_lot 25 = .ok (.iconst (-1), 1) := by decide +kernel
theorem dX11_lot_26 : decode cX11_lot 26 = .ok (.ireturn, 1) := by decide +kernel
theorem dX11_lot_27 : decode cX11_lot 27 = .ok (.lconst 0, 1) := by decide +kernel
theorem dX11_lot_28 : decode cX11_lot 28 = .ok (.lstore_n 2, 1) := by decide +kernel
theorem dX11_lot_29 : decode cX11_lot 29 = .ok (.iconst 0, 1) := by decide +kernel
theorem dX11_lot_30 : decode cX11_lot 30 = .ok (.istore 4, 2) := by decide +kernel
theorem dX11_lot_32 : decode cX11_lot 32 = .ok (.iload 4, 2) := by decide +kernel
theorem dX11_lot_34 : decode cX11_lot 34 = .ok (.bipush 8, 2) := by decide +kernel
theorem dX11_lot_36 : decode cX11_lot 36 = .ok (.if_icmp .ge 19, 3) := by decide +kernel
theorem dX11_lot_39 : decode cX11_lot 39 = .ok (.lload_n 2, 1) := by decide +kernel
theorem dX11_lot_40 : decode cX11_lot 40 = .ok (.aload_n 0, 1) := by decide +kernel
theorem dX11_lot_41 : decode cX11_lot 41 = .ok (.getfield 102, 3) := by decide +kernel
theorem dX11_lot_44 : decode cX11_lot 44 = .ok (.iload 4, 2) := by decide +kernel
theorem dX11_lot_46 : decode cX11_lot 46 = .ok (.laload, 1) := by decide +kernel
theorem dX11_lot_47 : decode cX11_lot 47 = .ok (.ladd, 1) := by decide +kernel
theorem dX11_lot_48 : decode cX11_lot 48 = .ok (.lstore_n 2, 1) := by decide +kernel
theorem dX11_lot_49 : decode cX11_lot 49 = .ok (.iinc 4 1, 3) := by decide +kernel
theorem dX11_lot_52 : decode cX11_lot 52 = .ok (.goto (-20), 3) := by decide +kernel
theorem dX11_lot_55 : decode cX11_lot 55 = .ok (.iload_n 1, 1) := by decide +kernel
theorem dX11_lot_56 : decode cX11_lot 56 = .ok (.iconst (-1), 1) := by decide +kernel
theorem dX11_lot_57 : decode cX11_lot 57 = .ok (.if_icmp .ne 7, 3) := by decide +kernel
theorem dX11_lot_60 : decode cX11_lot 60 = .ok (.lload_n 2, 1) := by decide +kernel
theorem dX11_lot_61 : decode cX11_lot 61 = .ok (.goto 9, 3) := by decide +kernel
theorem dX11_lot_64 : decode cX11_lot 64 = .ok (.aload_n 0, 1) := by decide +kernel
theorem dX11_lot_65 : decode cX11_lot 65 = .ok (.getfield 102, 3) := by decide +kernel
theorem dX11_lot_68 : decode cX11_lot 68 = .ok (.iload_n 1, 1) := by decide +kernel
theorem dX11_lot_69 : decode cX11_lot 69 = .ok (.laload, 1) := by decide +kernel
theorem dX11_lot_70 : decode cX11_lot 70 = .ok (.l2i, 1) := by decide +kernel
theorem dX11_lot_71 : decode cX11_lot 71 = .ok (.ireturn, 1) := by decide +kernel
theorem dX11_needOf_0 : decode cX11_needOf 0 = .ok (.iconst 0, 1) := by decide +kernel
theorem dX11_needOf_1 : decode cX11_needOf 1 = .ok (.istore_n 2, 1) := by decide +kernel
theorem dX11_needOf_2 : decode cX11_needOf 2 = .ok (.iconst 0, 1) := by decide +kernel
theorem dX11_needOf_3 : decode cX11_needOf 3 = .ok (.istore_n 3, 1) := by decide +kernel
theorem dX11_needOf_4 : decode cX11_needOf 4 = .ok (.iload_n 3, 1) := by decide +kernel
theorem dX11_needOf_5 : decode cX11_needOf 5 = .ok (.aload_n 0, 1) := by decide +kernel
theorem dX11_needOf_6 : decode cX11_needOf 6 = .ok (.invokevirtual 242, 3) := by decide +kernel
theorem dX11_needOf_9 : decode cX11_needOf 9 = .ok (.if_icmp .ge 25, 3) := by decide +kernel
theorem dX11_needOf_12 : decode cX11_needOf 12 = .ok (.iload_n 3, 1) := by decide +kernel
theorem dX11_needOf_13 : decode cX11_needOf 13 = .ok (.iload_n 1, 1) := by decide +kernel
theorem dX11_needOf_14 : decode cX11_needOf 14 = .ok (.if_icmp .eq 14, 3) := by decide +kernel
theorem dX11_needOf_17 : decode cX11_needOf 17 = .ok (.iload_n 2, 1) := by decide +kernel
theorem dX11_needOf_18 : decode cX11_needOf 18 = .ok (.aload_n 0, 1) := by decide +kernel
theorem dX11_needOf_19 : decode cX11_needOf 19 = .ok (.iload_n 3, 1) := by decide +kernel
theorem dX11_needOf_20 : decode cX11_needOf 20 = .ok (.iload_n 1, 1) := by decide +kernel
theorem dX11_needOf_21 : decode cX11_needOf 21 = .ok (.invokevirtual 280, 3) := by decide +kernel
theorem dX11_needOf_24 : decode cX11_needOf 24 = .ok (.invokestatic 192, 3) := by decide +kernel
theorem dX11_needOf_27 : decode cX11_needOf 27 = .ok (.istore_n 2, 1) := by decide +kernel
theorem dX11_needOf_28 : decode cX11_needOf 28 = .ok (.iinc 3 1, 3) := by decide +kernel
theorem dX11_needOf_31 : decode cX11_needOf 31 = .ok (.goto (-27), 3) := by decide +kernel
theorem dX11_needOf_34 : decode cX11_needOf 34 = .ok (.iload_n 2, 1) := by decide +kernel
theorem dX11_needOf_35 : decode cX11_needOf 35 = .ok (.ireturn, 1) := by decide +kernel
theorem dX11_need_0 : decode cX11_need 0 = .ok (.aload_n 0, 1) := by decide +kernel
theorem dX11_need_1 : decode cX11_need 1 = .ok (.invokevirtual 242, 3) := by decide +kernel
theorem dX11_need_4 : decode cX11_need 4 = .ok (.iconst 2, 1) := by decide +kernel
theorem dX11_need_5 : decode cX11_need 5 = .ok (.if_icmp .lt 16, 3) := by decide +kernel
theorem dX11_need_8 : decode cX11_need 8 = .ok (.iload_n 1, 1) := by decide +kernel
theorem dX11_need_9 : decode cX11_need 9 = .ok (.iconst (-1), 1) := by decide +kernel
theorem dX11_need_10 : decode cX11_need 10 = .ok (.if_icmp .eq 13, 3) := by decide +kernel
theorem dX11_need_13 : decode cX11_need 13 = .ok (.aload_n 0, 1) := by decide +kernel
theorem dX11_need_14 : decode cX11_need 14 = .ok (.iload_n 1, 1) := by decide +kernel
theorem dX11_need_15 : decode cX11_need 15 = .ok (.invokevirtual 248, 3) := by decide +kernel
theorem dX11_need_18 : decode cX11_need 18 = .ok (.ifCond .ne 5, 3) := by decide +kernel
theorem dX11_need_21 : decode cX11_need 21 = .ok (.iconst (-1), 1) := by decide +kernel
theorem dX11_need_22 : decode cX11_need 22 = .ok (.ireturn, 1) := by decide +kernel
theorem dX11_need_23 : decode cX11_need 23 = .ok (.iload_n 1, 1) := by decide +kernel
theorem dX11_need_24 : decode cX11_need 24 = .ok (.iconst (-1), 1) := by decide +kernel
theorem dX11_need_25 : decode cX11_need 25 = .ok (.if_icmp .eq 9, 3) := by decide +kernel
theorem dX11_need_28 : decode cX11_need 28 = .ok (.aload_n 0, 1) := by decide +kernel
theorem dX11_need_29 : decode cX11_need 29 = .ok (.iload_n 1, 1) := by decide +kernel
theorem dX11_need_30 : decode cX11_need 30 = .ok (.invokevirtual 398, 3) := by decide +kernel
theorem dX11_need_33 : decode cX11_need 33 = .ok (.ireturn, 1) := by decide +kernel
theorem dX11_need_34 : decode cX11_need 34 = .ok (.iconst 0, 1) := by decide +kernel
theorem dX11_need_35 : decode cX11_need 35 = .ok (.istore_n 2, 1) := by decide +kernel
theorem dX11_need_36 : decode cX11_need 36 = .ok (.iconst 1, 1) := by decide +kernel
theorem dX11_need_37 : decode cX11_need 37 = .ok (.istore_n 3, 1) := by decide +kernel
theorem dX11_need_38 : decode cX11_need 38 = .ok (.iload_n 3, 1) := by decide +kernel
theorem dX11_need_39 : decode cX11_need 39 = .ok (.aload_n 0, 1) := by decide +kernel
theorem dX11_need_40 : decode cX11_need 40 = .ok (.invokevirtual 242, 3) := by decide +kernel
theorem dX11_need_43 : decode cX11_need 43 = .ok (.if_icmp .ge 24, 3) := by decide +kernel
theorem dX11_need_46 : decode cX11_need 46 = .ok (.aload_n 0, 1) := by decide +kernel
theorem dX11_need_47 : decode cX11_need 47 = .ok (.iload_n 3, 1) := by decide +kernel
theorem dX11_need_48 : decode cX11_need 48 = .ok (.invokevirtual 398, 3) := by decide +kernel
theorem dX11_need_51 : decode cX11_need 51 = .ok (.aload_n 0, 1) := by decide +kernel
theorem dX11_need_52 : decode cX11_need 52 = .ok (.iload_n 2, 1) := by decide +kernel
theorem dX11_need_53 : decode cX11_need 53 = .ok (.invokevirtual 398, 3) := by decide +kernel
theorem dX11_need_56 : decode cX11_need 56 = .ok (.if_icmp .ge 5, 3) := by decide +kernel
theorem dX11_need_59 : decode cX11_need 59 = .ok (.iload_n 3, 1) := by decide +kernel
theorem dX11_need_60 : decode cX11_need 60 = .ok (.istore_n 2, 1) := by decide +kernel
theorem dX11_need_61 : decode cX11_need 61 = .ok (.iinc 3 1, 3) := by decide +kernel
theorem dX11_need_64 : decode cX11_need 64 = .ok (.goto (-26), 3) := by decide +kernel
theorem dX11_need_67 : decode cX11_need 67 = .ok (.iload_n 2, 1) := by decide +kernel
theorem dX11_need_68 : decode cX11_need 68 = .ok (.ireturn, 1) := by decide +kernel
theorem dX11_most_0 : decode cX11_most 0 = .ok (.aload_n 0, 1) := by decide +kernel
theorem dX11_most_1 : decode cX11_most 1 = .ok (.invokevirtual 237, 3) := by decide +kernel
theorem dX11_most_4 : decode cX11_most 4 = .ok (.ifCond .eq 11, 3) := by decide +kernel
theorem dX11_most_7 : decode cX11_most 7 = .ok (.iload_n 1, 1) := by decide +kernel
theorem dX11_most_8 : decode cX11_most 8 = .ok (.iload_n 2, 1) := by decide +kernel
theorem dX11_most_9 : decode cX11_most 9 = .ok (.invokestatic 251, 3) := by decide +kernel
theorem dX11_most_12 : decode cX11_most 12 = .ok (.ifCond .ne 5, 3) := by decide +kernel
theorem dX11_most_15 : decode cX11_most 15 = .ok (.iconst (-1), 1) := by decide +kernel
theorem dX11_most_16 : decode cX11_most 16 = .ok (.ireturn, 1) := by decide +kernel
theorem dX11_most_17 : decode cX11_most 17 = .ok (.iconst 0, 1) := by decide +kernel
theorem dX11_most_18 : decode cX11_most 18 = .ok (.istore_n 3, 1) := by decide +kernel
theorem dX11_most_19 : decode cX11_most 19 = .ok (.iconst 0, 1) := by decide +kernel
theorem dX11_most_20 : decode cX11_most 20 = .ok (.istore 4, 2) := by decide +kernel
theorem dX11_most_22 : decode cX11_most 22 = .ok (.iload 4, 2) := by decide +kernel
theorem dX11_most_24 : decode cX11_most 24 = .ok (.sipush 10000, 3) := by decide +kernel
theorem dX11_most_27 : decode cX11_most 27 = .ok (.if_icmp .ge 30, 3) := by decide +kernel
theorem dX11_most_30 : decode cX11_most 30 = .ok (.iload_n 3, 1) := by decide +kernel
theorem dX11_most_31 : decode cX11_most 31 = .ok (.aload_n 0, 1) := by decide +kernel
theorem dX11_most_32 : decode cX11_most 32 = .ok (.iload 4, 2) := by decide +kernel
theorem dX11_most_34 : decode cX11_most 34 = .ok (.bipush 100, 2) := by decide +kernel
theorem dX11_most_36 : decode cX11_most 36 = .ok (.idiv, 1) := by decide +kernel
theorem dX11_most_37 : decode cX11_most 37 = .ok (.iload 4, 2) := by decide +kernel
theorem dX11_most_39 : decode cX11_most 39 = .ok (.bipush 100, 2) := by decide +kernel
theorem dX11_most_41 : decode cX11_most 41 = .ok (.irem, 1) := by decide +kernel
theorem dX11_most_42 : decode cX11_most 42 = .ok (.iload_n 1, 1) := by decide +kernel
theorem dX11_most_43 : decode cX11_most 43 = .ok (.iload_n 2, 1) := by decide +kernel
theorem dX11_most_44 : decode cX11_most 44 = .ok (.invokevirtual 269, 3) := by decide +kernel
theorem dX11_most_47 : decode cX11_most 47 = .ok (.invokestatic 192, 3) := by decide +kernel
theorem dX11_most_50 : decode cX11_most 50 = .ok (.istore_n 3, 1) := by decide +kernel
theorem dX11_most_51 : decode cX11_most 51 = .ok (.iinc 4 1, 3) := by decide +kernel
theorem dX11_most_54 : decode cX11_most 54 = .ok (.goto (-32), 3) := by decide +kernel
theorem dX11_most_57 : decode cX11_most 57 = .ok (.iload_n 3, 1) := by decide +kernel
theorem dX11_most_58 : decode cX11_most 58 = .ok (.ireturn, 1) := by decide +kernel
theorem dX11_isUnbeaten_0 : decode cX11_isUnbeaten 0 = .ok (.iconst 0, 1) := by decide +kernel
theorem dX11_isUnbeaten_1 : decode cX11_isUnbeaten 1 = .ok (.istore_n 2, 1) := by decide +kernel
theorem dX11_isUnbeaten_2 : decode cX11_isUnbeaten 2 = .ok (.iload_n 2, 1) := by decide +kernel
theorem dX11_isUnbeaten_3 : decode cX11_isUnbeaten 3 = .ok (.aload_n 0, 1) := by decide +kernel
theorem dX11_isUnbeaten_4 : decode cX11_isUnbeaten 4 = .ok (.invokevirtual 242, 3) := by decide +kernel
theorem dX11_isUnbeaten_7 : decode cX11_isUnbeaten 7 = .ok (.if_icmp .ge 25, 3) := by decide +kernel
theorem dX11_isUnbeaten_10 : decode cX11_isUnbeaten 10 = .ok (.iload_n 2, 1) := by decide +kernel
theorem dX11_isUnbeaten_11 : decode cX11_isUnbeaten 11 = .ok (.iload_n 1, 1) := by decide +kernel
theorem dX11_isUnbeaten_12 : decode cX11_isUnbeaten 12 = .ok (.if_icmp .eq 14, 3) := by decide +kernel
theorem dX11_isUnbeaten_15 : decode cX11_isUnbeaten 15 = .ok (.aload_n 0, 1) := by decide +kernel
theorem dX11_isUnbeaten_16 : decode cX11_isUnbeaten 16 = .ok (.iload_n 2, 1) := by decide +kernel
theorem dX11_isUnbeaten_17 : decode cX11_isUnbeaten 17 = .ok (.iload_n 1, 1) := by decide +kernel
theorem dX11_isUnbeaten_18 : decode cX11_isUnbeaten 18 = .ok (.invokevirtual 283, 3) := by decide +kernel
theorem dX11_isUnbeaten_21 : decode cX11_isUnbeaten 21 = .ok (.ifCond .eq 5, 3) := by decide +kernel
theorem dX11_isUnbeaten_24 : decode cX11_isUnbeaten 24 = .ok (.iconst 0, 1) := by decide +kernel
theorem dX11_isUnbeaten_25 : decode cX11_isUnbeaten 25 = .ok (.ireturn, 1) := by decide +kernel
theorem dX11_isUnbeaten_26 : decode cX11_isUnbeaten 26 = .ok (.iinc 2 1, 3) := by decide +kernel
theorem dX11_isUnbeaten_29 : decode cX11_isUnbeaten 29 = .ok (.goto (-27), 3) := by decide +kernel
theorem dX11_isUnbeaten_32 : decode cX11_isUnbeaten 32 = .ok (.iconst 1, 1) := by decide +kernel
theorem dX11_isUnbeaten_33 : decode cX11_isUnbeaten 33 = .ok (.ireturn, 1) := by decide +kernel
theorem dX11_peace_0 : decode cX11_peace 0 = .ok (.iconst 0, 1) := by decide +kernel
theorem dX11_peace_1 : decode cX11_peace 1 = .ok (.istore_n 1, 1) := by decide +kernel
theorem dX11_peace_2 : decode cX11_peace 2 = .ok (.iload_n 1, 1) := by decide +kernel
theorem dX11_peace_3 : decode cX11_peace 3 = .ok (.aload_n 0, 1) := by decide +kernel
theorem dX11_peace_4 : decode cX11_peace 4 = .ok (.invokevirtual 242, 3) := by decide +kernel
theorem dX11_peace_7 : decode cX11_peace 7 = .ok (.if_icmp .ge 19, 3) := by decide +kernel
theorem dX11_peace_10 : decode cX11_peace 10 = .ok (.aload_n 0, 1) := by decide +kernel
theorem dX11_peace_11 : decode cX11_peace 11 = .ok (.iload_n 1, 1) := by decide +kernel
theorem dX11_peace_12 : decode cX11_peace 12 = .ok (.invokevirtual 401, 3) := by decide +kernel
theorem dX11_peace_15 : decode cX11_peace 15 = .ok (.ifCond .eq 5, 3) := by decide +kernel
theorem dX11_peace_18 : decode cX11_peace 18 = .ok (.iload_n 1, 1) := by decide +kernel
theorem dX11_peace_19 : decode cX11_peace 19 = .ok (.ireturn, 1) := by decide +kernel
theorem dX11_peace_20 : decode cX11_peace 20 = .ok (.iinc 1 1, 3) := by decide +kernel
theorem dX11_peace_23 : decode cX11_peace 23 = .ok (.goto (-21), 3) := by decide +kernel
theorem dX11_peace_26 : decode cX11_peace 26 = .ok (.iconst (-1), 1) := by decide +kernel
theorem dX11_peace_27 : decode cX11_peace 27 = .ok (.ireturn, 1) := by decide +kernel
theorem dX11_make_0 : decode cX11_make 0 = .ok (.iload_n 1, 1) := by decide +kernel
theorem dX11_make_1 : decode cX11_make 1 = .ok (.i2l, 1) := by decide +kernel
theorem dX11_make_2 : decode cX11_make 2 = .ok (.lconst 0, 1) := by decide +kernel
theorem dX11_make_3 : decode cX11_make 3 = .ok (.ldc2_w 331, 3) := by decide +kernel
theorem dX11_make_6 : decode cX11_make 6 = .ok (.invokestatic 122, 3) := by decide +kernel
theorem dX11_make_9 : decode cX11_make 9 = .ok (.ifCond .ne 5, 3) := by decide +kernel
theorem dX11_make_12 : decode cX11_make 12 = .ok (.iconst (-1), 1) := by decide +kernel
theorem dX11_make_13 : decode cX11_make 13 = .ok (.ireturn, 1) := by decide +kernel
theorem dX11_make_14 : decode cX11_make 14 = .ok (.iconst (-1), 1) := by decide +kernel
theorem dX11_make_15 : decode cX11_make 15 = .ok (.istore_n 2, 1) := by decide +kernel
theorem dX11_make_16 : decode cX11_make 16 = .ok (.iconst (-1), 1) := by decide +kernel
theorem dX11_make_17 : decode cX11_make 17 = .ok (.istore_n 3, 1) := by decide +kernel
theorem dX11_make_18 : decode cX11_make 18 = .ok (.iconst 0, 1) := by decide +kernel
theorem dX11_make_19 : decode cX11_make 19 = .ok (.istore 4, 2) := by decide +kernel
theorem dX11_make_21 : decode cX11_make 21 = .ok (.iconst 0, 1) := by decide +kernel
theorem dX11_make_22 : decode cX11_make 22 = .ok (.istore 5, 2) := by decide +kernel
theorem dX11_make_24 : decode cX11_make 24 = .ok (.iload 5, 2) := by decide +kernel
theorem dX11_make_26 : decode cX11_make 26 = .ok (.aload_n 0, 1) := by decide +kernel
theorem dX11_make_27 : decode cX11_make 27 = .ok (.invokevirtual 237, 3) := by decide +kernel
theorem dX11_make_30 : decode cX11_make 30 = .ok (.if_icmp .ge 191, 3) := by decide +kernel
theorem dX11_make_33 : decode cX11_make 33 = .ok (.aload_n 0, 1) := by decide +kernel
theorem dX11_make_34 : decode cX11_make 34 = .ok (.getfield 15, 3) := by decide +kernel
theorem dX11_make_37 : decode cX11_make 37 = .ok (.iconst 0, 1) := by decide +kernel
theorem dX11_make_38 : decode cX11_make 38 = .ok (.aaload, 1) := by decide +kernel
theorem dX11_make_39 : decode cX11_make 39 = .ok (.iload 5, 2) := by decide +kernel
theorem dX11_make_41 : decode cX11_make 41 = .ok (.iaload, 1) := by decide +kernel
theorem dX11_make_42 : decode cX11_make 42 = .ok (.istore 6, 2) := by decide +kernel
theorem dX11_make_44 : decode cX11_make 44 = .ok (.aload_n 0, 1) := by decide +kernel
theorem dX11_make_45 : decode cX11_make 45 = .ok (.getfield 18, 3) := by decide +kernel
theorem dX11_make_48 : decode cX11_make 48 = .ok (.iconst 0, 1) := by decide +kernel
theorem dX11_make_49 : decode cX11_make 49 = .ok (.aaload, 1) := by decide +kernel
theorem dX11_make_50 : decode cX11_make 50 = .ok (.iload 5, 2) := by decide +kernel
theorem dX11_make_52 : decode cX11_make 52 = .ok (.iaload, 1) := by decide +kernel
theorem dX11_make_53 : decode cX11_make 53 = .ok (.istore 7, 2) := by decide +kernel
theorem dX11_make_55 : decode cX11_make 55 = .ok (.iconst 0, 1) := by decide +kernel
theorem dX11_make_56 : decode cX11_make 56 = .ok (.istore 8, 2) := by decide +kernel
theorem dX11_make_58 : decode cX11_make 58 = .ok (.iload 8, 2) := by decide +kernel
theorem dX11_make_60 : decode cX11_make 60 = .ok (.aload_n 0, 1) := by decide +kernel
theorem dX11_make_61 : decode cX11_make 61 = .ok (.invokevirtual 242, 3) := by decide +kernel
theorem dX11_make_64 : decode cX11_make 64 = .ok (.if_icmp .ge 151, 3) := by decide +kernel
theorem dX11_make_67 : decode cX11_make 67 = .ok (.aload_n 0, 1) := by decide +kernel
theorem dX11_make_68 : decode cX11_make 68 = .ok (.getfield 33, 3) := by decide +kernel
theorem dX11_make_71 : decode cX11_make 71 = .ok (.iconst 0, 1) := by decide +kernel
theorem dX11_make_72 : decode cX11_make 72 = .ok (.aaload, 1) := by decide +kernel
theorem dX11_make_73 : decode cX11_make 73 = .ok (.iload 8, 2) := by decide +kernel
theorem dX11_make_75 : decode cX11_make 75 = .ok (.iaload, 1) := by decide +kernel
theorem dX11_make_76 : decode cX11_make 76 = .ok (.iload 6, 2) := by decide +kernel
theorem dX11_make_78 : decode cX11_make 78 = .ok (.isub, 1) := by decide +kernel
theorem dX11_make_79 : decode cX11_make 79 = .ok (.istore 9, 2) := by decide +kernel
theorem dX11_make_81 : decode cX11_make 81 = .ok (.aload_n 0, 1) := by decide +kernel
theorem dX11_make_82 : decode cX11_make 82 = .ok (.getfield 36, 3) := by decide +kernel
theorem dX11_make_85 : decode cX11_make 85 = .ok (.iconst 0, 1) := by decide +kernel
theorem dX11_make_86 : decode cX11_make 86 = .ok (.aaload, 1) := by decide +kernel
theorem dX11_make_87 : decode cX11_make 87 = .ok (.iload 8, 2) := by decide +kernel
theorem dX11_make_89 : decode cX11_make 89 = .ok (.iaload, 1) := by decide +kernel
theorem dX11_make_90 : decode cX11_make 90 = .ok (.iload 7, 2) := by decide +kernel
theorem dX11_make_92 : decode cX11_make 92 = .ok (.isub, 1) := by decide +kernel
theorem dX11_make_93 : decode cX11_make 93 = .ok (.istore 10, 2) := by decide +kernel
theorem dX11_make_95 : decode cX11_make 95 = .ok (.iload 9, 2) := by decide +kernel
theorem dX11_make_97 : decode cX11_make 97 = .ok (.iload 9, 2) := by decide +kernel
theorem dX11_make_99 : decode cX11_make 99 = .ok (.imul, 1) := by decide +kernel
theorem dX11_make_100 : decode cX11_make 100 = .ok (.iload 10, 2) := by decide +kernel
theorem dX11_make_102 : decode cX11_make 102 = .ok (.iload 10, 2) := by decide +kernel
theorem dX11_make_104 : decode cX11_make 104 = .ok (.imul, 1) := by decide +kernel
theorem dX11_make_105 : decode cX11_make 105 = .ok (.iadd, 1) := by decide +kernel
theorem dX11_make_106 : decode cX11_make 106 = .ok (.aload_n 0, 1) := by decide +kernel
theorem dX11_make_107 : decode cX11_make 107 = .ok (.getfield 21, 3) := by decide +kernel
theorem dX11_make_110 : decode cX11_make 110 = .ok (.iconst 0, 1) := by decide +kernel
theorem dX11_make_111 : decode cX11_make 111 = .ok (.aaload, 1) := by decide +kernel
theorem dX11_make_112 : decode cX11_make 112 = .ok (.iload 5, 2) := by decide +kernel
theorem dX11_make_114 : decode cX11_make 114 = .ok (.iaload, 1) := by decide +kernel
theorem dX11_make_115 : decode cX11_make 115 = .ok (.imul, 1) := by decide +kernel
theorem dX11_make_116 : decode cX11_make 116 = .ok (.istore 11, 2) := by decide +kernel
theorem dX11_make_118 : decode cX11_make 118 = .ok (.iload_n 2, 1) := by decide +kernel
theorem dX11_make_119 : decode cX11_make 119 = .ok (.iconst (-1), 1) := by decide +kernel
theorem dX11_make_120 : decode cX11_make 120 = .ok (.if_icmp .eq 13, 3) := by decide +kernel
theorem dX11_make_123 : decode cX11_make 123 = .ok (.iload 11, 2) := by decide +kernel
theorem dX11_make_125 : decode cX11_make 125 = .ok (.iload 4, 2) := by decide +kernel
theorem dX11_make_127 : decode cX11_make 127 = .ok (.if_icmp .lt 6, 3) := by decide +kernel
theorem dX11_make_130 : decode cX11_make 130 = .ok (.goto 79, 3) := by decide +kernel
theorem dX11_make_133 : decode cX11_make 133 = .ok (.aload_n 0, 1) := by decide +kernel
theorem dX11_make_134 : decode cX11_make 134 = .ok (.getfield 15, 3) := by decide +kernel
theorem dX11_make_137 : decode cX11_make 137 = .ok (.iconst 0, 1) := by decide +kernel
theorem dX11_make_138 : decode cX11_make 138 = .ok (.aaload, 1) := by decide +kernel
theorem dX11_make_139 : decode cX11_make 139 = .ok (.iload 5, 2) := by decide +kernel
theorem dX11_make_141 : decode cX11_make 141 = .ok (.aload_n 0, 1) := by decide +kernel
theorem dX11_make_142 : decode cX11_make 142 = .ok (.getfield 33, 3) := by decide +kernel
theorem dX11_make_145 : decode cX11_make 145 = .ok (.iconst 0, 1) := by decide +kernel
theorem dX11_make_146 : decode cX11_make 146 = .ok (.aaload, 1) := by decide +kernel
theorem dX11_make_147 : decode cX11_make 147 = .ok (.iload 8, 2) := by decide +kernel
theorem dX11_make_149 : decode cX11_make 149 = .ok (.iaload, 1) := by decide +kernel
theorem dX11_make_150 : decode cX11_make 150 = .ok (.iastore, 1) := by decide +kernel
theorem dX11_make_151 : decode cX11_make 151 = .ok (.aload_n 0, 1) := by decide +kernel
theorem dX11_make_152 : decode cX11_make 152 = .ok (.getfield 18, 3) := by decide +kernel
theorem dX11_make_155 : decode cX11_make 155 = .ok (.iconst 0, 1) := by decide +kernel
theorem dX11_make_156 : decode cX11_make 156 = .ok (.aaload, 1) := by decide +kernel
theorem dX11_make_157 : decode cX11_make 157 = .ok (.iload 5, 2) := by decide +kernel
theorem dX11_make_159 : decode cX11_make 159 = .ok (.aload_n 0, 1) := by decide +kernel
theorem dX11_make_160 : decode cX11_make 160 = .ok (.getfield 36, 3) := by decide +kernel
theorem dX11_make_163 : decode cX11_make 163 = .ok (.iconst 0, 1) := by decide +kernel
theorem dX11_make_164 : decode cX11_make 164 = .ok (.aaload, 1) := by decide +kernel
theorem dX11_make_165 : decode cX11_make 165 = .ok (.iload 8, 2) := by decide +kernel
theorem dX11_make_167 : decode cX11_make 167 = .ok (.iaload, 1) := by decide +kernel
theorem dX11_make_168 : decode cX11_make 168 = .ok (.iastore, 1) := by decide +kernel
theorem dX11_make_169 : decode cX11_make 169 = .ok (.aload_n 0, 1) := by decide +kernel
theorem dX11_make_170 : decode cX11_make 170 = .ok (.invokevirtual 404, 3) := by decide +kernel
theorem dX11_make_173 : decode cX11_make 173 = .ok (.iconst (-1), 1) := by decide +kernel
theorem dX11_make_174 : decode cX11_make 174 = .ok (.if_icmp .eq 13, 3) := by decide +kernel
theorem dX11_make_177 : decode cX11_make 177 = .ok (.iload 5, 2) := by decide +kernel
theorem dX11_make_179 : decode cX11_make 179 = .ok (.istore_n 2, 1) := by decide +kernel
theorem dX11_make_180 : decode cX11_make 180 = .ok (.iload 8, 2) := by decide +kernel
theorem dX11_make_182 : decode cX11_make 182 = .ok (.istore_n 3, 1) := by decide +kernel
theorem dX11_make_183 : decode cX11_make 183 = .ok (.iload 11, 2) := by decide +kernel
theorem dX11_make_185 : decode cX11_make 185 = .ok (.istore 4, 2) := by decide +kernel
theorem dX11_make_187 : decode cX11_make 187 = .ok (.aload_n 0, 1) := by decide +kernel
theorem dX11_make_188 : decode cX11_make 188 = .ok (.getfield 15, 3) := by decide +kernel
theorem dX11_make_191 : decode cX11_make 191 = .ok (.iconst 0, 1) := by decide +kernel
theorem dX11_make_192 : decode cX11_make 192 = .ok (.aaload, 1) := by decide +kernel
theorem dX11_make_193 : decode cX11_make 193 = .ok (.iload 5, 2) := by decide +kernel
theorem dX11_make_195 : decode cX11_make 195 = .ok (.iload 6, 2) := by decide +kernel
theorem dX11_make_197 : decode cX11_make 197 = .ok (.iastore, 1) := by decide +kernel
theorem dX11_make_198 : decode cX11_make 198 = .ok (.aload_n 0, 1) := by decide +kernel
theorem dX11_make_199 : decode cX11_make 199 = .ok (.getfield 18, 3) := by decide +kernel
theorem dX11_make_202 : decode cX11_make 202 = .ok (.iconst 0, 1) := by decide +kernel
theorem dX11_make_203 : decode cX11_make 203 = .ok (.aaload, 1) := by decide +kernel
theorem dX11_make_204 : decode cX11_make 204 = .ok (.iload 5, 2) := by decide +kernel
theorem dX11_make_206 : decode cX11_make 206 = .ok (.iload 7, 2) := by decide +kernel
theorem dX11_make_208 : decode cX11_make 208 = .ok (.iastore, 1) := by decide +kernel
theorem dX11_make_209 : decode cX11_make 209 = .ok (.iinc 8 1, 3) := by decide +kernel
theorem dX11_make_212 : decode cX11_make 212 = .ok (.goto (-154), 3) := by decide +kernel
theorem dX11_make_215 : decode cX11_make 215 = .ok (.iinc 5 1, 3) := by decide +kernel
theorem dX11_make_218 : decode cX11_make 218 = .ok (.goto (-194), 3) := by decide +kernel
theorem dX11_make_221 : decode cX11_make 221 = .ok (.iload_n 2, 1) := by decide +kernel
theorem dX11_make_222 : decode cX11_make 222 = .ok (.iconst (-1), 1) := by decide +kernel
theorem dX11_make_223 : decode cX11_make 223 = .ok (.if_icmp .ne 7, 3) := by decide +kernel
theorem dX11_make_226 : decode cX11_make 226 = .ok (.iconst (-1), 1) := by decide +kernel
theorem dX11_make_227 : decode cX11_make 227 = .ok (.goto 22, 3) := by decide +kernel
theorem dX11_make_230 : decode cX11_make 230 = .ok (.iload_n 1, 1) := by decide +kernel
theorem dX11_make_231 : decode cX11_make 231 = .ok (.ifCond .ne 7, 3) := by decide +kernel
theorem dX11_make_234 : decode cX11_make 234 = .ok (.iload_n 2, 1) := by decide +kernel
theorem dX11_make_235 : decode cX11_make 235 = .ok (.goto 14, 3) := by decide +kernel
theorem dX11_make_238 : decode cX11_make 238 = .ok (.iload_n 1, 1) := by decide +kernel
theorem dX11_make_239 : decode cX11_make 239 = .ok (.iconst 1, 1) := by decide +kernel
theorem dX11_make_240 : decode cX11_make 240 = .ok (.if_icmp .ne 7, 3) := by decide +kernel
theorem dX11_make_243 : decode cX11_make 243 = .ok (.iload_n 3, 1) := by decide +kernel
theorem dX11_make_244 : decode cX11_make 244 = .ok (.goto 5, 3) := by decide +kernel
theorem dX11_make_247 : decode cX11_make 247 = .ok (.iload 4, 2) := by decide +kernel
theorem dX11_make_249 : decode cX11_make 249 = .ok (.ireturn, 1) := by decide +kernel
theorem dX11_joins_0 : decode cX11_joins 0 = .ok (.iconst 0, 1) := by decide +kernel
theorem dX11_joins_1 : decode cX11_joins 1 = .ok (.istore_n 3, 1) := by decide +kernel
theorem dX11_joins_2 : decode cX11_joins 2 = .ok (.iload_n 3, 1) := by decide +kernel
theorem dX11_joins_3 : decode cX11_joins 3 = .ok (.aload_n 0, 1) := by decide +kernel
theorem dX11_joins_4 : decode cX11_joins 4 = .ok (.invokevirtual 237, 3) := by decide +kernel
theorem dX11_joins_7 : decode cX11_joins 7 = .ok (.if_icmp .ge 86, 3) := by decide +kernel
theorem dX11_joins_10 : decode cX11_joins 10 = .ok (.aload_n 0, 1) := by decide +kernel
theorem dX11_joins_11 : decode cX11_joins 11 = .ok (.getfield 105, 3) := by decide +kernel
theorem dX11_joins_14 : decode cX11_joins 14 = .ok (.iload_n 3, 1) := by decide +kernel
theorem dX11_joins_15 : decode cX11_joins 15 = .ok (.aload_n 0, 1) := by decide +kernel
theorem dX11_joins_16 : decode cX11_joins 16 = .ok (.getfield 15, 3) := by decide +kernel
theorem dX11_joins_19 : decode cX11_joins 19 = .ok (.iconst 0, 1) := by decide +kernel
theorem dX11_joins_20 : decode cX11_joins 20 = .ok (.aaload, 1) := by decide +kernel
theorem dX11_joins_21 : decode cX11_joins 21 = .ok (.iload_n 3, 1) := by decide +kernel
theorem dX11_joins_22 : decode cX11_joins 22 = .ok (.iaload, 1) := by decide +kernel
theorem dX11_joins_23 : decode cX11_joins 23 = .ok (.iastore, 1) := by decide +kernel
theorem dX11_joins_24 : decode cX11_joins 24 = .ok (.aload_n 0, 1) := by decide +kernel
theorem dX11_joins_25 : decode cX11_joins 25 = .ok (.getfield 108, 3) := by decide +kernel
theorem dX11_joins_28 : decode cX11_joins 28 = .ok (.iload_n 3, 1) := by decide +kernel
theorem dX11_joins_29 : decode cX11_joins 29 = .ok (.aload_n 0, 1) := by decide +kernel
theorem dX11_joins_30 : decode cX11_joins 30 = .ok (.getfield 18, 3) := by decide +kernel
theorem dX11_joins_33 : decode cX11_joins 33 = .ok (.iconst 0, 1) := by decide +kernel
theorem dX11_joins_34 : decode cX11_joins 34 = .ok (.aaload, 1) := by decide +kernel
theorem dX11_joins_35 : decode cX11_joins 35 = .ok (.iload_n 3, 1) := by decide +kernel
theorem dX11_joins_36 : decode cX11_joins 36 = .ok (.iaload, 1) := by decide +kernel
theorem dX11_joins_37 : decode cX11_joins 37 = .ok (.iastore, 1) := by decide +kernel
theorem dX11_joins_38 : decode cX11_joins 38 = .ok (.iload_n 3, 1) := by decide +kernel
theorem dX11_joins_39 : decode cX11_joins 39 = .ok (.bipush 9, 2) := by decide +kernel
theorem dX11_joins_41 : decode cX11_joins 41 = .ok (.if_icmp .ge 46, 3) := by decide +kernel
theorem dX11_joins_44 : decode cX11_joins 44 = .ok (.iload_n 1, 1) := by decide +kernel
theorem dX11_joins_45 : decode cX11_joins 45 = .ok (.iload_n 3, 1) := by decide +kernel
theorem dX11_joins_46 : decode cX11_joins 46 = .ok (.ishr, 1) := by decide +kernel
theorem dX11_joins_47 : decode cX11_joins 47 = .ok (.iconst 1, 1) := by decide +kernel
theorem dX11_joins_48 : decode cX11_joins 48 = .ok (.iand, 1) := by decide +kernel
theorem dX11_joins_49 : decode cX11_joins 49 = .ok (.ifCond .ne 6, 3) := by decide +kernel
theorem dX11_joins_52 : decode cX11_joins 52 = .ok (.goto 35, 3) := by decide +kernel
theorem dX11_joins_55 : decode cX11_joins 55 = .ok (.aload_n 0, 1) := by decide +kernel
theorem dX11_joins_56 : decode cX11_joins 56 = .ok (.getfield 15, 3) := by decide +kernel
theorem dX11_joins_59 : decode cX11_joins 59 = .ok (.iconst 0, 1) := by decide +kernel
theorem dX11_joins_60 : decode cX11_joins 60 = .ok (.aaload, 1) := by decide +kernel
theorem dX11_joins_61 : decode cX11_joins 61 = .ok (.iload_n 3, 1) := by decide +kernel
theorem dX11_joins_62 : decode cX11_joins 62 = .ok (.aload_n 0, 1) := by decide +kernel
theorem dX11_joins_63 : decode cX11_joins 63 = .ok (.getfield 33, 3) := by decide +kernel
theorem dX11_joins_66 : decode cX11_joins 66 = .ok (.iconst 0, 1) := by decide +kernel
theorem dX11_joins_67 : decode cX11_joins 67 = .ok (.aaload, 1) := by decide +kernel
theorem dX11_joins_68 : decode cX11_joins 68 = .ok (.iload_n 2, 1) := by decide +kernel
theorem dX11_joins_69 : decode cX11_joins 69 = .ok (.iaload, 1) := by decide +kernel
theorem dX11_joins_70 : decode cX11_joins 70 = .ok (.iastore, 1) := by decide +kernel
theorem dX11_joins_71 : decode cX11_joins 71 = .ok (.aload_n 0, 1) := by decide +kernel
theorem dX11_joins_72 : decode cX11_joins 72 = .ok (.getfield 18, 3) := by decide +kernel
theorem dX11_joins_75 : decode cX11_joins 75 = .ok (.iconst 0, 1) := by decide +kernel
theorem dX11_joins_76 : decode cX11_joins 76 = .ok (.aaload, 1) := by decide +kernel
theorem dX11_joins_77 : decode cX11_joins 77 = .ok (.iload_n 3, 1) := by decide +kernel
theorem dX11_joins_78 : decode cX11_joins 78 = .ok (.aload_n 0, 1) := by decide +kernel
theorem dX11_joins_79 : decode cX11_joins 79 = .ok (.getfield 36, 3) := by decide +kernel
theorem dX11_joins_82 : decode cX11_joins 82 = .ok (.iconst 0, 1) := by decide +kernel
theorem dX11_joins_83 : decode cX11_joins 83 = .ok (.aaload, 1) := by decide +kernel
theorem dX11_joins_84 : decode cX11_joins 84 = .ok (.iload_n 2, 1) := by decide +kernel
theorem dX11_joins_85 : decode cX11_joins 85 = .ok (.iaload, 1) := by decide +kernel
theorem dX11_joins_86 : decode cX11_joins 86 = .ok (.iastore, 1) := by decide +kernel
theorem dX11_joins_87 : decode cX11_joins 87 = .ok (.iinc 3 1, 3) := by decide +kernel
theorem dX11_joins_90 : decode cX11_joins 90 = .ok (.goto (-88), 3) := by decide +kernel
theorem dX11_joins_93 : decode cX11_joins 93 = .ok (.aload_n 0, 1) := by decide +kernel
theorem dX11_joins_94 : decode cX11_joins 94 = .ok (.iload_n 2, 1) := by decide +kernel
theorem dX11_joins_95 : decode cX11_joins 95 = .ok (.invokevirtual 401, 3) := by decide +kernel
theorem dX11_joins_98 : decode cX11_joins 98 = .ok (.istore_n 3, 1) := by decide +kernel
theorem dX11_joins_99 : decode cX11_joins 99 = .ok (.iconst 0, 1) := by decide +kernel
theorem dX11_joins_100 : decode cX11_joins 100 = .ok (.istore 4, 2) := by decide +kernel
theorem dX11_joins_102 : decode cX11_joins 102 = .ok (.iload 4, 2) := by decide +kernel
theorem dX11_joins_104 : decode cX11_joins 104 = .ok (.aload_n 0, 1) := by decide +kernel
theorem dX11_joins_105 : decode cX11_joins 105 = .ok (.invokevirtual 237, 3) := by decide +kernel
theorem dX11_joins_108 : decode cX11_joins 108 = .ok (.if_icmp .ge 41, 3) := by decide +kernel
theorem dX11_joins_111 : decode cX11_joins 111 = .ok (.aload_n 0, 1) := by decide +kernel
theorem dX11_joins_112 : decode cX11_joins 112 = .ok (.getfield 15, 3) := by decide +kernel
theorem dX11_joins_115 : decode cX11_joins 115 = .ok (.iconst 0, 1) := by decide +kernel
theorem dX11_joins_116 : decode cX11_joins 116 = .ok (.aaload, 1) := by decide +kernel
theorem dX11_joins_117 : decode cX11_joins 117 = .ok (.iload 4, 2) := by decide +kernel
theorem dX11_joins_119 : decode cX11_joins 119 = .ok (.aload_n 0, 1) := by decide +kernel
theorem dX11_joins_120 : decode cX11_joins 120 = .ok (.getfield 105, 3) := by decide +kernel
theorem dX11_joins_123 : decode cX11_joins 123 = .ok (.iload 4, 2) := by decide +kernel
theorem dX11_joins_125 : decode cX11_joins 125 = .ok (.iaload, 1) := by decide +kernel
theorem dX11_joins_126 : decode cX11_joins 126 = .ok (.iastore, 1) := by decide +kernel
theorem dX11_joins_127 : decode cX11_joins 127 = .ok (.aload_n 0, 1) := by decide +kernel
theorem dX11_joins_128 : decode cX11_joins 128 = .ok (.getfield 18, 3) := by decide +kernel
theorem dX11_joins_131 : decode cX11_joins 131 = .ok (.iconst 0, 1) := by decide +kernel
theorem dX11_joins_132 : decode cX11_joins 132 = .ok (.aaload, 1) := by decide +kernel
theorem dX11_joins_133 : decode cX11_joins 133 = .ok (.iload 4, 2) := by decide +kernel
theorem dX11_joins_135 : decode cX11_joins 135 = .ok (.aload_n 0, 1) := by decide +kernel
theorem dX11_joins_136 : decode cX11_joins 136 = .ok (.getfield 108, 3) := by decide +kernel
theorem dX11_joins_139 : decode cX11_joins 139 = .ok (.iload 4, 2) := by decide +kernel
theorem dX11_joins_141 : decode cX11_joins 141 = .ok (.iaload, 1) := by decide +kernel
theorem dX11_joins_142 : decode cX11_joins 142 = .ok (.iastore, 1) := by decide +kernel
theorem dX11_joins_143 : decode cX11_joins 143 = .ok (.iinc 4 1, 3) := by decide +kernel
theorem dX11_joins_146 : decode cX11_joins 146 = .ok (.goto (-44), 3) := by decide +kernel
theorem dX11_joins_149 : decode cX11_joins 149 = .ok (.iload_n 3, 1) := by decide +kernel
theorem dX11_joins_150 : decode cX11_joins 150 = .ok (.ireturn, 1) := by decide +kernel
theorem dX11_join_0 : decode cX11_join 0 = .ok (.aload_n 0, 1) := by decide +kernel
theorem dX11_join_1 : decode cX11_join 1 = .ok (.iload_n 1, 1) := by decide +kernel
theorem dX11_join_2 : decode cX11_join 2 = .ok (.invokevirtual 248, 3) := by decide +kernel
theorem dX11_join_5 : decode cX11_join 5 = .ok (.ifCond .ne 5, 3) := by decide +kernel
theorem dX11_join_8 : decode cX11_join 8 = .ok (.iconst (-1), 1) := by decide +kernel
theorem dX11_join_9 : decode cX11_join 9 = .ok (.ireturn, 1) := by decide +kernel
theorem dX11_join_10 : decode cX11_join 10 = .ok (.bipush 9, 2) := by decide +kernel
theorem dX11_join_12 : decode cX11_join 12 = .ok (.aload_n 0, 1) := by decide +kernel
theorem dX11_join_13 : decode cX11_join 13 = .ok (.invokevirtual 237, 3) := by decide +kernel
theorem dX11_join_16 : decode cX11_join 16 = .ok (.invokestatic 198, 3) := by decide +kernel
theorem dX11_join_19 : decode cX11_join 19 = .ok (.istore_n 2, 1) := by decide +kernel
theorem dX11_join_20 : decode cX11_join 20 = .ok (.iconst 0, 1) := by decide +kernel
theorem dX11_join_21 : decode cX11_join 21 = .ok (.istore_n 3, 1) := by decide +kernel
theorem dX11_join_22 : decode cX11_join 22 = .ok (.iload_n 3, 1) := by decide +kernel
theorem dX11_join_23 : decode cX11_join 23 = .ok (.iload_n 2, 1) := by decide +kernel
theorem dX11_join_24 : decode cX11_join 24 = .ok (.if_icmp .gt 48, 3) := by decide +kernel
theorem dX11_join_27 : decode cX11_join 27 = .ok (.iconst 0, 1) := by decide +kernel
theorem dX11_join_28 : decode cX11_join 28 = .ok (.istore 4, 2) := by decide +kernel
theorem dX11_join_30 : decode cX11_join 30 = .ok (.iload 4, 2) := by decide +kernel
theorem dX11_join_32 : decode cX11_join 32 = .ok (.iconst 1, 1) := by decide +kernel
theorem dX11_join_33 : decode cX11_join 33 = .ok (.iload_n 2, 1) := by decide +kernel
theorem dX11_join_34 : decode cX11_join 34 = .ok (.ishl, 1) := by decide +kernel
theorem dX11_join_35 : decode cX11_join 35 = .ok (.if_icmp .ge 31, 3) := by decide +kernel
theorem dX11_join_38 : decode cX11_join 38 = .ok (.iload 4, 2) := by decide +kernel
theorem dX11_join_40 : decode cX11_join 40 = .ok (.invokestatic 387, 3) := by decide +kernel
theorem dX11_join_43 : decode cX11_join 43 = .ok (.iload_n 3, 1) := by decide +kernel
theorem dX11_join_44 : decode cX11_join 44 = .ok (.if_icmp .ne 16, 3) := by decide +kernel
theorem dX11_join_47 : decode cX11_join 47 = .ok (.aload_n 0, 1) := by decide +kernel
theorem dX11_join_48 : decode cX11_join 48 = .ok (.iload 4, 2) := by decide +kernel
theorem dX11_join_50 : decode cX11_join 50 = .ok (.iload_n 1, 1) := by decide +kernel
theorem dX11_join_51 : decode cX11_join 51 = .ok (.invokevirtual 407, 3) := by decide +kernel
theorem dX11_join_54 : decode cX11_join 54 = .ok (.ifCond .eq 6, 3) := by decide +kernel
theorem dX11_join_57 : decode cX11_join 57 = .ok (.iload 4, 2) := by decide +kernel
theorem dX11_join_59 : decode cX11_join 59 = .ok (.ireturn, 1) := by decide +kernel
theorem dX11_join_60 : decode cX11_join 60 = .ok (.iinc 4 1, 3) := by decide +kernel
theorem dX11_join_63 : decode cX11_join 63 = .ok (.goto (-33), 3) := by decide +kernel
theorem dX11_join_66 : decode cX11_join 66 = .ok (.iinc 3 1, 3) := by decide +kernel
theorem dX11_join_69 : decode cX11_join 69 = .ok (.goto (-47), 3) := by decide +kernel
theorem dX11_join_72 : decode cX11_join 72 = .ok (.iconst (-1), 1) := by decide +kernel
theorem dX11_join_73 : decode cX11_join 73 = .ok (.ireturn, 1) := by decide +kernel
theorem dX11_sure_0 : decode cX11_sure 0 = .ok (.iconst 1, 1) := by decide +kernel
theorem dX11_sure_1 : decode cX11_sure 1 = .ok (.istore 5, 2) := by decide +kernel
theorem dX11_sure_3 : decode cX11_sure 3 = .ok (.iconst 1, 1) := by decide +kernel
theorem dX11_sure_4 : decode cX11_sure 4 = .ok (.istore 6, 2) := by decide +kernel
theorem dX11_sure_6 : decode cX11_sure 6 = .ok (.iconst 1, 1) := by decide +kernel
theorem dX11_sure_7 : decode cX11_sure 7 = .ok (.istore 7, 2) := by decide +kernel
theorem dX11_sure_9 : decode cX11_sure 9 = .ok (.iconst 0, 1) := by decide +kernel
theorem dX11_sure_10 : decode cX11_sure 10 = .ok (.aload_n 0, 1) := by decide +kernel
theorem dX11_sure_11 : decode cX11_sure 11 = .ok (.getfield 15, 3) := by decide +kernel
theorem dX11_sure_14 : decode cX11_sure 14 = .ok (.iconst 0, 1) := by decide +kernel
theorem dX11_sure_15 : decode cX11_sure 15 = .ok (.aaload, 1) := by decide +kernel
theorem dX11_sure_16 : decode cX11_sure 16 = .ok (.iload_n 1, 1) := by decide +kernel
theorem dX11_sure_17 : decode cX11_sure 17 = .ok (.iaload, 1) := by decide +kernel
theorem dX11_sure_18 : decode cX11_sure 18 = .ok (.iload 4, 2) := by decide +kernel
theorem dX11_sure_20 : decode cX11_sure 20 = .ok (.isub, 1) := by decide +kernel
theorem dX11_sure_21 : decode cX11_sure 21 = .ok (.invokestatic 192, 3) := by decide +kernel
theorem dX11_sure_24 : decode cX11_sure 24 = .ok (.istore 8, 2) := by decide +kernel
theorem dX11_sure_26 : decode cX11_sure 26 = .ok (.iload 8, 2) := by decide +kernel
theorem dX11_sure_28 : decode cX11_sure 28 = .ok (.bipush 99, 2) := by decide +kernel
theorem dX11_sure_30 : decode cX11_sure 30 = .ok (.aload_n 0, 1) := by decide +kernel
theorem dX11_sure_31 : decode cX11_sure 31 = .ok (.getfield 15, 3) := by decide +kernel
theorem dX11_sure_34 : decode cX11_sure 34 = .ok (.iconst 0, 1) := by decide +kernel
theorem dX11_sure_35 : decode cX11_sure 35 = .ok (.aaload, 1) := by decide +kernel
theorem dX11_sure_36 : decode cX11_sure 36 = .ok (.iload_n 1, 1) := by decide +kernel
theorem dX11_sure_37 : decode cX11_sure 37 = .ok (.iaload, 1) := by decide +kernel
theorem dX11_sure_38 : decode cX11_sure 38 = .ok (.iload 4, 2) := by decide +kernel
theorem dX11_sure_40 : decode cX11_sure 40 = .ok (.iadd, 1) := by decide +kernel
theorem dX11_sure_41 : decode cX11_sure 41 = .ok (.invokestatic 198, 3) := by decide +kernel
theorem dX11_sure_44 : decode cX11_sure 44 = .ok (.if_icmp .gt 157, 3) := by decide +kernel
theorem dX11_sure_47 : decode cX11_sure 47 = .ok (.iconst 0, 1) := by decide +kernel
theorem dX11_sure_48 : decode cX11_sure 48 = .ok (.aload_n 0, 1) := by decide +kernel
theorem dX11_sure_49 : decode cX11_sure 49 = .ok (.getfield 18, 3) := by decide +kernel
theorem dX11_sure_52 : decode cX11_sure 52 = .ok (.iconst 0, 1) := by decide +kernel
theorem dX11_sure_53 : decode cX11_sure 53 = .ok (.aaload, 1) := by decide +kernel
theorem dX11_sure_54 : decode cX11_sure 54 = .ok (.iload_n 1, 1) := by decide +kernel
theorem dX11_sure_55 : decode cX11_sure 55 = .ok (.iaload, 1) := by decide +kernel
theorem dX11_sure_56 : decode cX11_sure 56 = .ok (.iload 4, 2) := by decide +kernel
theorem dX11_sure_58 : decode cX11_sure 58 = .ok (.isub, 1) := by decide +kernel
theorem dX11_sure_59 : decode cX11_sure 59 = .ok (.invokestatic 192, 3) := by decide +kernel
theorem dX11_sure_62 : decode cX11_sure 62 = .ok (.istore 9, 2) := by decide +kernel
theorem dX11_sure_64 : decode cX11_sure 64 = .ok (.iload 9, 2) := by decide +kernel
theorem dX11_sure_66 : decode cX11_sure 66 = .ok (.bipush 99, 2) := by decide +kernel
theorem dX11_sure_68 : decode cX11_sure 68 = .ok (.aload_n 0, 1) := by decide +kernel
theorem dX11_sure_69 : decode cX11_sure 69 = .ok (.getfield 18, 3) := by decide +kernel
theorem dX11_sure_72 : decode cX11_sure 72 = .ok (.iconst 0, 1) := by decide +kernel
theorem dX11_sure_73 : decode cX11_sure 73 = .ok (.aaload, 1) := by decide +kernel
theorem dX11_sure_74 : decode cX11_sure 74 = .ok (.iload_n 1, 1) := by decide +kernel
theorem dX11_sure_75 : decode cX11_sure 75 = .ok (.iaload, 1) := by decide +kernel
theorem dX11_sure_76 : decode cX11_sure 76 = .ok (.iload 4, 2) := by decide +kernel
theorem dX11_sure_78 : decode cX11_sure 78 = .ok (.iadd, 1) := by decide +kernel
theorem dX11_sure_79 : decode cX11_sure 79 = .ok (.invokestatic 198, 3) := by decide +kernel
theorem dX11_sure_82 : decode cX11_sure 82 = .ok (.if_icmp .gt 113, 3) := by decide +kernel
theorem dX11_sure_85 : decode cX11_sure 85 = .ok (.aload_n 0, 1) := by decide +kernel
theorem dX11_sure_86 : decode cX11_sure 86 = .ok (.iload_n 1, 1) := by decide +kernel
theorem dX11_sure_87 : decode cX11_sure 87 = .ok (.iload 8, 2) := by decide +kernel
theorem dX11_sure_89 : decode cX11_sure 89 = .ok (.iload 9, 2) := by decide +kernel
theorem dX11_sure_91 : decode cX11_sure 91 = .ok (.aload_n 0, 1) := by decide +kernel
theorem dX11_sure_92 : decode cX11_sure 92 = .ok (.getfield 33, 3) := by decide +kernel
theorem dX11_sure_95 : decode cX11_sure 95 = .ok (.iconst 0, 1) := by decide +kernel
theorem dX11_sure_96 : decode cX11_sure 96 = .ok (.aaload, 1) := by decide +kernel
theorem dX11_sure_97 : decode cX11_sure 97 = .ok (.iload_n 2, 1) := by decide +kernel
theorem dX11_sure_98 : decode cX11_sure 98 = .ok (.iaload, 1) := by decide +kernel
theorem dX11_sure_99 : decode cX11_sure 99 = .ok (.aload_n 0, 1) := by decide +kernel
theorem dX11_sure_100 : decode cX11_sure 100 = .ok (.getfield 36, 3) := by decide +kernel
theorem dX11_sure_103 : decode cX11_sure 103 = .ok (.iconst 0, 1) := by decide +kernel
theorem dX11_sure_104 : decode cX11_sure 104 = .ok (.aaload, 1) := by decide +kernel
theorem dX11_sure_105 : decode cX11_sure 105 = .ok (.iload_n 2, 1) := by decide +kernel
theorem dX11_sure_106 : decode cX11_sure 106 = .ok (.iaload, 1) := by decide +kernel
theorem dX11_sure_107 : decode cX11_sure 107 = .ok (.invokevirtual 258, 3) := by decide +kernel
theorem dX11_sure_110 : decode cX11_sure 110 = .ok (.aload_n 0, 1) := by decide +kernel
theorem dX11_sure_111 : decode cX11_sure 111 = .ok (.iload_n 1, 1) := by decide +kernel
theorem dX11_sure_112 : decode cX11_sure 112 = .ok (.iload 8, 2) := by decide +kernel
theorem dX11_sure_114 : decode cX11_sure 114 = .ok (.iload 9, 2) := by decide +kernel
theorem dX11_sure_116 : decode cX11_sure 116 = .ok (.aload_n 0, 1) := by decide +kernel
theorem dX11_sure_117 : decode cX11_sure 117 = .ok (.getfield 33, 3) := by decide +kernel
theorem dX11_sure_120 : decode cX11_sure 120 = .ok (.iconst 0, 1) := by decide +kernel
theorem dX11_sure_121 : decode cX11_sure 121 = .ok (.aaload, 1) := by decide +kernel
theorem dX11_sure_122 : decode cX11_sure 122 = .ok (.iload_n 3, 1) := by decide +kernel
theorem dX11_sure_123 : decode cX11_sure 123 = .ok (.iaload, 1) := by decide +kernel
theorem dX11_sure_124 : decode cX11_sure 124 = .ok (.aload_n 0, 1) := by decide +kernel
theorem dX11_sure_125 : decode cX11_sure 125 = .ok (.getfield 36, 3) := by decide +kernel
theorem dX11_sure_128 : decode cX11_sure 128 = .ok (.iconst 0, 1) := by decide +kernel
theorem dX11_sure_129 : decode cX11_sure 129 = .ok (.aaload, 1) := by decide +kernel
theorem dX11_sure_130 : decode cX11_sure 130 = .ok (.iload_n 3, 1) := by decide +kernel
theorem dX11_sure_131 : decode cX11_sure 131 = .ok (.iaload, 1) := by decide +kernel
theorem dX11_sure_132 : decode cX11_sure 132 = .ok (.invokevirtual 258, 3) := by decide +kernel
theorem dX11_sure_135 : decode cX11_sure 135 = .ok (.isub, 1) := by decide +kernel
theorem dX11_sure_136 : decode cX11_sure 136 = .ok (.istore 10, 2) := by decide +kernel
theorem dX11_sure_138 : decode cX11_sure 138 = .ok (.iload 5, 2) := by decide +kernel
theorem dX11_sure_140 : decode cX11_sure 140 = .ok (.ifCond .eq 12, 3) := by decide +kernel
theorem dX11_sure_143 : decode cX11_sure 143 = .ok (.iload 10, 2) := by decide +kernel
theorem dX11_sure_145 : decode cX11_sure 145 = .ok (.ifCond .ge 7, 3) := by decide +kernel
theorem dX11_sure_148 : decode cX11_sure 148 = .ok (.iconst 1, 1) := by decide +kernel
theorem dX11_sure_149 : decode cX11_sure 149 = .ok (.goto 4, 3) := by decide +kernel
theorem dX11_sure_152 : decode cX11_sure 152 = .ok (.iconst 0, 1) := by decide +kernel
theorem dX11_sure_153 : decode cX11_sure 153 = .ok (.istore 5, 2) := by decide +kernel
theorem dX11_sure_155 : decode cX11_sure 155 = .ok (.iload 6, 2) := by decide +kernel
theorem dX11_sure_157 : decode cX11_sure 157 = .ok (.ifCond .eq 12, 3) := by decide +kernel
theorem dX11_sure_160 : decode cX11_sure 160 = .ok (.iload 10, 2) := by decide +kernel
theorem dX11_sure_162 : decode cX11_sure 162 = .ok (.ifCond .le 7, 3) := by decide +kernel
theorem dX11_sure_165 : decode cX11_sure 165 = .ok (.iconst 1, 1) := by decide +kernel
theorem dX11_sure_166 : decode cX11_sure 166 = .ok (.goto 4, 3) := by decide +kernel
theorem dX11_sure_169 : decode cX11_sure 169 = .ok (.iconst 0, 1) := by decide +kernel
theorem dX11_sure_170 : decode cX11_sure 170 = .ok (.istore 6, 2) := by decide +kernel
theorem dX11_sure_172 : decode cX11_sure 172 = .ok (.iload 7, 2) := by decide +kernel
theorem dX11_sure_174 : decode cX11_sure 174 = .ok (.ifCond .eq 12, 3) := by decide +kernel
theorem dX11_sure_177 : decode cX11_sure 177 = .ok (.iload 10, 2) := by decide +kernel
theorem dX11_sure_179 : decode cX11_sure 179 = .ok (.ifCond .ne 7, 3) := by decide +kernel
theorem dX11_sure_182 : decode cX11_sure 182 = .ok (.iconst 1, 1) := by decide +kernel
theorem dX11_sure_183 : decode cX11_sure 183 = .ok (.goto 4, 3) := by decide +kernel
theorem dX11_sure_186 : decode cX11_sure 186 = .ok (.iconst 0, 1) := by decide +kernel
theorem dX11_sure_187 : decode cX11_sure 187 = .ok (.istore 7, 2) := by decide +kernel
theorem dX11_sure_189 : decode cX11_sure 189 = .ok (.iinc 9 1, 3) := by decide +kernel
theorem dX11_sure_192 : decode cX11_sure 192 = .ok (.goto (-128), 3) := by decide +kernel
theorem dX11_sure_195 : decode cX11_sure 195 = .ok (.iinc 8 1, 3) := by decide +kernel
theorem dX11_sure_198 : decode cX11_sure 198 = .ok (.goto (-172), 3) := by decide +kernel
theorem dX11_sure_201 : decode cX11_sure 201 = .ok (.iload 5, 2) := by decide +kernel
theorem dX11_sure_203 : decode cX11_sure 203 = .ok (.ifCond .eq 7, 3) := by decide +kernel
theorem dX11_sure_206 : decode cX11_sure 206 = .ok (.iconst 1, 1) := by decide +kernel
theorem dX11_sure_207 : decode cX11_sure 207 = .ok (.goto 22, 3) := by decide +kernel
theorem dX11_sure_210 : decode cX11_sure 210 = .ok (.iload 6, 2) := by decide +kernel
theorem dX11_sure_212 : decode cX11_sure 212 = .ok (.ifCond .eq 7, 3) := by decide +kernel
theorem dX11_sure_215 : decode cX11_sure 215 = .ok (.iconst (-1), 1) := by decide +kernel
theorem dX11_sure_216 : decode cX11_sure 216 = .ok (.goto 13, 3) := by decide +kernel
theorem dX11_sure_219 : decode cX11_sure 219 = .ok (.iload 7, 2) := by decide +kernel
theorem dX11_sure_221 : decode cX11_sure 221 = .ok (.ifCond .eq 7, 3) := by decide +kernel
theorem dX11_sure_224 : decode cX11_sure 224 = .ok (.iconst 2, 1) := by decide +kernel
theorem dX11_sure_225 : decode cX11_sure 225 = .ok (.goto 4, 3) := by decide +kernel
theorem dX11_sure_228 : decode cX11_sure 228 = .ok (.iconst 0, 1) := by decide +kernel
theorem dX11_sure_229 : decode cX11_sure 229 = .ok (.ireturn, 1) := by decide +kernel
theorem dX11_asks_0 : decode cX11_asks 0 = .ok (.aload_n 0, 1) := by decide +kernel
theorem dX11_asks_1 : decode cX11_asks 1 = .ok (.iconst 0, 1) := by decide +kernel
theorem dX11_asks_2 : decode cX11_asks 2 = .ok (.putfield 410, 3) := by decide +kernel
theorem dX11_asks_5 : decode cX11_asks 5 = .ok (.aload_n 0, 1) := by decide +kernel
theorem dX11_asks_6 : decode cX11_asks 6 = .ok (.iconst 0, 1) := by decide +kernel
theorem dX11_asks_7 : decode cX11_asks 7 = .ok (.putfield 413, 3) := by decide +kernel
theorem dX11_asks_10 : decode cX11_asks 10 = .ok (.aload_n 0, 1) := by decide +kernel
theorem dX11_asks_11 : decode cX11_asks 11 = .ok (.iconst 0, 1) := by decide +kernel
theorem dX11_asks_12 : decode cX11_asks 12 = .ok (.putfield 416, 3) := by decide +kernel
theorem dX11_asks_15 : decode cX11_asks 15 = .ok (.iconst 0, 1) := by decide +kernel
theorem dX11_asks_16 : decode cX11_asks 16 = .ok (.istore 4, 2) := by decide +kernel
theorem dX11_asks_18 : decode cX11_asks 18 = .ok (.iload 4, 2) := by decide +kernel
theorem dX11_asks_20 : decode cX11_asks 20 = .ok (.aload_n 0, 1) := by decide +kernel
theorem dX11_asks_21 : decode cX11_asks 21 = .ok (.invokevirtual 237, 3) := by decide +kernel
theorem dX11_asks_24 : decode cX11_asks 24 = .ok (.if_icmp .ge 103, 3) := by decide +kernel
theorem dX11_asks_27 : decode cX11_asks 27 = .ok (.aload_n 0, 1) := by decide +kernel
theorem dX11_asks_28 : decode cX11_asks 28 = .ok (.iload 4, 2) := by decide +kernel
theorem dX11_asks_30 : decode cX11_asks 30 = .ok (.iload_n 1, 1) := by decide +kernel
theorem dX11_asks_31 : decode cX11_asks 31 = .ok (.iload_n 2, 1) := by decide +kernel
theorem dX11_asks_32 : decode cX11_asks 32 = .ok (.iload_n 3, 1) := by decide +kernel
theorem dX11_asks_33 : decode cX11_asks 33 = .ok (.invokevirtual 419, 3) := by decide +kernel
theorem dX11_asks_36 : decode cX11_asks 36 = .ok (.istore 5, 2) := by decide +kernel
theorem dX11_asks_38 : decode cX11_asks 38 = .ok (.aload_n 0, 1) := by decide +kernel
theorem dX11_asks_39 : decode cX11_asks 39 = .ok (.dup, 1) := by decide +kernel
theorem dX11_asks_40 : decode cX11_asks 40 = .ok (.getfield 410, 3) := by decide +kernel
theorem dX11_asks_43 : decode cX11_asks 43 = .ok (.iload 5, 2) := by decide +kernel
theorem dX11_asks_45 : decode cX11_asks 45 = .ok (.ifCond .ne 15, 3) := by decide +kernel
theorem dX11_asks_48 : decode cX11_asks 48 = .ok (.aload_n 0, 1) := by decide +kernel
theorem dX11_asks_49 : decode cX11_asks 49 = .ok (.getfield 21, 3) := by decide +kernel
theorem dX11_asks_52 : decode cX11_asks 52 = .ok (.iconst 0, 1) := by decide +kernel
theorem dX11_asks_53 : decode cX11_asks 53 = .ok (.aaload, 1) := by decide +kernel
theorem dX11_asks_54 : decode cX11_asks 54 = .ok (.iload 4, 2) := by decide +kernel
theorem dX11_asks_56 : decode cX11_asks 56 = .ok (.iaload, 1) := by decide +kernel
theorem dX11_asks_57 : decode cX11_asks 57 = .ok (.goto 4, 3) := by decide +kernel
theorem dX11_asks_60 : decode cX11_asks 60 = .ok (.iconst 0, 1) := by decide +kernel
theorem dX11_asks_61 : decode cX11_asks 61 = .ok (.iadd, 1) := by decide +kernel
theorem dX11_asks_62 : decode cX11_asks 62 = .ok (.putfield 410, 3) := by decide +kernel
theorem dX11_asks_65 : decode cX11_asks 65 = .ok (.aload_n 0, 1) := by decide +kernel
theorem dX11_asks_66 : decode cX11_asks 66 = .ok (.dup, 1) := by decide +kernel
theorem dX11_asks_67 : decode cX11_asks 67 = .ok (.getfield 413, 3) := by decide +kernel
theorem dX11_asks_70 : decode cX11_asks 70 = .ok (.iload 5, 2) := by decide +kernel
theorem dX11_asks_72 : decode cX11_asks 72 = .ok (.iconst 1, 1) := by decide +kernel
theorem dX11_asks_73 : decode cX11_asks 73 = .ok (.if_icmp .ne 15, 3) := by decide +kernel
theorem dX11_asks_76 : decode cX11_asks 76 = .ok (.aload_n 0, 1) := by decide +kernel
theorem dX11_asks_77 : decode cX11_asks 77 = .ok (.getfield 21, 3) := by decide +kernel
theorem dX11_asks_80 : decode cX11_asks 80 = .ok (.iconst 0, 1) := by decide +kernel
theorem dX11_asks_81 : decode cX11_asks 81 = .ok (.aaload, 1) := by decide +kernel
theorem dX11_asks_82 : decode cX11_asks 82 = .ok (.iload 4, 2) := by decide +kernel
theorem dX11_asks_84 : decode cX11_asks 84 = .ok (.iaload, 1) := by decide +kernel
theorem dX11_asks_85 : decode cX11_asks 85 = .ok (.goto 4, 3) := by decide +kernel
theorem dX11_asks_88 : decode cX11_asks 88 = .ok (.iconst 0, 1) := by decide +kernel
theorem dX11_asks_89 : decode cX11_asks 89 = .ok (.iadd, 1) := by decide +kernel
theorem dX11_asks_90 : decode cX11_asks 90 = .ok (.putfield 413, 3) := by decide +kernel
theorem dX11_asks_93 : decode cX11_asks 93 = .ok (.aload_n 0, 1) := by decide +kernel
theorem dX11_asks_94 : decode cX11_asks 94 = .ok (.dup, 1) := by decide +kernel
theorem dX11_asks_95 : decode cX11_asks 95 = .ok (.getfield 416, 3) := by decide +kernel
theorem dX11_asks_98 : decode cX11_asks 98 = .ok (.iload 5, 2) := by decide +kernel
theorem dX11_asks_100 : decode cX11_asks 100 = .ok (.iconst (-1), 1) := by decide +kernel
theorem dX11_asks_101 : decode cX11_asks 101 = .ok (.if_icmp .ne 15, 3) := by decide +kernel
theorem dX11_asks_104 : decode cX11_asks 104 = .ok (.aload_n 0, 1) := by decide +kernel
theorem dX11_asks_105 : decode cX11_asks 105 = .ok (.getfield 21, 3) := by decide +kernel
theorem dX11_asks_108 : decode cX11_asks 108 = .ok (.iconst 0, 1) := by decide +kernel
theorem dX11_asks_109 : decode cX11_asks 109 = .ok (.aaload, 1) := by decide +kernel
theorem dX11_asks_110 : decode cX11_asks 110 = .ok (.iload 4, 2) := by decide +kernel
theorem dX11_asks_112 : decode cX11_asks 112 = .ok (.iaload, 1) := by decide +kernel
theorem dX11_asks_113 : decode cX11_asks 113 = .ok (.goto 4, 3) := by decide +kernel
theorem dX11_asks_116 : decode cX11_asks 116 = .ok (.iconst 0, 1) := by decide +kernel
theorem dX11_asks_117 : decode cX11_asks 117 = .ok (.iadd, 1) := by decide +kernel
theorem dX11_asks_118 : decode cX11_asks 118 = .ok (.putfield 416, 3) := by decide +kernel
theorem dX11_asks_121 : decode cX11_asks 121 = .ok (.iinc 4 1, 3) := by decide +kernel
theorem dX11_asks_124 : decode cX11_asks 124 = .ok (.goto (-106), 3) := by decide +kernel
theorem dX11_asks_127 : decode cX11_asks 127 = .ok (.return_, 1) := by decide +kernel
theorem dX11_doubt_0 : decode cX11_doubt 0 = .ok (.aload_n 0, 1) := by decide +kernel
theorem dX11_doubt_1 : decode cX11_doubt 1 = .ok (.iload_n 1, 1) := by decide +kernel
theorem dX11_doubt_2 : decode cX11_doubt 2 = .ok (.invokevirtual 248, 3) := by decide +kernel
theorem dX11_doubt_5 : decode cX11_doubt 5 = .ok (.ifCond .eq 15, 3) := by decide +kernel
theorem dX11_doubt_8 : decode cX11_doubt 8 = .ok (.iload_n 2, 1) := by decide +kernel
theorem dX11_doubt_9 : decode cX11_doubt 9 = .ok (.i2l, 1) := by decide +kernel
theorem dX11_doubt_10 : decode cX11_doubt 10 = .ok (.lconst 0, 1) := by decide +kernel
theorem dX11_doubt_11 : decode cX11_doubt 11 = .ok (.ldc2_w 422, 3) := by decide +kernel
theorem dX11_doubt_14 : decode cX11_doubt 14 = .ok (.invokestatic 122, 3) := by decide +kernel
theorem dX11_doubt_17 : decode cX11_doubt 17 = .ok (.ifCond .ne 5, 3) := by decide +kernel
theorem dX11_doubt_20 : decode cX11_doubt 20 = .ok (.iconst (-1), 1) := by decide +kernel
theorem dX11_doubt_21 : decode cX11_doubt 21 = .ok (.ireturn, 1) := by decide +kernel
theorem dX11_doubt_22 : decode cX11_doubt 22 = .ok (.iconst 0, 1) := by decide +kernel
theorem dX11_doubt_23 : decode cX11_doubt 23 = .ok (.istore_n 3, 1) := by decide +kernel
theorem dX11_doubt_24 : decode cX11_doubt 24 = .ok (.iconst 0, 1) := by decide +kernel
theorem dX11_doubt_25 : decode cX11_doubt 25 = .ok (.istore 4, 2) := by decide +kernel
theorem dX11_doubt_27 : decode cX11_doubt 27 = .ok (.iload 4, 2) := by decide +kernel
theorem dX11_doubt_29 : decode cX11_doubt 29 = .ok (.aload_n 0, 1) := by decide +kernel
theorem dX11_doubt_30 : decode cX11_doubt 30 = .ok (.invokevirtual 242, 3) := by decide +kernel
theorem dX11_doubt_33 : decode cX11_doubt 33 = .ok (.if_icmp .ge 78, 3) := by decide +kernel
theorem dX11_doubt_36 : decode cX11_doubt 36 = .ok (.iload 4, 2) := by decide +kernel
theorem dX11_doubt_38 : decode cX11_doubt 38 = .ok (.iload_n 1, 1) := by decide +kernel
theorem dX11_doubt_39 : decode cX11_doubt 39 = .ok (.if_icmp .ne 6, 3) := by decide +kernel
theorem dX11_doubt_42 : decode cX11_doubt 42 = .ok (.goto 63, 3) := by decide +kernel
theorem dX11_doubt_45 : decode cX11_doubt 45 = .ok (.aload_n 0, 1) := by decide +kernel
theorem dX11_doubt_46 : decode cX11_doubt 46 = .ok (.iload_n 1, 1) := by decide +kernel
theorem dX11_doubt_47 : decode cX11_doubt 47 = .ok (.iload 4, 2) := by decide +kernel
theorem dX11_doubt_49 : decode cX11_doubt 49 = .ok (.iload_n 2, 1) := by decide +kernel
theorem dX11_doubt_50 : decode cX11_doubt 50 = .ok (.invokevirtual 424, 3) := by decide +kernel
theorem dX11_doubt_53 : decode cX11_doubt 53 = .ok (.aload_n 0, 1) := by decide +kernel
theorem dX11_doubt_54 : decode cX11_doubt 54 = .ok (.aload_n 0, 1) := by decide +kernel
theorem dX11_doubt_55 : decode cX11_doubt 55 = .ok (.getfield 416, 3) := by decide +kernel
theorem dX11_doubt_58 : decode cX11_doubt 58 = .ok (.aload_n 0, 1) := by decide +kernel
theorem dX11_doubt_59 : decode cX11_doubt 59 = .ok (.getfield 413, 3) := by decide +kernel
theorem dX11_doubt_62 : decode cX11_doubt 62 = .ok (.aload_n 0, 1) := by decide +kernel
theorem dX11_doubt_63 : decode cX11_doubt 63 = .ok (.getfield 410, 3) := by decide +kernel
theorem dX11_doubt_66 : decode cX11_doubt 66 = .ok (.iadd, 1) := by decide +kernel
theorem dX11_doubt_67 : decode cX11_doubt 67 = .ok (.invokevirtual 273, 3) := by decide +kernel
theorem dX11_doubt_70 : decode cX11_doubt 70 = .ok (.ifCond .eq 5, 3) := by decide +kernel
theorem dX11_doubt_73 : decode cX11_doubt 73 = .ok (.iconst 0, 1) := by decide +kernel
theorem dX11_doubt_74 : decode cX11_doubt 74 = .ok (.ireturn, 1) := by decide +kernel
theorem dX11_doubt_75 : decode cX11_doubt 75 = .ok (.iload_n 3, 1) := by decide +kernel
theorem dX11_doubt_76 : decode cX11_doubt 76 = .ok (.ifCond .ne 23, 3) := by decide +kernel
theorem dX11_doubt_79 : decode cX11_doubt 79 = .ok (.aload_n 0, 1) := by decide +kernel
theorem dX11_doubt_80 : decode cX11_doubt 80 = .ok (.aload_n 0, 1) := by decide +kernel
theorem dX11_doubt_81 : decode cX11_doubt 81 = .ok (.getfield 416, 3) := by decide +kernel
theorem dX11_doubt_84 : decode cX11_doubt 84 = .ok (.aload_n 0, 1) := by decide +kernel
theorem dX11_doubt_85 : decode cX11_doubt 85 = .ok (.getfield 410, 3) := by decide +kernel
theorem dX11_doubt_88 : decode cX11_doubt 88 = .ok (.iadd, 1) := by decide +kernel
theorem dX11_doubt_89 : decode cX11_doubt 89 = .ok (.aload_n 0, 1) := by decide +kernel
theorem dX11_doubt_90 : decode cX11_doubt 90 = .ok (.getfield 413, 3) := by decide +kernel
theorem dX11_doubt_93 : decode cX11_doubt 93 = .ok (.invokevirtual 273, 3) := by decide +kernel
theorem dX11_doubt_96 : decode cX11_doubt 96 = .ok (.ifCond .eq 7, 3) := by decide +kernel
theorem dX11_doubt_99 : decode cX11_doubt 99 = .ok (.iconst 1, 1) := by decide +kernel
theorem dX11_doubt_100 : decode cX11_doubt 100 = .ok (.goto 4, 3) := by decide +kernel
theorem dX11_doubt_103 : decode cX11_doubt 103 = .ok (.iconst 0, 1) := by decide +kernel
theorem dX11_doubt_104 : decode cX11_doubt 104 = .ok (.istore_n 3, 1) := by decide +kernel
theorem dX11_doubt_105 : decode cX11_doubt 105 = .ok (.iinc 4 1, 3) := by decide +kernel
theorem dX11_doubt_108 : decode cX11_doubt 108 = .ok (.goto (-81), 3) := by decide +kernel
theorem dX11_doubt_111 : decode cX11_doubt 111 = .ok (.iload_n 3, 1) := by decide +kernel
theorem dX11_doubt_112 : decode cX11_doubt 112 = .ok (.ifCond .eq 7, 3) := by decide +kernel
theorem dX11_doubt_115 : decode cX11_doubt 115 = .ok (.iconst 1, 1) := by decide +kernel
theorem dX11_doubt_116 : decode cX11_doubt 116 = .ok (.goto 4, 3) := by decide +kernel
theorem dX11_doubt_119 : decode cX11_doubt 119 = .ok (.iconst 2, 1) := by decide +kernel
theorem dX11_doubt_120 : decode cX11_doubt 120 = .ok (.ireturn, 1) := by decide +kernel
theorem dX11_pairs_0 : decode cX11_pairs 0 = .ok (.iconst 0, 1) := by decide +kernel
theorem dX11_pairs_1 : decode cX11_pairs 1 = .ok (.istore_n 1, 1) := by decide +kernel
theorem dX11_pairs_2 : decode cX11_pairs 2 = .ok (.iconst 0, 1) := by decide +kernel
theorem dX11_pairs_3 : decode cX11_pairs 3 = .ok (.istore_n 2, 1) := by decide +kernel
theorem dX11_pairs_4 : decode cX11_pairs 4 = .ok (.iload_n 2, 1) := by decide +kernel
theorem dX11_pairs_5 : decode cX11_pairs 5 = .ok (.aload_n 0, 1) := by decide +kernel
theorem dX11_pairs_6 : decode cX11_pairs 6 = .ok (.invokevirtual 242, 3) := by decide +kernel
theorem dX11_pairs_9 : decode cX11_pairs 9 = .ok (.if_icmp .ge 42, 3) := by decide +kernel
theorem dX11_pairs_12 : decode cX11_pairs 12 = .ok (.iconst 0, 1) := by decide +kernel
theorem dX11_pairs_13 : decode cX11_pairs 13 = .ok (.istore_n 3, 1) := by decide +kernel
theorem dX11_pairs_14 : decode cX11_pairs 14 = .ok (.iload_n 3, 1) := by decide +kernel
theorem dX11_pairs_15 : decode cX11_pairs 15 = .ok (.aload_n 0, 1) := by decide +kernel
theorem dX11_pairs_16 : decode cX11_pairs 16 = .ok (.invokevirtual 242, 3) := by decide +kernel
theorem dX11_pairs_19 : decode cX11_pairs 19 = .ok (.if_icmp .ge 26, 3) := by decide +kernel
theorem dX11_pairs_22 : decode cX11_pairs 22 = .ok (.iload_n 1, 1) := by decide +kernel
theorem dX11_pairs_23 : decode cX11_pairs 23 = .ok (.aload_n 0, 1) := by decide +kernel
theorem dX11_pairs_24 : decode cX11_pairs 24 = .ok (.iload_n 2, 1) := by decide +kernel
theorem dX11_pairs_25 : decode cX11_pairs 25 = .ok (.iload_n 3, 1) := by decide +kernel
theorem dX11_pairs_26 : decode cX11_pairs 26 = .ok (.invokevirtual 283, 3) := by decide +kernel
theorem dX11_pairs_29 : decode cX11_pairs 29 = .ok (.ifCond .eq 7, 3) := by decide +kernel
theorem dX11_pairs_32 : decode cX11_pairs 32 = .ok (.iconst 1, 1) := by decide +kernel
theorem dX11_pairs_33 : decode cX11_pairs 33 = .ok (.goto 4, 3) := by decide +kernel
theorem dX11_pairs_36 : decode cX11_pairs 36 = .ok (.iconst 0, 1) := by decide +kernel
theorem dX11_pairs_37 : decode cX11_pairs 37 = .ok (.iadd, 1) := by decide +kernel
theorem dX11_pairs_38 : decode cX11_pairs 38 = .ok (.istore_n 1, 1) := by decide +kernel
theorem dX11_pairs_39 : decode cX11_pairs 39 = .ok (.iinc 3 1, 3) := by decide +kernel
theorem dX11_pairs_42 : decode cX11_pairs 42 = .ok (.goto (-28), 3) := by decide +kernel
theorem dX11_pairs_45 : decode cX11_pairs 45 = .ok (.iinc 2 1, 3) := by decide +kernel
theorem dX11_pairs_48 : decode cX11_pairs 48 = .ok (.goto (-44), 3) := by decide +kernel
theorem dX11_pairs_51 : decode cX11_pairs 51 = .ok (.iload_n 1, 1) := by decide +kernel
theorem dX11_pairs_52 : decode cX11_pairs 52 = .ok (.ireturn, 1) := by decide +kernel
theorem dX11_move_0 : decode cX11_move 0 = .ok (.aload_n 0, 1) := by decide +kernel
theorem dX11_move_1 : decode cX11_move 1 = .ok (.iload_n 1, 1) := by decide +kernel
theorem dX11_move_2 : decode cX11_move 2 = .ok (.invokevirtual 245, 3) := by decide +kernel
theorem dX11_move_5 : decode cX11_move 5 = .ok (.ifCond .eq 44, 3) := by decide +kernel
theorem dX11_move_8 : decode cX11_move 8 = .ok (.iload_n 2, 1) := by decide +kernel
theorem dX11_move_9 : decode cX11_move 9 = .ok (.iload_n 3, 1) := by decide +kernel
theorem dX11_move_10 : decode cX11_move 10 = .ok (.invokestatic 251, 3) := by decide +kernel
theorem dX11_move_13 : decode cX11_move 13 = .ok (.ifCond .eq 36, 3) := by decide +kernel
theorem dX11_move_16 : decode cX11_move 16 = .ok (.aload_n 0, 1) := by decide +kernel
theorem dX11_move_17 : decode cX11_move 17 = .ok (.getfield 15, 3) := by decide +kernel
theorem dX11_move_20 : decode cX11_move 20 = .ok (.iconst 0, 1) := by decide +kernel
theorem dX11_move_21 : decode cX11_move 21 = .ok (.aaload, 1) := by decide +kernel
theorem dX11_move_22 : decode cX11_move 22 = .ok (.iload_n 1, 1) := by decide +kernel
theorem dX11_move_23 : decode cX11_move 23 = .ok (.iaload, 1) := by decide +kernel
theorem dX11_move_24 : decode cX11_move 24 = .ok (.iload_n 2, 1) := by decide +kernel
theorem dX11_move_25 : decode cX11_move 25 = .ok (.if_icmp .ne 15, 3) := by decide +kernel
theorem dX11_move_28 : decode cX11_move 28 = .ok (.aload_n 0, 1) := by decide +kernel
theorem dX11_move_29 : decode cX11_move 29 = .ok (.getfield 18, 3) := by decide +kernel
theorem dX11_move_32 : decode cX11_move 32 = .ok (.iconst 0, 1) := by decide +kernel
theorem dX11_move_33 : decode cX11_move 33 = .ok (.aaload, 1) := by decide +kernel
theorem dX11_move_34 : decode cX11_move 34 = .ok (.iload_n 1, 1) := by decide +kernel
theorem dX11_move_35 : decode cX11_move 35 = .ok (.iaload, 1) := by decide +kernel
theorem dX11_move_36 : decode cX11_move 36 = .ok (.iload_n 3, 1) := by decide +kernel
theorem dX11_move_37 : decode cX11_move 37 = .ok (.if_icmp .eq 12, 3) := by decide +kernel
theorem dX11_move_40 : decode cX11_move 40 = .ok (.aload_n 0, 1) := by decide +kernel
theorem dX11_move_41 : decode cX11_move 41 = .ok (.getfield 231, 3) := by decide +kernel
theorem dX11_move_44 : decode cX11_move 44 = .ok (.bipush 40, 2) := by decide +kernel
theorem dX11_move_46 : decode cX11_move 46 = .ok (.if_icmp .ne 5, 3) := by decide +kernel
theorem dX11_move_49 : decode cX11_move 49 = .ok (.iconst (-1), 1) := by decide +kernel
theorem dX11_move_50 : decode cX11_move 50 = .ok (.ireturn, 1) := by decide +kernel
theorem dX11_move_51 : decode cX11_move 51 = .ok (.aload_n 0, 1) := by decide +kernel
theorem dX11_move_52 : decode cX11_move 52 = .ok (.getfield 111, 3) := by decide +kernel
theorem dX11_move_55 : decode cX11_move 55 = .ok (.aload_n 0, 1) := by decide +kernel
theorem dX11_move_56 : decode cX11_move 56 = .ok (.getfield 231, 3) := by decide +kernel
theorem dX11_move_59 : decode cX11_move 59 = .ok (.aaload, 1) := by decide +kernel
theorem dX11_move_60 : decode cX11_move 60 = .ok (.astore 4, 2) := by decide +kernel
theorem dX11_move_62 : decode cX11_move 62 = .ok (.aload 4, 2) := by decide +kernel
theorem dX11_move_64 : decode cX11_move 64 = .ok (.iconst 0, 1) := by decide +kernel
theorem dX11_move_65 : decode cX11_move 65 = .ok (.iload_n 1, 1) := by decide +kernel
theorem dX11_move_66 : decode cX11_move 66 = .ok (.iastore, 1) := by decide +kernel
theorem dX11_move_67 : decode cX11_move 67 = .ok (.aload 4, 2) := by decide +kernel
theorem dX11_move_69 : decode cX11_move 69 = .ok (.iconst 1, 1) := by decide +kernel
theorem dX11_move_70 : decode cX11_move 70 = .ok (.aload_n 0, 1) := by decide +kernel
theorem dX11_move_71 : decode cX11_move 71 = .ok (.getfield 15, 3) := by decide +kernel
theorem dX11_move_74 : decode cX11_move 74 = .ok (.iconst 0, 1) := by decide +kernel
theorem dX11_move_75 : decode cX11_move 75 = .ok (.aaload, 1) := by decide +kernel
theorem dX11_move_76 : decode cX11_move 76 = .ok (.iload_n 1, 1) := by decide +kernel
theorem dX11_move_77 : decode cX11_move 77 = .ok (.iaload, 1) := by decide +kernel
theorem dX11_move_78 : decode cX11_move 78 = .ok (.iastore, 1) := by decide +kernel
theorem dX11_move_79 : decode cX11_move 79 = .ok (.aload 4, 2) := by decide +kernel
theorem dX11_move_81 : decode cX11_move 81 = .ok (.iconst 2, 1) := by decide +kernel
theorem dX11_move_82 : decode cX11_move 82 = .ok (.aload_n 0, 1) := by decide +kernel
theorem dX11_move_83 : decode cX11_move 83 = .ok (.getfield 18, 3) := by decide +kernel
theorem dX11_move_86 : decode cX11_move 86 = .ok (.iconst 0, 1) := by decide +kernel
theorem dX11_move_87 : decode cX11_move 87 = .ok (.aaload, 1) := by decide +kernel
theorem dX11_move_88 : decode cX11_move 88 = .ok (.iload_n 1, 1) := by decide +kernel
theorem dX11_move_89 : decode cX11_move 89 = .ok (.iaload, 1) := by decide +kernel
theorem dX11_move_90 : decode cX11_move 90 = .ok (.iastore, 1) := by decide +kernel
theorem dX11_move_91 : decode cX11_move 91 = .ok (.aload 4, 2) := by decide +kernel
theorem dX11_move_93 : decode cX11_move 93 = .ok (.iconst 3, 1) := by decide +kernel
theorem dX11_move_94 : decode cX11_move 94 = .ok (.iload_n 2, 1) := by decide +kernel
theorem dX11_move_95 : decode cX11_move 95 = .ok (.iastore, 1) := by decide +kernel
theorem dX11_move_96 : decode cX11_move 96 = .ok (.aload 4, 2) := by decide +kernel
theorem dX11_move_98 : decode cX11_move 98 = .ok (.iconst 4, 1) := by decide +kernel
theorem dX11_move_99 : decode cX11_move 99 = .ok (.iload_n 3, 1) := by decide +kernel
theorem dX11_move_100 : decode cX11_move 100 = .ok (.iastore, 1) := by decide +kernel
theorem dX11_move_101 : decode cX11_move 101 = .ok (.aload 4, 2) := by decide +kernel
theorem dX11_move_103 : decode cX11_move 103 = .ok (.iconst 5, 1) := by decide +kernel
theorem dX11_move_104 : decode cX11_move 104 = .ok (.aload_n 0, 1) := by decide +kernel
theorem dX11_move_105 : decode cX11_move 105 = .ok (.invokevirtual 427, 3) := by decide +kernel
theorem dX11_move_108 : decode cX11_move 108 = .ok (.iastore, 1) := by decide +kernel
theorem dX11_move_109 : decode cX11_move 109 = .ok (.aload 4, 2) := by decide +kernel
theorem dX11_move_111 : decode cX11_move 111 = .ok (.bipush 7, 2) := by decide +kernel
theorem dX11_move_113 : decode cX11_move 113 = .ok (.aload_n 0, 1) := by decide +kernel
theorem dX11_move_114 : decode cX11_move 114 = .ok (.invokevirtual 404, 3) := by decide +kernel
theorem dX11_move_117 : decode cX11_move 117 = .ok (.iastore, 1) := by decide +kernel
theorem dX11_move_118 : decode cX11_move 118 = .ok (.aload_n 0, 1) := by decide +kernel
theorem dX11_move_119 : decode cX11_move 119 = .ok (.getfield 15, 3) := by decide +kernel
theorem dX11_move_122 : decode cX11_move 122 = .ok (.iconst 0, 1) := by decide +kernel
theorem dX11_move_123 : decode cX11_move 123 = .ok (.aaload, 1) := by decide +kernel
theorem dX11_move_124 : decode cX11_move 124 = .ok (.iload_n 1, 1) := by decide +kernel
theorem dX11_move_125 : decode cX11_move 125 = .ok (.iload_n 2, 1) := by decide +kernel
theorem dX11_move_126 : decode cX11_move 126 = .ok (.iastore, 1) := by decide +kernel
theorem dX11_move_127 : decode cX11_move 127 = .ok (.aload_n 0, 1) := by decide +kernel
theorem dX11_move_128 : decode cX11_move 128 = .ok (.getfield 18, 3) := by decide +kernel
theorem dX11_move_131 : decode cX11_move 131 = .ok (.iconst 0, 1) := by decide +kernel
theorem dX11_move_132 : decode cX11_move 132 = .ok (.aaload, 1) := by decide +kernel
theorem dX11_move_133 : decode cX11_move 133 = .ok (.iload_n 1, 1) := by decide +kernel
theorem dX11_move_134 : decode cX11_move 134 = .ok (.iload_n 3, 1) := by decide +kernel
theorem dX11_move_135 : decode cX11_move 135 = .ok (.iastore, 1) := by decide +kernel
theorem dX11_move_136 : decode cX11_move 136 = .ok (.aload 4, 2) := by decide +kernel
theorem dX11_move_138 : decode cX11_move 138 = .ok (.bipush 6, 2) := by decide +kernel
theorem dX11_move_140 : decode cX11_move 140 = .ok (.aload_n 0, 1) := by decide +kernel
theorem dX11_move_141 : decode cX11_move 141 = .ok (.invokevirtual 427, 3) := by decide +kernel
theorem dX11_move_144 : decode cX11_move 144 = .ok (.iastore, 1) := by decide +kernel
theorem dX11_move_145 : decode cX11_move 145 = .ok (.aload 4, 2) := by decide +kernel
theorem dX11_move_147 : decode cX11_move 147 = .ok (.bipush 8, 2) := by decide +kernel
theorem dX11_move_149 : decode cX11_move 149 = .ok (.aload_n 0, 1) := by decide +kernel
theorem dX11_move_150 : decode cX11_move 150 = .ok (.invokevirtual 404, 3) := by decide +kernel
theorem dX11_move_153 : decode cX11_move 153 = .ok (.iastore, 1) := by decide +kernel
theorem dX11_move_154 : decode cX11_move 154 = .ok (.aload_n 0, 1) := by decide +kernel
theorem dX11_move_155 : decode cX11_move 155 = .ok (.dup, 1) := by decide +kernel
theorem dX11_move_156 : decode cX11_move 156 = .ok (.getfield 231, 3) := by decide +kernel
theorem dX11_move_159 : decode cX11_move 159 = .ok (.iconst 1, 1) := by decide +kernel
theorem dX11_move_160 : decode cX11_move 160 = .ok (.iadd, 1) := by decide +kernel
theorem dX11_move_161 : decode cX11_move 161 = .ok (.putfield 231, 3) := by decide +kernel
theorem dX11_move_164 : decode cX11_move 164 = .ok (.aload_n 0, 1) := by decide +kernel
theorem dX11_move_165 : decode cX11_move 165 = .ok (.iconst 0, 1) := by decide +kernel
theorem dX11_move_166 : decode cX11_move 166 = .ok (.putfield 234, 3) := by decide +kernel
theorem dX11_move_169 : decode cX11_move 169 = .ok (.aload_n 0, 1) := by decide +kernel
theorem dX11_move_170 : decode cX11_move 170 = .ok (.getfield 231, 3) := by decide +kernel
theorem dX11_move_173 : decode cX11_move 173 = .ok (.ireturn, 1) := by decide +kernel
theorem dX11_undo_0 : decode cX11_undo 0 = .ok (.aload_n 0, 1) := by decide +kernel
theorem dX11_undo_1 : decode cX11_undo 1 = .ok (.getfield 231, 3) := by decide +kernel
theorem dX11_undo_4 : decode cX11_undo 4 = .ok (.ifCond .ne 5, 3) := by decide +kernel
theorem dX11_undo_7 : decode cX11_undo 7 = .ok (.iconst (-1), 1) := by decide +kernel
theorem dX11_undo_8 : decode cX11_undo 8 = .ok (.ireturn, 1) := by decide +kernel
theorem dX11_undo_9 : decode cX11_undo 9 = .ok (.aload_n 0, 1) := by decide +kernel
theorem dX11_undo_10 : decode cX11_undo 10 = .ok (.dup, 1) := by decide +kernel
theorem dX11_undo_11 : decode cX11_undo 11 = .ok (.getfield 231, 3) := by decide +kernel
theorem dX11_undo_14 : decode cX11_undo 14 = .ok (.iconst 1, 1) := by decide +kernel
theorem dX11_undo_15 : decode cX11_undo 15 = .ok (.isub, 1) := by decide +kernel
theorem dX11_undo_16 : decode cX11_undo 16 = .ok (.putfield 231, 3) := by decide +kernel
theorem dX11_undo_19 : decode cX11_undo 19 = .ok (.aload_n 0, 1) := by decide +kernel
theorem dX11_undo_20 : decode cX11_undo 20 = .ok (.getfield 111, 3) := by decide +kernel
theorem dX11_undo_23 : decode cX11_undo 23 = .ok (.aload_n 0, 1) := by decide +kernel
theorem dX11_undo_24 : decode cX11_undo 24 = .ok (.getfield 231, 3) := by decide +kernel
theorem dX11_undo_27 : decode cX11_undo 27 = .ok (.aaload, 1) := by decide +kernel
theorem dX11_undo_28 : decode cX11_undo 28 = .ok (.iconst 0, 1) := by decide +kernel
theorem dX11_undo_29 : decode cX11_undo 29 = .ok (.iaload, 1) := by decide +kernel
theorem dX11_undo_30 : decode cX11_undo 30 = .ok (.istore_n 1, 1) := by decide +kernel
theorem dX11_undo_31 : decode cX11_undo 31 = .ok (.aload_n 0, 1) := by decide +kernel
theorem dX11_undo_32 : decode cX11_undo 32 = .ok (.getfield 15, 3) := by decide +kernel
theorem dX11_undo_35 : decode cX11_undo 35 = .ok (.iconst 0, 1) := by decide +kernel
theorem dX11_undo_36 : decode cX11_undo 36 = .ok (.aaload, 1) := by decide +kernel
theorem dX11_undo_37 : decode cX11_undo 37 = .ok (.iload_n 1, 1) := by decide +kernel
theorem dX11_undo_38 : decode cX11_undo 38 = .ok (.aload_n 0, 1) := by decide +kernel
theorem dX11_undo_39 : decode cX11_undo 39 = .ok (.getfield 111, 3) := by decide +kernel
theorem dX11_undo_42 : decode cX11_undo 42 = .ok (.aload_n 0, 1) := by decide +kernel
theorem dX11_undo_43 : decode cX11_undo 43 = .ok (.getfield 231, 3) := by decide +kernel
theorem dX11_undo_46 : decode cX11_undo 46 = .ok (.aaload, 1) := by decide +kernel
theorem dX11_undo_47 : decode cX11_undo 47 = .ok (.iconst 1, 1) := by decide +kernel
theorem dX11_undo_48 : decode cX11_undo 48 = .ok (.iaload, 1) := by decide +kernel
theorem dX11_undo_49 : decode cX11_undo 49 = .ok (.iastore, 1) := by decide +kernel
theorem dX11_undo_50 : decode cX11_undo 50 = .ok (.aload_n 0, 1) := by decide +kernel
theorem dX11_undo_51 : decode cX11_undo 51 = .ok (.getfield 18, 3) := by decide +kernel
theorem dX11_undo_54 : decode cX11_undo 54 = .ok (.iconst 0, 1) := by decide +kernel
theorem dX11_undo_55 : decode cX11_undo 55 = .ok (.aaload, 1) := by decide +kernel
theorem dX11_undo_56 : decode cX11_undo 56 = .ok (.iload_n 1, 1) := by decide +kernel
theorem dX11_undo_57 : decode cX11_undo 57 = .ok (.aload_n 0, 1) := by decide +kernel
theorem dX11_undo_58 : decode cX11_undo 58 = .ok (.getfield 111, 3) := by decide +kernel
theorem dX11_undo_61 : decode cX11_undo 61 = .ok (.aload_n 0, 1) := by decide +kernel
theorem dX11_undo_62 : decode cX11_undo 62 = .ok (.getfield 231, 3) := by decide +kernel
theorem dX11_undo_65 : decode cX11_undo 65 = .ok (.aaload, 1) := by decide +kernel
theorem dX11_undo_66 : decode cX11_undo 66 = .ok (.iconst 2, 1) := by decide +kernel
theorem dX11_undo_67 : decode cX11_undo 67 = .ok (.iaload, 1) := by decide +kernel
theorem dX11_undo_68 : decode cX11_undo 68 = .ok (.iastore, 1) := by decide +kernel
theorem dX11_undo_69 : decode cX11_undo 69 = .ok (.aload_n 0, 1) := by decide +kernel
theorem dX11_undo_70 : decode cX11_undo 70 = .ok (.iconst 0, 1) := by decide +kernel
theorem dX11_undo_71 : decode cX11_undo 71 = .ok (.putfield 234, 3) := by decide +kernel
theorem dX11_undo_74 : decode cX11_undo 74 = .ok (.iload_n 1, 1) := by decide +kernel
theorem dX11_undo_75 : decode cX11_undo 75 = .ok (.ireturn, 1) := by decide +kernel
theorem dX11_moved_0 : decode cX11_moved 0 = .ok (.iload_n 1, 1) := by decide +kernel
theorem dX11_moved_1 : decode cX11_moved 1 = .ok (.i2l, 1) := by decide +kernel
theorem dX11_moved_2 : decode cX11_moved 2 = .ok (.lconst 0, 1) := by decide +kernel
theorem dX11_moved_3 : decode cX11_moved 3 = .ok (.aload_n 0, 1) := by decide +kernel
theorem dX11_moved_4 : decode cX11_moved 4 = .ok (.getfield 231, 3) := by decide +kernel
theorem dX11_moved_7 : decode cX11_moved 7 = .ok (.iconst 1, 1) := by decide +kernel
theorem dX11_moved_8 : decode cX11_moved 8 = .ok (.isub, 1) := by decide +kernel
theorem dX11_moved_9 : decode cX11_moved 9 = .ok (.i2l, 1) := by decide +kernel
theorem dX11_moved_10 : decode cX11_moved 10 = .ok (.invokestatic 122, 3) := by decide +kernel
theorem dX11_moved_13 : decode cX11_moved 13 = .ok (.ifCond .eq 26, 3) := by decide +kernel
theorem dX11_moved_16 : decode cX11_moved 16 = .ok (.iload_n 2, 1) := by decide +kernel
theorem dX11_moved_17 : decode cX11_moved 17 = .ok (.i2l, 1) := by decide +kernel
theorem dX11_moved_18 : decode cX11_moved 18 = .ok (.lconst 0, 1) := by decide +kernel
theorem dX11_moved_19 : decode cX11_moved 19 = .ok (.ldc2_w 430, 3) := by decide +kernel
theorem dX11_moved_22 : decode cX11_moved 22 = .ok (.invokestatic 122, 3) := by decide +kernel
theorem dX11_moved_25 : decode cX11_moved 25 = .ok (.ifCond .eq 14, 3) := by decide +kernel
theorem dX11_moved_28 : decode cX11_moved 28 = .ok (.aload_n 0, 1) := by decide +kernel
theorem dX11_moved_29 : decode cX11_moved 29 = .ok (.getfield 111, 3) := by decide +kernel
theorem dX11_moved_32 : decode cX11_moved 32 = .ok (.iload_n 1, 1) := by decide +kernel
theorem dX11_moved_33 : decode cX11_moved 33 = .ok (.aaload, 1) := by decide +kernel
theorem dX11_moved_34 : decode cX11_moved 34 = .ok (.iload_n 2, 1) := by decide +kernel
theorem dX11_moved_35 : decode cX11_moved 35 = .ok (.iaload, 1) := by decide +kernel
theorem dX11_moved_36 : decode cX11_moved 36 = .ok (.goto 4, 3) := by decide +kernel
theorem dX11_moved_39 : decode cX11_moved 39 = .ok (.iconst (-1), 1) := by decide +kernel
theorem dX11_moved_40 : decode cX11_moved 40 = .ok (.ireturn, 1) := by decide +kernel
theorem dX11_count_0 : decode cX11_count 0 = .ok (.iload_n 1, 1) := by decide +kernel
theorem dX11_count_1 : decode cX11_count 1 = .ok (.tableswitch 69 0 5 #[39, 44, 49, 54, 59, 64], 39) := by decide +kernel
theorem dX11_count_40 : decode cX11_count 40 = .ok (.aload_n 0, 1) := by decide +kernel
theorem dX11_count_41 : decode cX11_count 41 = .ok (.invokevirtual 237, 3) := by decide +kernel
theorem dX11_count_44 : decode cX11_count 44 = .ok (.ireturn, 1) := by decide +kernel
theorem dX11_count_45 : decode cX11_count 45 = .ok (.aload_n 0, 1) := by decide +kernel
theorem dX11_count_46 : decode cX11_count 46 = .ok (.invokevirtual 242, 3) := by decide +kernel
theorem dX11_count_49 : decode cX11_count 49 = .ok (.ireturn, 1) := by decide +kernel
theorem dX11_count_50 : decode cX11_count 50 = .ok (.aload_n 0, 1) := by decide +kernel
theorem dX11_count_51 : decode cX11_count 51 = .ok (.invokevirtual 266, 3) := by decide +kernel
theorem dX11_count_54 : decode cX11_count 54 = .ok (.ireturn, 1) := by decide +kernel
theorem dX11_count_55 : decode cX11_count 55 = .ok (.aload_n 0, 1) := by decide +kernel
theorem dX11_count_56 : decode cX11_count 56 = .ok (.getfield 231, 3) := by decide +kernel
theorem dX11_count_59 : decode cX11_count 59 = .ok (.ireturn, 1) := by decide +kernel
theorem dX11_count_60 : decode cX11_count 60 = .ok (.aload_n 0, 1) := by decide +kernel
theorem dX11_count_61 : decode cX11_count 61 = .ok (.getfield 114, 3) := by decide +kernel
theorem dX11_count_64 : decode cX11_count 64 = .ok (.ireturn, 1) := by decide +kernel
theorem dX11_count_65 : decode cX11_count 65 = .ok (.aload_n 0, 1) := by decide +kernel
theorem dX11_count_66 : decode cX11_count 66 = .ok (.invokevirtual 427, 3) := by decide +kernel
theorem dX11_count_69 : decode cX11_count 69 = .ok (.ireturn, 1) := by decide +kernel
theorem dX11_count_70 : decode cX11_count 70 = .ok (.iconst (-1), 1) := by decide +kernel
theorem dX11_count_71 : decode cX11_count 71 = .ok (.ireturn, 1) := by decide +kernel
