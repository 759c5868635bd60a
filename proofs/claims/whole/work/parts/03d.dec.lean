theorem dX5_beat_0 : decode cX5_beat 0 = .ok (.iload_n 0, 1) := by decide +kernel
theorem dX5_beat_1 : decode cX5_beat 1 = .ok (.iload_n 0, 1) := by decide +kernel
theorem dX5_beat_2 : decode cX5_beat 2 = .ok (.iload_n 1, 1) := by decide +kernel
theorem dX5_beat_3 : decode cX5_beat 3 = .ok (.imul, 1) := by decide +kernel
theorem dX5_beat_4 : decode cX5_beat 4 = .ok (.sipush 1000, 3) := by decide +kernel
theorem dX5_beat_7 : decode cX5_beat 7 = .ok (.invokestatic 241, 3) := by decide +kernel
theorem dX5_beat_10 : decode cX5_beat 10 = .ok (.iadd, 1) := by decide +kernel
theorem dX5_beat_11 : decode cX5_beat 11 = .ok (.istore_n 2, 1) := by decide +kernel
theorem dX5_beat_12 : decode cX5_beat 12 = .ok (.iconst 0, 1) := by decide +kernel
theorem dX5_beat_13 : decode cX5_beat 13 = .ok (.sipush 9999, 3) := by decide +kernel
theorem dX5_beat_16 : decode cX5_beat 16 = .ok (.iload_n 2, 1) := by decide +kernel
theorem dX5_beat_17 : decode cX5_beat 17 = .ok (.invokestatic 246, 3) := by decide +kernel
theorem dX5_beat_20 : decode cX5_beat 20 = .ok (.invokestatic 249, 3) := by decide +kernel
theorem dX5_beat_23 : decode cX5_beat 23 = .ok (.ireturn, 1) := by decide +kernel
theorem dX6_init_0 : decode cX6_init 0 = .ok (.aload_n 0, 1) := by decide +kernel
theorem dX6_init_1 : decode cX6_init 1 = .ok (.invokespecial 1, 3) := by decide +kernel
theorem dX6_init_4 : decode cX6_init 4 = .ok (.aload_n 0, 1) := by decide +kernel
theorem dX6_init_5 : decode cX6_init 5 = .ok (.iconst 1, 1) := by decide +kernel
theorem dX6_init_6 : decode cX6_init 6 = .ok (.putfield 7, 3) := by decide +kernel
theorem dX6_init_9 : decode cX6_init 9 = .ok (.aload_n 0, 1) := by decide +kernel
theorem dX6_init_10 : decode cX6_init 10 = .ok (.iconst 5, 1) := by decide +kernel
theorem dX6_init_11 : decode cX6_init 11 = .ok (.newarray .int, 2) := by decide +kernel
theorem dX6_init_13 : decode cX6_init 13 = .ok (.putfield 13, 3) := by decide +kernel
theorem dX6_init_16 : decode cX6_init 16 = .ok (.aload_n 0, 1) := by decide +kernel
theorem dX6_init_17 : decode cX6_init 17 = .ok (.bipush 6, 2) := by decide +kernel
theorem dX6_init_19 : decode cX6_init 19 = .ok (.newarray .int, 2) := by decide +kernel
theorem dX6_init_21 : decode cX6_init 21 = .ok (.putfield 17, 3) := by decide +kernel
theorem dX6_init_24 : decode cX6_init 24 = .ok (.aload_n 0, 1) := by decide +kernel
theorem dX6_init_25 : decode cX6_init 25 = .ok (.iconst 4, 1) := by decide +kernel
theorem dX6_init_26 : decode cX6_init 26 = .ok (.newarray .int, 2) := by decide +kernel
theorem dX6_init_28 : decode cX6_init 28 = .ok (.putfield 20, 3) := by decide +kernel
theorem dX6_init_31 : decode cX6_init 31 = .ok (.aload_n 0, 1) := by decide +kernel
theorem dX6_init_32 : decode cX6_init 32 = .ok (.iconst 4, 1) := by decide +kernel
theorem dX6_init_33 : decode cX6_init 33 = .ok (.newarray .int, 2) := by decide +kernel
theorem dX6_init_35 : decode cX6_init 35 = .ok (.putfield 23, 3) := by decide +kernel
theorem dX6_init_38 : decode cX6_init 38 = .ok (.aload_n 0, 1) := by decide +kernel
theorem dX6_init_39 : decode cX6_init 39 = .ok (.iconst 4, 1) := by decide +kernel
theorem dX6_init_40 : decode cX6_init 40 = .ok (.newarray .int, 2) := by decide +kernel
theorem dX6_init_42 : decode cX6_init 42 = .ok (.putfield 26, 3) := by decide +kernel
theorem dX6_init_45 : decode cX6_init 45 = .ok (.aload_n 0, 1) := by decide +kernel
theorem dX6_init_46 : decode cX6_init 46 = .ok (.iconst 4, 1) := by decide +kernel
theorem dX6_init_47 : decode cX6_init 47 = .ok (.newarray .int, 2) := by decide +kernel
theorem dX6_init_49 : decode cX6_init 49 = .ok (.putfield 29, 3) := by decide +kernel
theorem dX6_init_52 : decode cX6_init 52 = .ok (.aload_n 0, 1) := by decide +kernel
theorem dX6_init_53 : decode cX6_init 53 = .ok (.iconst 4, 1) := by decide +kernel
theorem dX6_init_54 : decode cX6_init 54 = .ok (.newarray .int, 2) := by decide +kernel
theorem dX6_init_56 : decode cX6_init 56 = .ok (.putfield 32, 3) := by decide +kernel
theorem dX6_init_59 : decode cX6_init 59 = .ok (.aload_n 0, 1) := by decide +kernel
theorem dX6_init_60 : decode cX6_init 60 = .ok (.iconst 4, 1) := by decide +kernel
theorem dX6_init_61 : decode cX6_init 61 = .ok (.newarray .int, 2) := by decide +kernel
theorem dX6_init_63 : decode cX6_init 63 = .ok (.putfield 35, 3) := by decide +kernel
theorem dX6_init_66 : decode cX6_init 66 = .ok (.aload_n 0, 1) := by decide +kernel
theorem dX6_init_67 : decode cX6_init 67 = .ok (.bipush 10, 2) := by decide +kernel
theorem dX6_init_69 : decode cX6_init 69 = .ok (.newarray .int, 2) := by decide +kernel
theorem dX6_init_71 : decode cX6_init 71 = .ok (.putfield 38, 3) := by decide +kernel
theorem dX6_init_74 : decode cX6_init 74 = .ok (.aload_n 0, 1) := by decide +kernel
theorem dX6_init_75 : decode cX6_init 75 = .ok (.bipush 10, 2) := by decide +kernel
theorem dX6_init_77 : decode cX6_init 77 = .ok (.newarray .int, 2) := by decide +kernel
theorem dX6_init_79 : decode cX6_init 79 = .ok (.putfield 41, 3) := by decide +kernel
theorem dX6_init_82 : decode cX6_init 82 = .ok (.aload_n 0, 1) := by decide +kernel
theorem dX6_init_83 : decode cX6_init 83 = .ok (.bipush 10, 2) := by decide +kernel
theorem dX6_init_85 : decode cX6_init 85 = .ok (.newarray .int, 2) := by decide +kernel
theorem dX6_init_87 : decode cX6_init 87 = .ok (.putfield 44, 3) := by decide +kernel
theorem dX6_init_90 : decode cX6_init 90 = .ok (.aload_n 0, 1) := by decide +kernel
theorem dX6_init_91 : decode cX6_init 91 = .ok (.bipush 10, 2) := by decide +kernel
theorem dX6_init_93 : decode cX6_init 93 = .ok (.newarray .boolean, 2) := by decide +kernel
theorem dX6_init_95 : decode cX6_init 95 = .ok (.putfield 47, 3) := by decide +kernel
theorem dX6_init_98 : decode cX6_init 98 = .ok (.aload_n 0, 1) := by decide +kernel
theorem dX6_init_99 : decode cX6_init 99 = .ok (.sipush 10000, 3) := by decide +kernel
theorem dX6_init_102 : decode cX6_init 102 = .ok (.newarray .int, 2) := by decide +kernel
theorem dX6_init_104 : decode cX6_init 104 = .ok (.putfield 51, 3) := by decide +kernel
theorem dX6_init_107 : decode cX6_init 107 = .ok (.aload_n 0, 1) := by decide +kernel
theorem dX6_init_108 : decode cX6_init 108 = .ok (.bipush 6, 2) := by decide +kernel
theorem dX6_init_110 : decode cX6_init 110 = .ok (.newarray .int, 2) := by decide +kernel
theorem dX6_init_112 : decode cX6_init 112 = .ok (.putfield 54, 3) := by decide +kernel
theorem dX6_init_115 : decode cX6_init 115 = .ok (.aload_n 0, 1) := by decide +kernel
theorem dX6_init_116 : decode cX6_init 116 = .ok (.bipush 60, 2) := by decide +kernel
theorem dX6_init_118 : decode cX6_init 118 = .ok (.newarray .int, 2) := by decide +kernel
theorem dX6_init_120 : decode cX6_init 120 = .ok (.putfield 57, 3) := by decide +kernel
theorem dX6_init_123 : decode cX6_init 123 = .ok (.aload_n 0, 1) := by decide +kernel
theorem dX6_init_124 : decode cX6_init 124 = .ok (.bipush 8, 2) := by decide +kernel
theorem dX6_init_126 : decode cX6_init 126 = .ok (.newarray .int, 2) := by decide +kernel
theorem dX6_init_128 : decode cX6_init 128 = .ok (.putfield 60, 3) := by decide +kernel
theorem dX6_init_131 : decode cX6_init 131 = .ok (.aload_n 0, 1) := by decide +kernel
theorem dX6_init_132 : decode cX6_init 132 = .ok (.bipush 60, 2) := by decide +kernel
theorem dX6_init_134 : decode cX6_init 134 = .ok (.newarray .int, 2) := by decide +kernel
theorem dX6_init_136 : decode cX6_init 136 = .ok (.putfield 63, 3) := by decide +kernel
theorem dX6_init_139 : decode cX6_init 139 = .ok (.aload_n 0, 1) := by decide +kernel
theorem dX6_init_140 : decode cX6_init 140 = .ok (.bipush 100, 2) := by decide +kernel
theorem dX6_init_142 : decode cX6_init 142 = .ok (.newarray .int, 2) := by decide +kernel
theorem dX6_init_144 : decode cX6_init 144 = .ok (.putfield 66, 3) := by decide +kernel
theorem dX6_init_147 : decode cX6_init 147 = .ok (.aload_n 0, 1) := by decide +kernel
theorem dX6_init_148 : decode cX6_init 148 = .ok (.sipush 2500, 3) := by decide +kernel
theorem dX6_init_151 : decode cX6_init 151 = .ok (.newarray .boolean, 2) := by decide +kernel
theorem dX6_init_153 : decode cX6_init 153 = .ok (.putfield 69, 3) := by decide +kernel
theorem dX6_init_156 : decode cX6_init 156 = .ok (.aload_n 0, 1) := by decide +kernel
theorem dX6_init_157 : decode cX6_init 157 = .ok (.sipush 10000, 3) := by decide +kernel
theorem dX6_init_160 : decode cX6_init 160 = .ok (.newarray .int, 2) := by decide +kernel
theorem dX6_init_162 : decode cX6_init 162 = .ok (.putfield 72, 3) := by decide +kernel
theorem dX6_init_165 : decode cX6_init 165 = .ok (.iconst 0, 1) := by decide +kernel
theorem dX6_init_166 : decode cX6_init 166 = .ok (.istore_n 1, 1) := by decide +kernel
theorem dX6_init_167 : decode cX6_init 167 = .ok (.iload_n 1, 1) := by decide +kernel
theorem dX6_init_168 : decode cX6_init 168 = .ok (.iconst 5, 1) := by decide +kernel
theorem dX6_init_169 : decode cX6_init 169 = .ok (.if_icmp .ge 16, 3) := by decide +kernel
theorem dX6_init_172 : decode cX6_init 172 = .ok (.aload_n 0, 1) := by decide +kernel
theorem dX6_init_173 : decode cX6_init 173 = .ok (.getfield 13, 3) := by decide +kernel
theorem dX6_init_176 : decode cX6_init 176 = .ok (.iload_n 1, 1) := by decide +kernel
theorem dX6_init_177 : decode cX6_init 177 = .ok (.iconst 1, 1) := by decide +kernel
theorem dX6_init_178 : decode cX6_init 178 = .ok (.iastore, 1) := by decide +kernel
theorem dX6_init_179 : decode cX6_init 179 = .ok (.iinc 1 1, 3) := by decide +kernel
theorem dX6_init_182 : decode cX6_init 182 = .ok (.goto (-15), 3) := by decide +kernel
theorem dX6_init_185 : decode cX6_init 185 = .ok (.iconst 0, 1) := by decide +kernel
theorem dX6_init_186 : decode cX6_init 186 = .ok (.istore_n 1, 1) := by decide +kernel
theorem dX6_init_187 : decode cX6_init 187 = .ok (.iload_n 1, 1) := by decide +kernel
theorem dX6_init_188 : decode cX6_init 188 = .ok (.bipush 6, 2) := by decide +kernel
theorem dX6_init_190 : decode cX6_init 190 = .ok (.if_icmp .ge 16, 3) := by decide +kernel
theorem dX6_init_193 : decode cX6_init 193 = .ok (.aload_n 0, 1) := by decide +kernel
theorem dX6_init_194 : decode cX6_init 194 = .ok (.getfield 17, 3) := by decide +kernel
theorem dX6_init_197 : decode cX6_init 197 = .ok (.iload_n 1, 1) := by decide +kernel
theorem dX6_init_198 : decode cX6_init 198 = .ok (.iconst 1, 1) := by decide +kernel
theorem dX6_init_199 : decode cX6_init 199 = .ok (.iastore, 1) := by decide +kernel
theorem dX6_init_200 : decode cX6_init 200 = .ok (.iinc 1 1, 3) := by decide +kernel
theorem dX6_init_203 : decode cX6_init 203 = .ok (.goto (-16), 3) := by decide +kernel
theorem dX6_init_206 : decode cX6_init 206 = .ok (.iconst 0, 1) := by decide +kernel
theorem dX6_init_207 : decode cX6_init 207 = .ok (.istore_n 1, 1) := by decide +kernel
theorem dX6_init_208 : decode cX6_init 208 = .ok (.iload_n 1, 1) := by decide +kernel
theorem dX6_init_209 : decode cX6_init 209 = .ok (.iconst 4, 1) := by decide +kernel
theorem dX6_init_210 : decode cX6_init 210 = .ok (.if_icmp .ge 18, 3) := by decide +kernel
theorem dX6_init_213 : decode cX6_init 213 = .ok (.aload_n 0, 1) := by decide +kernel
theorem dX6_init_214 : decode cX6_init 214 = .ok (.getfield 26, 3) := by decide +kernel
theorem dX6_init_217 : decode cX6_init 217 = .ok (.iload_n 1, 1) := by decide +kernel
theorem dX6_init_218 : decode cX6_init 218 = .ok (.sipush 9999, 3) := by decide +kernel
theorem dX6_init_221 : decode cX6_init 221 = .ok (.iastore, 1) := by decide +kernel
theorem dX6_init_222 : decode cX6_init 222 = .ok (.iinc 1 1, 3) := by decide +kernel
theorem dX6_init_225 : decode cX6_init 225 = .ok (.goto (-17), 3) := by decide +kernel
theorem dX6_init_228 : decode cX6_init 228 = .ok (.aload_n 0, 1) := by decide +kernel
theorem dX6_init_229 : decode cX6_init 229 = .ok (.getfield 35, 3) := by decide +kernel
theorem dX6_init_232 : decode cX6_init 232 = .ok (.iconst 0, 1) := by decide +kernel
theorem dX6_init_233 : decode cX6_init 233 = .ok (.bipush 10, 2) := by decide +kernel
theorem dX6_init_235 : decode cX6_init 235 = .ok (.iastore, 1) := by decide +kernel
theorem dX6_init_236 : decode cX6_init 236 = .ok (.aload_n 0, 1) := by decide +kernel
theorem dX6_init_237 : decode cX6_init 237 = .ok (.getfield 35, 3) := by decide +kernel
theorem dX6_init_240 : decode cX6_init 240 = .ok (.iconst 1, 1) := by decide +kernel
theorem dX6_init_241 : decode cX6_init 241 = .ok (.bipush 10, 2) := by decide +kernel
theorem dX6_init_243 : decode cX6_init 243 = .ok (.iastore, 1) := by decide +kernel
theorem dX6_init_244 : decode cX6_init 244 = .ok (.aload_n 0, 1) := by decide +kernel
theorem dX6_init_245 : decode cX6_init 245 = .ok (.getfield 35, 3) := by decide +kernel
theorem dX6_init_248 : decode cX6_init 248 = .ok (.iconst 2, 1) := by decide +kernel
theorem dX6_init_249 : decode cX6_init 249 = .ok (.bipush 100, 2) := by decide +kernel
theorem dX6_init_251 : decode cX6_init 251 = .ok (.iastore, 1) := by decide +kernel
theorem dX6_init_252 : decode cX6_init 252 = .ok (.aload_n 0, 1) := by decide +kernel
theorem dX6_init_253 : decode cX6_init 253 = .ok (.getfield 35, 3) := by decide +kernel
theorem dX6_init_256 : decode cX6_init 256 = .ok (.iconst 3, 1) := by decide +kernel
theorem dX6_init_257 : decode cX6_init 257 = .ok (.bipush 100, 2) := by decide +kernel
theorem dX6_init_259 : decode cX6_init 259 = .ok (.iastore, 1) := by decide +kernel
theorem dX6_init_260 : decode cX6_init 260 = .ok (.aload_n 0, 1) := by decide +kernel
theorem dX6_init_261 : decode cX6_init 261 = .ok (.getfield 54, 3) := by decide +kernel
theorem dX6_init_264 : decode cX6_init 264 = .ok (.iconst 0, 1) := by decide +kernel
theorem dX6_init_265 : decode cX6_init 265 = .ok (.iconst 4, 1) := by decide +kernel
theorem dX6_init_266 : decode cX6_init 266 = .ok (.iastore, 1) := by decide +kernel
theorem dX6_init_267 : decode cX6_init 267 = .ok (.aload_n 0, 1) := by decide +kernel
theorem dX6_init_268 : decode cX6_init 268 = .ok (.getfield 54, 3) := by decide +kernel
theorem dX6_init_271 : decode cX6_init 271 = .ok (.iconst 1, 1) := by decide +kernel
theorem dX6_init_272 : decode cX6_init 272 = .ok (.bipush 20, 2) := by decide +kernel
theorem dX6_init_274 : decode cX6_init 274 = .ok (.iastore, 1) := by decide +kernel
theorem dX6_init_275 : decode cX6_init 275 = .ok (.aload_n 0, 1) := by decide +kernel
theorem dX6_init_276 : decode cX6_init 276 = .ok (.getfield 54, 3) := by decide +kernel
theorem dX6_init_279 : decode cX6_init 279 = .ok (.iconst 2, 1) := by decide +kernel
theorem dX6_init_280 : decode cX6_init 280 = .ok (.bipush 10, 2) := by decide +kernel
theorem dX6_init_282 : decode cX6_init 282 = .ok (.iastore, 1) := by decide +kernel
theorem dX6_init_283 : decode cX6_init 283 = .ok (.aload_n 0, 1) := by decide +kernel
theorem dX6_init_284 : decode cX6_init 284 = .ok (.getfield 54, 3) := by decide +kernel
theorem dX6_init_287 : decode cX6_init 287 = .ok (.iconst 3, 1) := by decide +kernel
theorem dX6_init_288 : decode cX6_init 288 = .ok (.bipush 10, 2) := by decide +kernel
theorem dX6_init_290 : decode cX6_init 290 = .ok (.iastore, 1) := by decide +kernel
theorem dX6_init_291 : decode cX6_init 291 = .ok (.aload_n 0, 1) := by decide +kernel
theorem dX6_init_292 : decode cX6_init 292 = .ok (.getfield 54, 3) := by decide +kernel
theorem dX6_init_295 : decode cX6_init 295 = .ok (.iconst 4, 1) := by decide +kernel
theorem dX6_init_296 : decode cX6_init 296 = .ok (.sipush 999, 3) := by decide +kernel
theorem dX6_init_299 : decode cX6_init 299 = .ok (.iastore, 1) := by decide +kernel
theorem dX6_init_300 : decode cX6_init 300 = .ok (.aload_n 0, 1) := by decide +kernel
theorem dX6_init_301 : decode cX6_init 301 = .ok (.getfield 54, 3) := by decide +kernel
theorem dX6_init_304 : decode cX6_init 304 = .ok (.iconst 5, 1) := by decide +kernel
theorem dX6_init_305 : decode cX6_init 305 = .ok (.iconst 1, 1) := by decide +kernel
theorem dX6_init_306 : decode cX6_init 306 = .ok (.iastore, 1) := by decide +kernel
theorem dX6_init_307 : decode cX6_init 307 = .ok (.return_, 1) := by decide +kernel
theorem dX6_in_0 : decode cX6_in 0 = .ok (.lload_n 0, 1) := by decide +kernel
theorem dX6_in_1 : decode cX6_in 1 = .ok (.lload_n 2, 1) := by decide +kernel
theorem dX6_in_2 : decode cX6_in 2 = .ok (.lcmp, 1) := by decide +kernel
theorem dX6_in_3 : decode cX6_in 3 = .ok (.ifCond .lt 14, 3) := by decide +kernel
theorem dX6_in_6 : decode cX6_in 6 = .ok (.lload_n 0, 1) := by decide +kernel
theorem dX6_in_7 : decode cX6_in 7 = .ok (.lload 4, 2) := by decide +kernel
theorem dX6_in_9 : decode cX6_in 9 = .ok (.lcmp, 1) := by decide +kernel
theorem dX6_in_10 : decode cX6_in 10 = .ok (.ifCond .gt 7, 3) := by decide +kernel
theorem dX6_in_13 : decode cX6_in 13 = .ok (.iconst 1, 1) := by decide +kernel
theorem dX6_in_14 : decode cX6_in 14 = .ok (.goto 4, 3) := by decide +kernel
theorem dX6_in_17 : decode cX6_in 17 = .ok (.iconst 0, 1) := by decide +kernel
theorem dX6_in_18 : decode cX6_in 18 = .ok (.ireturn, 1) := by decide +kernel
theorem dX6_lesser_0 : decode cX6_lesser 0 = .ok (.iload_n 0, 1) := by decide +kernel
theorem dX6_lesser_1 : decode cX6_lesser 1 = .ok (.iload_n 1, 1) := by decide +kernel
theorem dX6_lesser_2 : decode cX6_lesser 2 = .ok (.if_icmp .ge 7, 3) := by decide +kernel
theorem dX6_lesser_5 : decode cX6_lesser 5 = .ok (.iload_n 0, 1) := by decide +kernel
theorem dX6_lesser_6 : decode cX6_lesser 6 = .ok (.goto 4, 3) := by decide +kernel
theorem dX6_lesser_9 : decode cX6_lesser 9 = .ok (.iload_n 1, 1) := by decide +kernel
theorem dX6_lesser_10 : decode cX6_lesser 10 = .ok (.ireturn, 1) := by decide +kernel
theorem dX6_span_0 : decode cX6_span 0 = .ok (.aload_n 0, 1) := by decide +kernel
theorem dX6_span_1 : decode cX6_span 1 = .ok (.iconst 0, 1) := by decide +kernel
theorem dX6_span_2 : decode cX6_span 2 = .ok (.putfield 75, 3) := by decide +kernel
theorem dX6_span_5 : decode cX6_span 5 = .ok (.iload_n 1, 1) := by decide +kernel
theorem dX6_span_6 : decode cX6_span 6 = .ok (.i2l, 1) := by decide +kernel
theorem dX6_span_7 : decode cX6_span 7 = .ok (.lconst 1, 1) := by decide +kernel
theorem dX6_span_8 : decode cX6_span 8 = .ok (.ldc2_w 78, 3) := by decide +kernel
theorem dX6_span_11 : decode cX6_span 11 = .ok (.invokestatic 80, 3) := by decide +kernel
theorem dX6_span_14 : decode cX6_span 14 = .ok (.ifCond .ne 6, 3) := by decide +kernel
theorem dX6_span_17 : decode cX6_span 17 = .ok (.bipush (-2), 2) := by decide +kernel
theorem dX6_span_19 : decode cX6_span 19 = .ok (.ireturn, 1) := by decide +kernel
theorem dX6_span_20 : decode cX6_span 20 = .ok (.aload_n 0, 1) := by decide +kernel
theorem dX6_span_21 : decode cX6_span 21 = .ok (.getfield 7, 3) := by decide +kernel
theorem dX6_span_24 : decode cX6_span 24 = .ok (.istore_n 2, 1) := by decide +kernel
theorem dX6_span_25 : decode cX6_span 25 = .ok (.aload_n 0, 1) := by decide +kernel
theorem dX6_span_26 : decode cX6_span 26 = .ok (.iload_n 1, 1) := by decide +kernel
theorem dX6_span_27 : decode cX6_span 27 = .ok (.putfield 7, 3) := by decide +kernel
theorem dX6_span_30 : decode cX6_span 30 = .ok (.iconst 0, 1) := by decide +kernel
theorem dX6_span_31 : decode cX6_span 31 = .ok (.istore_n 3, 1) := by decide +kernel
theorem dX6_span_32 : decode cX6_span 32 = .ok (.iload_n 3, 1) := by decide +kernel
theorem dX6_span_33 : decode cX6_span 33 = .ok (.iconst 5, 1) := by decide +kernel
theorem dX6_span_34 : decode cX6_span 34 = .ok (.if_icmp .ge 16, 3) := by decide +kernel
theorem dX6_span_37 : decode cX6_span 37 = .ok (.aload_n 0, 1) := by decide +kernel
theorem dX6_span_38 : decode cX6_span 38 = .ok (.getfield 13, 3) := by decide +kernel
theorem dX6_span_41 : decode cX6_span 41 = .ok (.iload_n 3, 1) := by decide +kernel
theorem dX6_span_42 : decode cX6_span 42 = .ok (.iconst 1, 1) := by decide +kernel
theorem dX6_span_43 : decode cX6_span 43 = .ok (.iastore, 1) := by decide +kernel
theorem dX6_span_44 : decode cX6_span 44 = .ok (.iinc 3 1, 3) := by decide +kernel
theorem dX6_span_47 : decode cX6_span 47 = .ok (.goto (-15), 3) := by decide +kernel
theorem dX6_span_50 : decode cX6_span 50 = .ok (.iconst 0, 1) := by decide +kernel
theorem dX6_span_51 : decode cX6_span 51 = .ok (.istore_n 3, 1) := by decide +kernel
theorem dX6_span_52 : decode cX6_span 52 = .ok (.iload_n 3, 1) := by decide +kernel
theorem dX6_span_53 : decode cX6_span 53 = .ok (.bipush 6, 2) := by decide +kernel
theorem dX6_span_55 : decode cX6_span 55 = .ok (.if_icmp .ge 16, 3) := by decide +kernel
theorem dX6_span_58 : decode cX6_span 58 = .ok (.aload_n 0, 1) := by decide +kernel
theorem dX6_span_59 : decode cX6_span 59 = .ok (.getfield 17, 3) := by decide +kernel
theorem dX6_span_62 : decode cX6_span 62 = .ok (.iload_n 3, 1) := by decide +kernel
theorem dX6_span_63 : decode cX6_span 63 = .ok (.iconst 1, 1) := by decide +kernel
theorem dX6_span_64 : decode cX6_span 64 = .ok (.iastore, 1) := by decide +kernel
theorem dX6_span_65 : decode cX6_span 65 = .ok (.iinc 3 1, 3) := by decide +kernel
theorem dX6_span_68 : decode cX6_span 68 = .ok (.goto (-16), 3) := by decide +kernel
theorem dX6_span_71 : decode cX6_span 71 = .ok (.iload_n 2, 1) := by decide +kernel
theorem dX6_span_72 : decode cX6_span 72 = .ok (.ireturn, 1) := by decide +kernel
theorem dX6_weight_0 : decode cX6_weight 0 = .ok (.aload_n 0, 1) := by decide +kernel
theorem dX6_weight_1 : decode cX6_weight 1 = .ok (.iconst 0, 1) := by decide +kernel
theorem dX6_weight_2 : decode cX6_weight 2 = .ok (.putfield 75, 3) := by decide +kernel
theorem dX6_weight_5 : decode cX6_weight 5 = .ok (.iload_n 1, 1) := by decide +kernel
theorem dX6_weight_6 : decode cX6_weight 6 = .ok (.i2l, 1) := by decide +kernel
theorem dX6_weight_7 : decode cX6_weight 7 = .ok (.lconst 0, 1) := by decide +kernel
theorem dX6_weight_8 : decode cX6_weight 8 = .ok (.aload_n 0, 1) := by decide +kernel
theorem dX6_weight_9 : decode cX6_weight 9 = .ok (.getfield 7, 3) := by decide +kernel
theorem dX6_weight_12 : decode cX6_weight 12 = .ok (.iconst 1, 1) := by decide +kernel
theorem dX6_weight_13 : decode cX6_weight 13 = .ok (.isub, 1) := by decide +kernel
theorem dX6_weight_14 : decode cX6_weight 14 = .ok (.i2l, 1) := by decide +kernel
theorem dX6_weight_15 : decode cX6_weight 15 = .ok (.invokestatic 80, 3) := by decide +kernel
theorem dX6_weight_18 : decode cX6_weight 18 = .ok (.ifCond .ne 5, 3) := by decide +kernel
theorem dX6_weight_21 : decode cX6_weight 21 = .ok (.iconst (-1), 1) := by decide +kernel
theorem dX6_weight_22 : decode cX6_weight 22 = .ok (.ireturn, 1) := by decide +kernel
theorem dX6_weight_23 : decode cX6_weight 23 = .ok (.iload_n 2, 1) := by decide +kernel
theorem dX6_weight_24 : decode cX6_weight 24 = .ok (.i2l, 1) := by decide +kernel
theorem dX6_weight_25 : decode cX6_weight 25 = .ok (.lconst 1, 1) := by decide +kernel
theorem dX6_weight_26 : decode cX6_weight 26 = .ok (.ldc2_w 84, 3) := by decide +kernel
theorem dX6_weight_29 : decode cX6_weight 29 = .ok (.invokestatic 80, 3) := by decide +kernel
theorem dX6_weight_32 : decode cX6_weight 32 = .ok (.ifCond .ne 6, 3) := by decide +kernel
theorem dX6_weight_35 : decode cX6_weight 35 = .ok (.bipush (-2), 2) := by decide +kernel
theorem dX6_weight_37 : decode cX6_weight 37 = .ok (.ireturn, 1) := by decide +kernel
theorem dX6_weight_38 : decode cX6_weight 38 = .ok (.aload_n 0, 1) := by decide +kernel
theorem dX6_weight_39 : decode cX6_weight 39 = .ok (.getfield 13, 3) := by decide +kernel
theorem dX6_weight_42 : decode cX6_weight 42 = .ok (.iload_n 1, 1) := by decide +kernel
theorem dX6_weight_43 : decode cX6_weight 43 = .ok (.iaload, 1) := by decide +kernel
theorem dX6_weight_44 : decode cX6_weight 44 = .ok (.istore_n 3, 1) := by decide +kernel
theorem dX6_weight_45 : decode cX6_weight 45 = .ok (.aload_n 0, 1) := by decide +kernel
theorem dX6_weight_46 : decode cX6_weight 46 = .ok (.getfield 13, 3) := by decide +kernel
theorem dX6_weight_49 : decode cX6_weight 49 = .ok (.iload_n 1, 1) := by decide +kernel
theorem dX6_weight_50 : decode cX6_weight 50 = .ok (.iload_n 2, 1) := by decide +kernel
theorem dX6_weight_51 : decode cX6_weight 51 = .ok (.iastore, 1) := by decide +kernel
theorem dX6_weight_52 : decode cX6_weight 52 = .ok (.iload_n 3, 1) := by decide +kernel
theorem dX6_weight_53 : decode cX6_weight 53 = .ok (.ireturn, 1) := by decide +kernel
theorem dX6_spring_0 : decode cX6_spring 0 = .ok (.aload_n 0, 1) := by decide +kernel
theorem dX6_spring_1 : decode cX6_spring 1 = .ok (.iconst 0, 1) := by decide +kernel
theorem dX6_spring_2 : decode cX6_spring 2 = .ok (.putfield 75, 3) := by decide +kernel
theorem dX6_spring_5 : decode cX6_spring 5 = .ok (.iload_n 1, 1) := by decide +kernel
theorem dX6_spring_6 : decode cX6_spring 6 = .ok (.i2l, 1) := by decide +kernel
theorem dX6_spring_7 : decode cX6_spring 7 = .ok (.lconst 0, 1) := by decide +kernel
theorem dX6_spring_8 : decode cX6_spring 8 = .ok (.aload_n 0, 1) := by decide +kernel
theorem dX6_spring_9 : decode cX6_spring 9 = .ok (.getfield 7, 3) := by decide +kernel
theorem dX6_spring_12 : decode cX6_spring 12 = .ok (.i2l, 1) := by decide +kernel
theorem dX6_spring_13 : decode cX6_spring 13 = .ok (.invokestatic 80, 3) := by decide +kernel
theorem dX6_spring_16 : decode cX6_spring 16 = .ok (.ifCond .ne 5, 3) := by decide +kernel
theorem dX6_spring_19 : decode cX6_spring 19 = .ok (.iconst (-1), 1) := by decide +kernel
theorem dX6_spring_20 : decode cX6_spring 20 = .ok (.ireturn, 1) := by decide +kernel
theorem dX6_spring_21 : decode cX6_spring 21 = .ok (.iload_n 2, 1) := by decide +kernel
theorem dX6_spring_22 : decode cX6_spring 22 = .ok (.i2l, 1) := by decide +kernel
theorem dX6_spring_23 : decode cX6_spring 23 = .ok (.iload_n 1, 1) := by decide +kernel
theorem dX6_spring_24 : decode cX6_spring 24 = .ok (.ifCond .eq 11, 3) := by decide +kernel
theorem dX6_spring_27 : decode cX6_spring 27 = .ok (.iload_n 1, 1) := by decide +kernel
theorem dX6_spring_28 : decode cX6_spring 28 = .ok (.aload_n 0, 1) := by decide +kernel
theorem dX6_spring_29 : decode cX6_spring 29 = .ok (.getfield 7, 3) := by decide +kernel
theorem dX6_spring_32 : decode cX6_spring 32 = .ok (.if_icmp .ne 7, 3) := by decide +kernel
theorem dX6_spring_35 : decode cX6_spring 35 = .ok (.lconst 0, 1) := by decide +kernel
theorem dX6_spring_36 : decode cX6_spring 36 = .ok (.goto 4, 3) := by decide +kernel
theorem dX6_spring_39 : decode cX6_spring 39 = .ok (.lconst 1, 1) := by decide +kernel
theorem dX6_spring_40 : decode cX6_spring 40 = .ok (.ldc2_w 86, 3) := by decide +kernel
theorem dX6_spring_43 : decode cX6_spring 43 = .ok (.invokestatic 80, 3) := by decide +kernel
theorem dX6_spring_46 : decode cX6_spring 46 = .ok (.ifCond .ne 6, 3) := by decide +kernel
theorem dX6_spring_49 : decode cX6_spring 49 = .ok (.bipush (-2), 2) := by decide +kernel
theorem dX6_spring_51 : decode cX6_spring 51 = .ok (.ireturn, 1) := by decide +kernel
theorem dX6_spring_52 : decode cX6_spring 52 = .ok (.aload_n 0, 1) := by decide +kernel
theorem dX6_spring_53 : decode cX6_spring 53 = .ok (.getfield 17, 3) := by decide +kernel
theorem dX6_spring_56 : decode cX6_spring 56 = .ok (.iload_n 1, 1) := by decide +kernel
theorem dX6_spring_57 : decode cX6_spring 57 = .ok (.iaload, 1) := by decide +kernel
theorem dX6_spring_58 : decode cX6_spring 58 = .ok (.istore_n 3, 1) := by decide +kernel
theorem dX6_spring_59 : decode cX6_spring 59 = .ok (.aload_n 0, 1) := by decide +kernel
theorem dX6_spring_60 : decode cX6_spring 60 = .ok (.getfield 17, 3) := by decide +kernel
theorem dX6_spring_63 : decode cX6_spring 63 = .ok (.iload_n 1, 1) := by decide +kernel
theorem dX6_spring_64 : decode cX6_spring 64 = .ok (.iload_n 2, 1) := by decide +kernel
theorem dX6_spring_65 : decode cX6_spring 65 = .ok (.iastore, 1) := by decide +kernel
theorem dX6_spring_66 : decode cX6_spring 66 = .ok (.iload_n 3, 1) := by decide +kernel
theorem dX6_spring_67 : decode cX6_spring 67 = .ok (.ireturn, 1) := by decide +kernel
theorem dX6_row_0 : decode cX6_row 0 = .ok (.lconst 0, 1) := by decide +kernel
theorem dX6_row_1 : decode cX6_row 1 = .ok (.lstore_n 3, 1) := by decide +kernel
theorem dX6_row_2 : decode cX6_row 2 = .ok (.lconst 1, 1) := by decide +kernel
theorem dX6_row_3 : decode cX6_row 3 = .ok (.lstore 5, 2) := by decide +kernel
theorem dX6_row_5 : decode cX6_row 5 = .ok (.lconst 0, 1) := by decide +kernel
theorem dX6_row_6 : decode cX6_row 6 = .ok (.lstore 7, 2) := by decide +kernel
theorem dX6_row_8 : decode cX6_row 8 = .ok (.lconst 1, 1) := by decide +kernel
theorem dX6_row_9 : decode cX6_row 9 = .ok (.lstore 9, 2) := by decide +kernel
theorem dX6_row_11 : decode cX6_row 11 = .ok (.iconst 0, 1) := by decide +kernel
theorem dX6_row_12 : decode cX6_row 12 = .ok (.istore 11, 2) := by decide +kernel
theorem dX6_row_14 : decode cX6_row 14 = .ok (.iload 11, 2) := by decide +kernel
theorem dX6_row_16 : decode cX6_row 16 = .ok (.aload_n 0, 1) := by decide +kernel
theorem dX6_row_17 : decode cX6_row 17 = .ok (.getfield 7, 3) := by decide +kernel
theorem dX6_row_20 : decode cX6_row 20 = .ok (.if_icmp .ge 128, 3) := by decide +kernel
theorem dX6_row_23 : decode cX6_row 23 = .ok (.iload 11, 2) := by decide +kernel
theorem dX6_row_25 : decode cX6_row 25 = .ok (.ifCond .ne 7, 3) := by decide +kernel
theorem dX6_row_28 : decode cX6_row 28 = .ok (.lconst 0, 1) := by decide +kernel
theorem dX6_row_29 : decode cX6_row 29 = .ok (.goto 11, 3) := by decide +kernel
theorem dX6_row_32 : decode cX6_row 32 = .ok (.aload_n 0, 1) := by decide +kernel
theorem dX6_row_33 : decode cX6_row 33 = .ok (.getfield 17, 3) := by decide +kernel
theorem dX6_row_36 : decode cX6_row 36 = .ok (.iload 11, 2) := by decide +kernel
theorem dX6_row_38 : decode cX6_row 38 = .ok (.iaload, 1) := by decide +kernel
theorem dX6_row_39 : decode cX6_row 39 = .ok (.i2l, 1) := by decide +kernel
theorem dX6_row_40 : decode cX6_row 40 = .ok (.lstore 12, 2) := by decide +kernel
theorem dX6_row_42 : decode cX6_row 42 = .ok (.aload_n 0, 1) := by decide +kernel
theorem dX6_row_43 : decode cX6_row 43 = .ok (.getfield 17, 3) := by decide +kernel
theorem dX6_row_46 : decode cX6_row 46 = .ok (.iload 11, 2) := by decide +kernel
theorem dX6_row_48 : decode cX6_row 48 = .ok (.iaload, 1) := by decide +kernel
theorem dX6_row_49 : decode cX6_row 49 = .ok (.aload_n 0, 1) := by decide +kernel
theorem dX6_row_50 : decode cX6_row 50 = .ok (.getfield 17, 3) := by decide +kernel
theorem dX6_row_53 : decode cX6_row 53 = .ok (.iload 11, 2) := by decide +kernel
theorem dX6_row_55 : decode cX6_row 55 = .ok (.iconst 1, 1) := by decide +kernel
theorem dX6_row_56 : decode cX6_row 56 = .ok (.iadd, 1) := by decide +kernel
theorem dX6_row_57 : decode cX6_row 57 = .ok (.iaload, 1) := by decide +kernel
theorem dX6_row_58 : decode cX6_row 58 = .ok (.iadd, 1) := by decide +kernel
theorem dX6_row_59 : decode cX6_row 59 = .ok (.i2l, 1) := by decide +kernel
theorem dX6_row_60 : decode cX6_row 60 = .ok (.iload_n 1, 1) := by decide +kernel
theorem dX6_row_61 : decode cX6_row 61 = .ok (.i2l, 1) := by decide +kernel
theorem dX6_row_62 : decode cX6_row 62 = .ok (.aload_n 0, 1) := by decide +kernel
theorem dX6_row_63 : decode cX6_row 63 = .ok (.getfield 13, 3) := by decide +kernel
theorem dX6_row_66 : decode cX6_row 66 = .ok (.iload 11, 2) := by decide +kernel
theorem dX6_row_68 : decode cX6_row 68 = .ok (.iaload, 1) := by decide +kernel
theorem dX6_row_69 : decode cX6_row 69 = .ok (.i2l, 1) := by decide +kernel
theorem dX6_row_70 : decode cX6_row 70 = .ok (.lmul, 1) := by decide +kernel
theorem dX6_row_71 : decode cX6_row 71 = .ok (.lsub, 1) := by decide +kernel
theorem dX6_row_72 : decode cX6_row 72 = .ok (.lload 5, 2) := by decide +kernel
theorem dX6_row_74 : decode cX6_row 74 = .ok (.lmul, 1) := by decide +kernel
theorem dX6_row_75 : decode cX6_row 75 = .ok (.lload 12, 2) := by decide +kernel
theorem dX6_row_77 : decode cX6_row 77 = .ok (.lload 12, 2) := by decide +kernel
theorem dX6_row_79 : decode cX6_row 79 = .ok (.lmul, 1) := by decide +kernel
theorem dX6_row_80 : decode cX6_row 80 = .ok (.lload_n 3, 1) := by decide +kernel
theorem dX6_row_81 : decode cX6_row 81 = .ok (.lmul, 1) := by decide +kernel
theorem dX6_row_82 : decode cX6_row 82 = .ok (.lsub, 1) := by decide +kernel
theorem dX6_row_83 : decode cX6_row 83 = .ok (.lstore 14, 2) := by decide +kernel
theorem dX6_row_85 : decode cX6_row 85 = .ok (.lload 5, 2) := by decide +kernel
theorem dX6_row_87 : decode cX6_row 87 = .ok (.lstore_n 3, 1) := by decide +kernel
theorem dX6_row_88 : decode cX6_row 88 = .ok (.lload 14, 2) := by decide +kernel
theorem dX6_row_90 : decode cX6_row 90 = .ok (.lstore 5, 2) := by decide +kernel
theorem dX6_row_92 : decode cX6_row 92 = .ok (.lload 5, 2) := by decide +kernel
theorem dX6_row_94 : decode cX6_row 94 = .ok (.lconst 0, 1) := by decide +kernel
theorem dX6_row_95 : decode cX6_row 95 = .ok (.lcmp, 1) := by decide +kernel
theorem dX6_row_96 : decode cX6_row 96 = .ok (.ifCond .le 7, 3) := by decide +kernel
theorem dX6_row_99 : decode cX6_row 99 = .ok (.lconst 1, 1) := by decide +kernel
theorem dX6_row_100 : decode cX6_row 100 = .ok (.goto 18, 3) := by decide +kernel
theorem dX6_row_103 : decode cX6_row 103 = .ok (.lload 5, 2) := by decide +kernel
theorem dX6_row_105 : decode cX6_row 105 = .ok (.lconst 0, 1) := by decide +kernel
theorem dX6_row_106 : decode cX6_row 106 = .ok (.lcmp, 1) := by decide +kernel
theorem dX6_row_107 : decode cX6_row 107 = .ok (.ifCond .ge 9, 3) := by decide +kernel
theorem dX6_row_110 : decode cX6_row 110 = .ok (.ldc2_w 88, 3) := by decide +kernel
theorem dX6_row_113 : decode cX6_row 113 = .ok (.goto 5, 3) := by decide +kernel
theorem dX6_row_116 : decode cX6_row 116 = .ok (.lload 9, 2) := by decide +kernel
theorem dX6_row_118 : decode cX6_row 118 = .ok (.lstore 16, 2) := by decide +kernel
theorem dX6_row_120 : decode cX6_row 120 = .ok (.lload 7, 2) := by decide +kernel
theorem dX6_row_122 : decode cX6_row 122 = .ok (.lload 16, 2) := by decide +kernel
theorem dX6_row_124 : decode cX6_row 124 = .ok (.lload 9, 2) := by decide +kernel
theorem dX6_row_126 : decode cX6_row 126 = .ok (.lcmp, 1) := by decide +kernel
theorem dX6_row_127 : decode cX6_row 127 = .ok (.ifCond .ne 7, 3) := by decide +kernel
theorem dX6_row_130 : decode cX6_row 130 = .ok (.lconst 0, 1) := by decide +kernel
theorem dX6_row_131 : decode cX6_row 131 = .ok (.goto 4, 3) := by decide +kernel
theorem dX6_row_134 : decode cX6_row 134 = .ok (.lconst 1, 1) := by decide +kernel
theorem dX6_row_135 : decode cX6_row 135 = .ok (.ladd, 1) := by decide +kernel
theorem dX6_row_136 : decode cX6_row 136 = .ok (.lstore 7, 2) := by decide +kernel
theorem dX6_row_138 : decode cX6_row 138 = .ok (.lload 16, 2) := by decide +kernel
theorem dX6_row_140 : decode cX6_row 140 = .ok (.lstore 9, 2) := by decide +kernel
theorem dX6_row_142 : decode cX6_row 142 = .ok (.iinc 11 1, 3) := by decide +kernel
theorem dX6_row_145 : decode cX6_row 145 = .ok (.goto (-131), 3) := by decide +kernel
theorem dX6_row_148 : decode cX6_row 148 = .ok (.iload_n 2, 1) := by decide +kernel
theorem dX6_row_149 : decode cX6_row 149 = .ok (.ifCond .eq 8, 3) := by decide +kernel
theorem dX6_row_152 : decode cX6_row 152 = .ok (.lload 5, 2) := by decide +kernel
theorem dX6_row_154 : decode cX6_row 154 = .ok (.goto 5, 3) := by decide +kernel
theorem dX6_row_157 : decode cX6_row 157 = .ok (.lload 7, 2) := by decide +kernel
theorem dX6_row_159 : decode cX6_row 159 = .ok (.lreturn, 1) := by decide +kernel
theorem dX6_below_0 : decode cX6_below 0 = .ok (.aload_n 0, 1) := by decide +kernel
theorem dX6_below_1 : decode cX6_below 1 = .ok (.iconst 0, 1) := by decide +kernel
theorem dX6_below_2 : decode cX6_below 2 = .ok (.putfield 75, 3) := by decide +kernel
theorem dX6_below_5 : decode cX6_below 5 = .ok (.iload_n 1, 1) := by decide +kernel
theorem dX6_below_6 : decode cX6_below 6 = .ok (.i2l, 1) := by decide +kernel
theorem dX6_below_7 : decode cX6_below 7 = .ok (.lconst 0, 1) := by decide +kernel
theorem dX6_below_8 : decode cX6_below 8 = .ok (.ldc2_w 90, 3) := by decide +kernel
theorem dX6_below_11 : decode cX6_below 11 = .ok (.invokestatic 80, 3) := by decide +kernel
theorem dX6_below_14 : decode cX6_below 14 = .ok (.ifCond .eq 13, 3) := by decide +kernel
theorem dX6_below_17 : decode cX6_below 17 = .ok (.aload_n 0, 1) := by decide +kernel
theorem dX6_below_18 : decode cX6_below 18 = .ok (.iload_n 1, 1) := by decide +kernel
theorem dX6_below_19 : decode cX6_below 19 = .ok (.iconst 0, 1) := by decide +kernel
theorem dX6_below_20 : decode cX6_below 20 = .ok (.invokevirtual 92, 3) := by decide +kernel
theorem dX6_below_23 : decode cX6_below 23 = .ok (.l2i, 1) := by decide +kernel
theorem dX6_below_24 : decode cX6_below 24 = .ok (.goto 5, 3) := by decide +kernel
theorem dX6_below_27 : decode cX6_below 27 = .ok (.bipush (-2), 2) := by decide +kernel
theorem dX6_below_29 : decode cX6_below 29 = .ok (.ireturn, 1) := by decide +kernel
theorem dX6_tone_0 : decode cX6_tone 0 = .ok (.aload_n 0, 1) := by decide +kernel
theorem dX6_tone_1 : decode cX6_tone 1 = .ok (.iconst 0, 1) := by decide +kernel
theorem dX6_tone_2 : decode cX6_tone 2 = .ok (.putfield 75, 3) := by decide +kernel
theorem dX6_tone_5 : decode cX6_tone 5 = .ok (.iload_n 1, 1) := by decide +kernel
theorem dX6_tone_6 : decode cX6_tone 6 = .ok (.i2l, 1) := by decide +kernel
theorem dX6_tone_7 : decode cX6_tone 7 = .ok (.lconst 0, 1) := by decide +kernel
theorem dX6_tone_8 : decode cX6_tone 8 = .ok (.aload_n 0, 1) := by decide +kernel
theorem dX6_tone_9 : decode cX6_tone 9 = .ok (.getfield 7, 3) := by decide +kernel
theorem dX6_tone_12 : decode cX6_tone 12 = .ok (.iconst 1, 1) := by decide +kernel
theorem dX6_tone_13 : decode cX6_tone 13 = .ok (.isub, 1) := by decide +kernel
theorem dX6_tone_14 : decode cX6_tone 14 = .ok (.i2l, 1) := by decide +kernel
theorem dX6_tone_15 : decode cX6_tone 15 = .ok (.invokestatic 80, 3) := by decide +kernel
theorem dX6_tone_18 : decode cX6_tone 18 = .ok (.ifCond .ne 5, 3) := by decide +kernel
theorem dX6_tone_21 : decode cX6_tone 21 = .ok (.iconst (-1), 1) := by decide +kernel
theorem dX6_tone_22 : decode cX6_tone 22 = .ok (.ireturn, 1) := by decide +kernel
theorem dX6_tone_23 : decode cX6_tone 23 = .ok (.iconst 0, 1) := by decide +kernel
theorem dX6_tone_24 : decode cX6_tone 24 = .ok (.istore_n 2, 1) := by decide +kernel
theorem dX6_tone_25 : decode cX6_tone 25 = .ok (.iload_n 2, 1) := by decide +kernel
theorem dX6_tone_26 : decode cX6_tone 26 = .ok (.sipush 400, 3) := by decide +kernel
theorem dX6_tone_29 : decode cX6_tone 29 = .ok (.if_icmp .ge 23, 3) := by decide +kernel
theorem dX6_tone_32 : decode cX6_tone 32 = .ok (.aload_n 0, 1) := by decide +kernel
theorem dX6_tone_33 : decode cX6_tone 33 = .ok (.iload_n 2, 1) := by decide +kernel
theorem dX6_tone_34 : decode cX6_tone 34 = .ok (.iconst 1, 1) := by decide +kernel
theorem dX6_tone_35 : decode cX6_tone 35 = .ok (.iadd, 1) := by decide +kernel
theorem dX6_tone_36 : decode cX6_tone 36 = .ok (.iconst 0, 1) := by decide +kernel
theorem dX6_tone_37 : decode cX6_tone 37 = .ok (.invokevirtual 92, 3) := by decide +kernel
theorem dX6_tone_40 : decode cX6_tone 40 = .ok (.iload_n 1, 1) := by decide +kernel
theorem dX6_tone_41 : decode cX6_tone 41 = .ok (.i2l, 1) := by decide +kernel
theorem dX6_tone_42 : decode cX6_tone 42 = .ok (.lcmp, 1) := by decide +kernel
theorem dX6_tone_43 : decode cX6_tone 43 = .ok (.ifCond .gt 9, 3) := by decide +kernel
theorem dX6_tone_46 : decode cX6_tone 46 = .ok (.iinc 2 1, 3) := by decide +kernel
theorem dX6_tone_49 : decode cX6_tone 49 = .ok (.goto (-24), 3) := by decide +kernel
theorem dX6_tone_52 : decode cX6_tone 52 = .ok (.iload_n 2, 1) := by decide +kernel
theorem dX6_tone_53 : decode cX6_tone 53 = .ok (.ireturn, 1) := by decide +kernel
theorem dX6_isTone_0 : decode cX6_isTone 0 = .ok (.aload_n 0, 1) := by decide +kernel
theorem dX6_isTone_1 : decode cX6_isTone 1 = .ok (.iconst 0, 1) := by decide +kernel
theorem dX6_isTone_2 : decode cX6_isTone 2 = .ok (.putfield 75, 3) := by decide +kernel
theorem dX6_isTone_5 : decode cX6_isTone 5 = .ok (.iload_n 1, 1) := by decide +kernel
theorem dX6_isTone_6 : decode cX6_isTone 6 = .ok (.i2l, 1) := by decide +kernel
theorem dX6_isTone_7 : decode cX6_isTone 7 = .ok (.lconst 0, 1) := by decide +kernel
theorem dX6_isTone_8 : decode cX6_isTone 8 = .ok (.ldc2_w 90, 3) := by decide +kernel
theorem dX6_isTone_11 : decode cX6_isTone 11 = .ok (.invokestatic 80, 3) := by decide +kernel
theorem dX6_isTone_14 : decode cX6_isTone 14 = .ok (.ifCond .ne 8, 3) := by decide +kernel
theorem dX6_isTone_17 : decode cX6_isTone 17 = .ok (.bipush (-2), 2) := by decide +kernel
theorem dX6_isTone_19 : decode cX6_isTone 19 = .ok (.goto 19, 3) := by decide +kernel
theorem dX6_isTone_22 : decode cX6_isTone 22 = .ok (.aload_n 0, 1) := by decide +kernel
theorem dX6_isTone_23 : decode cX6_isTone 23 = .ok (.iload_n 1, 1) := by decide +kernel
theorem dX6_isTone_24 : decode cX6_isTone 24 = .ok (.iconst 1, 1) := by decide +kernel
theorem dX6_isTone_25 : decode cX6_isTone 25 = .ok (.invokevirtual 92, 3) := by decide +kernel
theorem dX6_isTone_28 : decode cX6_isTone 28 = .ok (.lconst 0, 1) := by decide +kernel
theorem dX6_isTone_29 : decode cX6_isTone 29 = .ok (.lcmp, 1) := by decide +kernel
theorem dX6_isTone_30 : decode cX6_isTone 30 = .ok (.ifCond .ne 7, 3) := by decide +kernel
theorem dX6_isTone_33 : decode cX6_isTone 33 = .ok (.iconst 1, 1) := by decide +kernel
theorem dX6_isTone_34 : decode cX6_isTone 34 = .ok (.goto 4, 3) := by decide +kernel
theorem dX6_isTone_37 : decode cX6_isTone 37 = .ok (.iconst 0, 1) := by decide +kernel
theorem dX6_isTone_38 : decode cX6_isTone 38 = .ok (.ireturn, 1) := by decide +kernel
theorem dX6_noSort_0 : decode cX6_noSort 0 = .ok (.iload_n 0, 1) := by decide +kernel
theorem dX6_noSort_1 : decode cX6_noSort 1 = .ok (.i2l, 1) := by decide +kernel
theorem dX6_noSort_2 : decode cX6_noSort 2 = .ok (.lconst 0, 1) := by decide +kernel
theorem dX6_noSort_3 : decode cX6_noSort 3 = .ok (.ldc2_w 96, 3) := by decide +kernel
theorem dX6_noSort_6 : decode cX6_noSort 6 = .ok (.invokestatic 80, 3) := by decide +kernel
theorem dX6_noSort_9 : decode cX6_noSort 9 = .ok (.ifCond .ne 7, 3) := by decide +kernel
theorem dX6_noSort_12 : decode cX6_noSort 12 = .ok (.iconst 1, 1) := by decide +kernel
theorem dX6_noSort_13 : decode cX6_noSort 13 = .ok (.goto 4, 3) := by decide +kernel
theorem dX6_noSort_16 : decode cX6_noSort 16 = .ok (.iconst 0, 1) := by decide +kernel
theorem dX6_noSort_17 : decode cX6_noSort 17 = .ok (.ireturn, 1) := by decide +kernel
theorem dX6_noSway_0 : decode cX6_noSway 0 = .ok (.iload_n 0, 1) := by decide +kernel
theorem dX6_noSway_1 : decode cX6_noSway 1 = .ok (.i2l, 1) := by decide +kernel
theorem dX6_noSway_2 : decode cX6_noSway 2 = .ok (.lconst 0, 1) := by decide +kernel
theorem dX6_noSway_3 : decode cX6_noSway 3 = .ok (.ldc2_w 98, 3) := by decide +kernel
theorem dX6_noSway_6 : decode cX6_noSway 6 = .ok (.invokestatic 80, 3) := by decide +kernel
theorem dX6_noSway_9 : decode cX6_noSway 9 = .ok (.ifCond .ne 7, 3) := by decide +kernel
theorem dX6_noSway_12 : decode cX6_noSway 12 = .ok (.iconst 1, 1) := by decide +kernel
theorem dX6_noSway_13 : decode cX6_noSway 13 = .ok (.goto 4, 3) := by decide +kernel
theorem dX6_noSway_16 : decode cX6_noSway 16 = .ok (.iconst 0, 1) := by decide +kernel
theorem dX6_noSway_17 : decode cX6_noSway 17 = .ok (.ireturn, 1) := by decide +kernel
theorem dX6_sort_0 : decode cX6_sort 0 = .ok (.aload_n 0, 1) := by decide +kernel
theorem dX6_sort_1 : decode cX6_sort 1 = .ok (.iconst 0, 1) := by decide +kernel
theorem dX6_sort_2 : decode cX6_sort 2 = .ok (.putfield 75, 3) := by decide +kernel
theorem dX6_sort_5 : decode cX6_sort 5 = .ok (.iload_n 1, 1) := by decide +kernel
theorem dX6_sort_6 : decode cX6_sort 6 = .ok (.invokestatic 100, 3) := by decide +kernel
theorem dX6_sort_9 : decode cX6_sort 9 = .ok (.ifCond .eq 5, 3) := by decide +kernel
theorem dX6_sort_12 : decode cX6_sort 12 = .ok (.iconst (-1), 1) := by decide +kernel
theorem dX6_sort_13 : decode cX6_sort 13 = .ok (.ireturn, 1) := by decide +kernel
theorem dX6_sort_14 : decode cX6_sort 14 = .ok (.iload_n 2, 1) := by decide +kernel
theorem dX6_sort_15 : decode cX6_sort 15 = .ok (.i2l, 1) := by decide +kernel
theorem dX6_sort_16 : decode cX6_sort 16 = .ok (.lconst 0, 1) := by decide +kernel
theorem dX6_sort_17 : decode cX6_sort 17 = .ok (.ldc2_w 86, 3) := by decide +kernel
theorem dX6_sort_20 : decode cX6_sort 20 = .ok (.invokestatic 80, 3) := by decide +kernel
theorem dX6_sort_23 : decode cX6_sort 23 = .ok (.ifCond .eq 18, 3) := by decide +kernel
theorem dX6_sort_26 : decode cX6_sort 26 = .ok (.iload_n 3, 1) := by decide +kernel
theorem dX6_sort_27 : decode cX6_sort 27 = .ok (.invokestatic 104, 3) := by decide +kernel
theorem dX6_sort_30 : decode cX6_sort 30 = .ok (.ifCond .ne 11, 3) := by decide +kernel
theorem dX6_sort_33 : decode cX6_sort 33 = .ok (.iload 4, 2) := by decide +kernel
theorem dX6_sort_35 : decode cX6_sort 35 = .ok (.invokestatic 104, 3) := by decide +kernel
theorem dX6_sort_38 : decode cX6_sort 38 = .ok (.ifCond .eq 6, 3) := by decide +kernel
theorem dX6_sort_41 : decode cX6_sort 41 = .ok (.bipush (-2), 2) := by decide +kernel
theorem dX6_sort_43 : decode cX6_sort 43 = .ok (.ireturn, 1) := by decide +kernel
theorem dX6_sort_44 : decode cX6_sort 44 = .ok (.aload_n 0, 1) := by decide +kernel
theorem dX6_sort_45 : decode cX6_sort 45 = .ok (.getfield 20, 3) := by decide +kernel
theorem dX6_sort_48 : decode cX6_sort 48 = .ok (.iload_n 1, 1) := by decide +kernel
theorem dX6_sort_49 : decode cX6_sort 49 = .ok (.iaload, 1) := by decide +kernel
theorem dX6_sort_50 : decode cX6_sort 50 = .ok (.istore 5, 2) := by decide +kernel
theorem dX6_sort_52 : decode cX6_sort 52 = .ok (.aload_n 0, 1) := by decide +kernel
theorem dX6_sort_53 : decode cX6_sort 53 = .ok (.getfield 20, 3) := by decide +kernel
theorem dX6_sort_56 : decode cX6_sort 56 = .ok (.iload_n 1, 1) := by decide +kernel
theorem dX6_sort_57 : decode cX6_sort 57 = .ok (.iload_n 2, 1) := by decide +kernel
theorem dX6_sort_58 : decode cX6_sort 58 = .ok (.iastore, 1) := by decide +kernel
theorem dX6_sort_59 : decode cX6_sort 59 = .ok (.aload_n 0, 1) := by decide +kernel
theorem dX6_sort_60 : decode cX6_sort 60 = .ok (.getfield 23, 3) := by decide +kernel
theorem dX6_sort_63 : decode cX6_sort 63 = .ok (.iload_n 1, 1) := by decide +kernel
theorem dX6_sort_64 : decode cX6_sort 64 = .ok (.iload_n 3, 1) := by decide +kernel
theorem dX6_sort_65 : decode cX6_sort 65 = .ok (.iastore, 1) := by decide +kernel
theorem dX6_sort_66 : decode cX6_sort 66 = .ok (.aload_n 0, 1) := by decide +kernel
theorem dX6_sort_67 : decode cX6_sort 67 = .ok (.getfield 26, 3) := by decide +kernel
theorem dX6_sort_70 : decode cX6_sort 70 = .ok (.iload_n 1, 1) := by decide +kernel
theorem dX6_sort_71 : decode cX6_sort 71 = .ok (.iload 4, 2) := by decide +kernel
theorem dX6_sort_73 : decode cX6_sort 73 = .ok (.iastore, 1) := by decide +kernel
theorem dX6_sort_74 : decode cX6_sort 74 = .ok (.iload 5, 2) := by decide +kernel
theorem dX6_sort_76 : decode cX6_sort 76 = .ok (.ireturn, 1) := by decide +kernel
theorem dX6_crowd_0 : decode cX6_crowd 0 = .ok (.aload_n 0, 1) := by decide +kernel
theorem dX6_crowd_1 : decode cX6_crowd 1 = .ok (.iconst 0, 1) := by decide +kernel
theorem dX6_crowd_2 : decode cX6_crowd 2 = .ok (.putfield 75, 3) := by decide +kernel
theorem dX6_crowd_5 : decode cX6_crowd 5 = .ok (.iload_n 1, 1) := by decide +kernel
theorem dX6_crowd_6 : decode cX6_crowd 6 = .ok (.invokestatic 100, 3) := by decide +kernel
theorem dX6_crowd_9 : decode cX6_crowd 9 = .ok (.ifCond .eq 5, 3) := by decide +kernel
theorem dX6_crowd_12 : decode cX6_crowd 12 = .ok (.iconst (-1), 1) := by decide +kernel
theorem dX6_crowd_13 : decode cX6_crowd 13 = .ok (.ireturn, 1) := by decide +kernel
theorem dX6_crowd_14 : decode cX6_crowd 14 = .ok (.iload_n 2, 1) := by decide +kernel
theorem dX6_crowd_15 : decode cX6_crowd 15 = .ok (.i2l, 1) := by decide +kernel
theorem dX6_crowd_16 : decode cX6_crowd 16 = .ok (.lconst 0, 1) := by decide +kernel
theorem dX6_crowd_17 : decode cX6_crowd 17 = .ok (.ldc2_w 107, 3) := by decide +kernel
theorem dX6_crowd_20 : decode cX6_crowd 20 = .ok (.invokestatic 80, 3) := by decide +kernel
theorem dX6_crowd_23 : decode cX6_crowd 23 = .ok (.ifCond .ne 6, 3) := by decide +kernel
theorem dX6_crowd_26 : decode cX6_crowd 26 = .ok (.bipush (-2), 2) := by decide +kernel
theorem dX6_crowd_28 : decode cX6_crowd 28 = .ok (.ireturn, 1) := by decide +kernel
theorem dX6_crowd_29 : decode cX6_crowd 29 = .ok (.aload_n 0, 1) := by decide +kernel
theorem dX6_crowd_30 : decode cX6_crowd 30 = .ok (.getfield 29, 3) := by decide +kernel
theorem dX6_crowd_33 : decode cX6_crowd 33 = .ok (.iload_n 1, 1) := by decide +kernel
theorem dX6_crowd_34 : decode cX6_crowd 34 = .ok (.iaload, 1) := by decide +kernel
theorem dX6_crowd_35 : decode cX6_crowd 35 = .ok (.istore_n 3, 1) := by decide +kernel
theorem dX6_crowd_36 : decode cX6_crowd 36 = .ok (.aload_n 0, 1) := by decide +kernel
theorem dX6_crowd_37 : decode cX6_crowd 37 = .ok (.getfield 29, 3) := by decide +kernel
theorem dX6_crowd_40 : decode cX6_crowd 40 = .ok (.iload_n 1, 1) := by decide +kernel
theorem dX6_crowd_41 : decode cX6_crowd 41 = .ok (.iload_n 2, 1) := by decide +kernel
theorem dX6_crowd_42 : decode cX6_crowd 42 = .ok (.iastore, 1) := by decide +kernel
theorem dX6_crowd_43 : decode cX6_crowd 43 = .ok (.iload_n 3, 1) := by decide +kernel
theorem dX6_crowd_44 : decode cX6_crowd 44 = .ok (.ireturn, 1) := by decide +kernel
theorem dX6_rule_0 : decode cX6_rule 0 = .ok (.aload_n 0, 1) := by decide +kernel
theorem dX6_rule_1 : decode cX6_rule 1 = .ok (.iconst 0, 1) := by decide +kernel
theorem dX6_rule_2 : decode cX6_rule 2 = .ok (.putfield 75, 3) := by decide +kernel
theorem dX6_rule_5 : decode cX6_rule 5 = .ok (.iload_n 1, 1) := by decide +kernel
theorem dX6_rule_6 : decode cX6_rule 6 = .ok (.ifCond .ne 9, 3) := by decide +kernel
theorem dX6_rule_9 : decode cX6_rule 9 = .ok (.sipush 500, 3) := by decide +kernel
theorem dX6_rule_12 : decode cX6_rule 12 = .ok (.goto 17, 3) := by decide +kernel
theorem dX6_rule_15 : decode cX6_rule 15 = .ok (.iload_n 1, 1) := by decide +kernel
theorem dX6_rule_16 : decode cX6_rule 16 = .ok (.iconst 2, 1) := by decide +kernel
theorem dX6_rule_17 : decode cX6_rule 17 = .ok (.if_icmp .ne 9, 3) := by decide +kernel
theorem dX6_rule_20 : decode cX6_rule 20 = .ok (.sipush 999, 3) := by decide +kernel
theorem dX6_rule_23 : decode cX6_rule 23 = .ok (.goto 6, 3) := by decide +kernel
theorem dX6_rule_26 : decode cX6_rule 26 = .ok (.sipush 9999, 3) := by decide +kernel
theorem dX6_rule_29 : decode cX6_rule 29 = .ok (.istore_n 3, 1) := by decide +kernel
theorem dX6_rule_30 : decode cX6_rule 30 = .ok (.iload_n 1, 1) := by decide +kernel
theorem dX6_rule_31 : decode cX6_rule 31 = .ok (.i2l, 1) := by decide +kernel
theorem dX6_rule_32 : decode cX6_rule 32 = .ok (.lconst 0, 1) := by decide +kernel
theorem dX6_rule_33 : decode cX6_rule 33 = .ok (.ldc2_w 96, 3) := by decide +kernel
theorem dX6_rule_36 : decode cX6_rule 36 = .ok (.invokestatic 80, 3) := by decide +kernel
theorem dX6_rule_39 : decode cX6_rule 39 = .ok (.ifCond .eq 23, 3) := by decide +kernel
theorem dX6_rule_42 : decode cX6_rule 42 = .ok (.iload_n 2, 1) := by decide +kernel
theorem dX6_rule_43 : decode cX6_rule 43 = .ok (.i2l, 1) := by decide +kernel
theorem dX6_rule_44 : decode cX6_rule 44 = .ok (.iload_n 1, 1) := by decide +kernel
theorem dX6_rule_45 : decode cX6_rule 45 = .ok (.iconst 2, 1) := by decide +kernel
theorem dX6_rule_46 : decode cX6_rule 46 = .ok (.if_icmp .ge 7, 3) := by decide +kernel
theorem dX6_rule_49 : decode cX6_rule 49 = .ok (.lconst 1, 1) := by decide +kernel
theorem dX6_rule_50 : decode cX6_rule 50 = .ok (.goto 4, 3) := by decide +kernel
theorem dX6_rule_53 : decode cX6_rule 53 = .ok (.lconst 0, 1) := by decide +kernel
theorem dX6_rule_54 : decode cX6_rule 54 = .ok (.iload_n 3, 1) := by decide +kernel
theorem dX6_rule_55 : decode cX6_rule 55 = .ok (.i2l, 1) := by decide +kernel
theorem dX6_rule_56 : decode cX6_rule 56 = .ok (.invokestatic 80, 3) := by decide +kernel
theorem dX6_rule_59 : decode cX6_rule 59 = .ok (.ifCond .ne 6, 3) := by decide +kernel
theorem dX6_rule_62 : decode cX6_rule 62 = .ok (.bipush (-2), 2) := by decide +kernel
theorem dX6_rule_64 : decode cX6_rule 64 = .ok (.ireturn, 1) := by decide +kernel
theorem dX6_rule_65 : decode cX6_rule 65 = .ok (.aload_n 0, 1) := by decide +kernel
theorem dX6_rule_66 : decode cX6_rule 66 = .ok (.getfield 35, 3) := by decide +kernel
theorem dX6_rule_69 : decode cX6_rule 69 = .ok (.iload_n 1, 1) := by decide +kernel
theorem dX6_rule_70 : decode cX6_rule 70 = .ok (.iaload, 1) := by decide +kernel
theorem dX6_rule_71 : decode cX6_rule 71 = .ok (.istore 4, 2) := by decide +kernel
theorem dX6_rule_73 : decode cX6_rule 73 = .ok (.aload_n 0, 1) := by decide +kernel
theorem dX6_rule_74 : decode cX6_rule 74 = .ok (.getfield 35, 3) := by decide +kernel
theorem dX6_rule_77 : decode cX6_rule 77 = .ok (.iload_n 1, 1) := by decide +kernel
theorem dX6_rule_78 : decode cX6_rule 78 = .ok (.iload_n 2, 1) := by decide +kernel
theorem dX6_rule_79 : decode cX6_rule 79 = .ok (.iastore, 1) := by decide +kernel
theorem dX6_rule_80 : decode cX6_rule 80 = .ok (.iload 4, 2) := by decide +kernel
theorem dX6_rule_82 : decode cX6_rule 82 = .ok (.ireturn, 1) := by decide +kernel
theorem dX6_asIs_0 : decode cX6_asIs 0 = .ok (.iconst 0, 1) := by decide +kernel
theorem dX6_asIs_1 : decode cX6_asIs 1 = .ok (.istore_n 1, 1) := by decide +kernel
theorem dX6_asIs_2 : decode cX6_asIs 2 = .ok (.iload_n 1, 1) := by decide +kernel
theorem dX6_asIs_3 : decode cX6_asIs 3 = .ok (.iconst 4, 1) := by decide +kernel
theorem dX6_asIs_4 : decode cX6_asIs 4 = .ok (.if_icmp .ge 21, 3) := by decide +kernel
theorem dX6_asIs_7 : decode cX6_asIs 7 = .ok (.aload_n 0, 1) := by decide +kernel
theorem dX6_asIs_8 : decode cX6_asIs 8 = .ok (.getfield 32, 3) := by decide +kernel
theorem dX6_asIs_11 : decode cX6_asIs 11 = .ok (.iload_n 1, 1) := by decide +kernel
theorem dX6_asIs_12 : decode cX6_asIs 12 = .ok (.aload_n 0, 1) := by decide +kernel
theorem dX6_asIs_13 : decode cX6_asIs 13 = .ok (.getfield 29, 3) := by decide +kernel
theorem dX6_asIs_16 : decode cX6_asIs 16 = .ok (.iload_n 1, 1) := by decide +kernel
theorem dX6_asIs_17 : decode cX6_asIs 17 = .ok (.iaload, 1) := by decide +kernel
theorem dX6_asIs_18 : decode cX6_asIs 18 = .ok (.iastore, 1) := by decide +kernel
theorem dX6_asIs_19 : decode cX6_asIs 19 = .ok (.iinc 1 1, 3) := by decide +kernel
theorem dX6_asIs_22 : decode cX6_asIs 22 = .ok (.goto (-20), 3) := by decide +kernel
theorem dX6_asIs_25 : decode cX6_asIs 25 = .ok (.aload_n 0, 1) := by decide +kernel
theorem dX6_asIs_26 : decode cX6_asIs 26 = .ok (.iconst 0, 1) := by decide +kernel
theorem dX6_asIs_27 : decode cX6_asIs 27 = .ok (.putfield 109, 3) := by decide +kernel
theorem dX6_asIs_30 : decode cX6_asIs 30 = .ok (.iconst 0, 1) := by decide +kernel
theorem dX6_asIs_31 : decode cX6_asIs 31 = .ok (.istore_n 1, 1) := by decide +kernel
theorem dX6_asIs_32 : decode cX6_asIs 32 = .ok (.iload_n 1, 1) := by decide +kernel
theorem dX6_asIs_33 : decode cX6_asIs 33 = .ok (.aload_n 0, 1) := by decide +kernel
theorem dX6_asIs_34 : decode cX6_asIs 34 = .ok (.getfield 112, 3) := by decide +kernel
theorem dX6_asIs_37 : decode cX6_asIs 37 = .ok (.if_icmp .ge 37, 3) := by decide +kernel
theorem dX6_asIs_40 : decode cX6_asIs 40 = .ok (.aload_n 0, 1) := by decide +kernel
theorem dX6_asIs_41 : decode cX6_asIs 41 = .ok (.dup, 1) := by decide +kernel
theorem dX6_asIs_42 : decode cX6_asIs 42 = .ok (.getfield 109, 3) := by decide +kernel
theorem dX6_asIs_45 : decode cX6_asIs 45 = .ok (.aload_n 0, 1) := by decide +kernel
theorem dX6_asIs_46 : decode cX6_asIs 46 = .ok (.getfield 47, 3) := by decide +kernel
theorem dX6_asIs_49 : decode cX6_asIs 49 = .ok (.iload_n 1, 1) := by decide +kernel
theorem dX6_asIs_50 : decode cX6_asIs 50 = .ok (.baload, 1) := by decide +kernel
theorem dX6_asIs_51 : decode cX6_asIs 51 = .ok (.ifCond .eq 12, 3) := by decide +kernel
theorem dX6_asIs_54 : decode cX6_asIs 54 = .ok (.aload_n 0, 1) := by decide +kernel
theorem dX6_asIs_55 : decode cX6_asIs 55 = .ok (.getfield 38, 3) := by decide +kernel
theorem dX6_asIs_58 : decode cX6_asIs 58 = .ok (.iload_n 1, 1) := by decide +kernel
theorem dX6_asIs_59 : decode cX6_asIs 59 = .ok (.iaload, 1) := by decide +kernel
theorem dX6_asIs_60 : decode cX6_asIs 60 = .ok (.goto 4, 3) := by decide +kernel
theorem dX6_asIs_63 : decode cX6_asIs 63 = .ok (.iconst 0, 1) := by decide +kernel
theorem dX6_asIs_64 : decode cX6_asIs 64 = .ok (.iadd, 1) := by decide +kernel
theorem dX6_asIs_65 : decode cX6_asIs 65 = .ok (.putfield 109, 3) := by decide +kernel
theorem dX6_asIs_68 : decode cX6_asIs 68 = .ok (.iinc 1 1, 3) := by decide +kernel
theorem dX6_asIs_71 : decode cX6_asIs 71 = .ok (.goto (-39), 3) := by decide +kernel
theorem dX6_asIs_74 : decode cX6_asIs 74 = .ok (.return_, 1) := by decide +kernel
theorem dX6_inStepOf_0 : decode cX6_inStepOf 0 = .ok (.aload_n 0, 1) := by decide +kernel
theorem dX6_inStepOf_1 : decode cX6_inStepOf 1 = .ok (.getfield 23, 3) := by decide +kernel
theorem dX6_inStepOf_4 : decode cX6_inStepOf 4 = .ok (.iload_n 1, 1) := by decide +kernel
theorem dX6_inStepOf_5 : decode cX6_inStepOf 5 = .ok (.iaload, 1) := by decide +kernel
theorem dX6_inStepOf_6 : decode cX6_inStepOf 6 = .ok (.iload_n 2, 1) := by decide +kernel
theorem dX6_inStepOf_7 : decode cX6_inStepOf 7 = .ok (.if_icmp .gt 17, 3) := by decide +kernel
theorem dX6_inStepOf_10 : decode cX6_inStepOf 10 = .ok (.iload_n 2, 1) := by decide +kernel
theorem dX6_inStepOf_11 : decode cX6_inStepOf 11 = .ok (.aload_n 0, 1) := by decide +kernel
theorem dX6_inStepOf_12 : decode cX6_inStepOf 12 = .ok (.getfield 26, 3) := by decide +kernel
theorem dX6_inStepOf_15 : decode cX6_inStepOf 15 = .ok (.iload_n 1, 1) := by decide +kernel
theorem dX6_inStepOf_16 : decode cX6_inStepOf 16 = .ok (.iaload, 1) := by decide +kernel
theorem dX6_inStepOf_17 : decode cX6_inStepOf 17 = .ok (.if_icmp .gt 7, 3) := by decide +kernel
theorem dX6_inStepOf_20 : decode cX6_inStepOf 20 = .ok (.iconst 1, 1) := by decide +kernel
theorem dX6_inStepOf_21 : decode cX6_inStepOf 21 = .ok (.goto 4, 3) := by decide +kernel
theorem dX6_inStepOf_24 : decode cX6_inStepOf 24 = .ok (.iconst 0, 1) := by decide +kernel
theorem dX6_inStepOf_25 : decode cX6_inStepOf 25 = .ok (.ireturn, 1) := by decide +kernel
theorem dX6_netAt_0 : decode cX6_netAt 0 = .ok (.iconst 0, 1) := by decide +kernel
theorem dX6_netAt_1 : decode cX6_netAt 1 = .ok (.istore_n 2, 1) := by decide +kernel
theorem dX6_netAt_2 : decode cX6_netAt 2 = .ok (.iconst 0, 1) := by decide +kernel
theorem dX6_netAt_3 : decode cX6_netAt 3 = .ok (.istore_n 3, 1) := by decide +kernel
theorem dX6_netAt_4 : decode cX6_netAt 4 = .ok (.iload_n 3, 1) := by decide +kernel
theorem dX6_netAt_5 : decode cX6_netAt 5 = .ok (.iconst 4, 1) := by decide +kernel
theorem dX6_netAt_6 : decode cX6_netAt 6 = .ok (.if_icmp .ge 38, 3) := by decide +kernel
theorem dX6_netAt_9 : decode cX6_netAt 9 = .ok (.iload_n 2, 1) := by decide +kernel
theorem dX6_netAt_10 : decode cX6_netAt 10 = .ok (.aload_n 0, 1) := by decide +kernel
theorem dX6_netAt_11 : decode cX6_netAt 11 = .ok (.iload_n 3, 1) := by decide +kernel
theorem dX6_netAt_12 : decode cX6_netAt 12 = .ok (.iload_n 1, 1) := by decide +kernel
theorem dX6_netAt_13 : decode cX6_netAt 13 = .ok (.invokevirtual 115, 3) := by decide +kernel
theorem dX6_netAt_16 : decode cX6_netAt 16 = .ok (.ifCond .eq 19, 3) := by decide +kernel
theorem dX6_netAt_19 : decode cX6_netAt 19 = .ok (.aload_n 0, 1) := by decide +kernel
theorem dX6_netAt_20 : decode cX6_netAt 20 = .ok (.getfield 32, 3) := by decide +kernel
theorem dX6_netAt_23 : decode cX6_netAt 23 = .ok (.iload_n 3, 1) := by decide +kernel
theorem dX6_netAt_24 : decode cX6_netAt 24 = .ok (.iaload, 1) := by decide +kernel
theorem dX6_netAt_25 : decode cX6_netAt 25 = .ok (.aload_n 0, 1) := by decide +kernel
theorem dX6_netAt_26 : decode cX6_netAt 26 = .ok (.getfield 20, 3) := by decide +kernel
theorem dX6_netAt_29 : decode cX6_netAt 29 = .ok (.iload_n 3, 1) := by decide +kernel
theorem dX6_netAt_30 : decode cX6_netAt 30 = .ok (.iaload, 1) := by decide +kernel
theorem dX6_netAt_31 : decode cX6_netAt 31 = .ok (.imul, 1) := by decide +kernel
theorem dX6_netAt_32 : decode cX6_netAt 32 = .ok (.goto 4, 3) := by decide +kernel
theorem dX6_netAt_35 : decode cX6_netAt 35 = .ok (.iconst 0, 1) := by decide +kernel
theorem dX6_netAt_36 : decode cX6_netAt 36 = .ok (.iadd, 1) := by decide +kernel
theorem dX6_netAt_37 : decode cX6_netAt 37 = .ok (.istore_n 2, 1) := by decide +kernel
theorem dX6_netAt_38 : decode cX6_netAt 38 = .ok (.iinc 3 1, 3) := by decide +kernel
theorem dX6_netAt_41 : decode cX6_netAt 41 = .ok (.goto (-37), 3) := by decide +kernel
theorem dX6_netAt_44 : decode cX6_netAt 44 = .ok (.iload_n 2, 1) := by decide +kernel
theorem dX6_netAt_45 : decode cX6_netAt 45 = .ok (.bipush 100, 2) := by decide +kernel
theorem dX6_netAt_47 : decode cX6_netAt 47 = .ok (.idiv, 1) := by decide +kernel
theorem dX6_netAt_48 : decode cX6_netAt 48 = .ok (.aload_n 0, 1) := by decide +kernel
theorem dX6_netAt_49 : decode cX6_netAt 49 = .ok (.getfield 35, 3) := by decide +kernel
theorem dX6_netAt_52 : decode cX6_netAt 52 = .ok (.iconst 0, 1) := by decide +kernel
theorem dX6_netAt_53 : decode cX6_netAt 53 = .ok (.iaload, 1) := by decide +kernel
theorem dX6_netAt_54 : decode cX6_netAt 54 = .ok (.isub, 1) := by decide +kernel
theorem dX6_netAt_55 : decode cX6_netAt 55 = .ok (.aload_n 0, 1) := by decide +kernel
theorem dX6_netAt_56 : decode cX6_netAt 56 = .ok (.getfield 109, 3) := by decide +kernel
theorem dX6_netAt_59 : decode cX6_netAt 59 = .ok (.isub, 1) := by decide +kernel
theorem dX6_netAt_60 : decode cX6_netAt 60 = .ok (.ireturn, 1) := by decide +kernel
theorem dX6_moved_0 : decode cX6_moved 0 = .ok (.iload_n 0, 1) := by decide +kernel
theorem dX6_moved_1 : decode cX6_moved 1 = .ok (.iload_n 1, 1) := by decide +kernel
theorem dX6_moved_2 : decode cX6_moved 2 = .ok (.imul, 1) := by decide +kernel
theorem dX6_moved_3 : decode cX6_moved 3 = .ok (.istore_n 2, 1) := by decide +kernel
theorem dX6_moved_4 : decode cX6_moved 4 = .ok (.iload_n 2, 1) := by decide +kernel
theorem dX6_moved_5 : decode cX6_moved 5 = .ok (.ifCond .lt 11, 3) := by decide +kernel
theorem dX6_moved_8 : decode cX6_moved 8 = .ok (.iload_n 2, 1) := by decide +kernel
theorem dX6_moved_9 : decode cX6_moved 9 = .ok (.sipush 1000, 3) := by decide +kernel
theorem dX6_moved_12 : decode cX6_moved 12 = .ok (.idiv, 1) := by decide +kernel
theorem dX6_moved_13 : decode cX6_moved 13 = .ok (.goto 13, 3) := by decide +kernel
theorem dX6_moved_16 : decode cX6_moved 16 = .ok (.sipush 999, 3) := by decide +kernel
theorem dX6_moved_19 : decode cX6_moved 19 = .ok (.iload_n 2, 1) := by decide +kernel
theorem dX6_moved_20 : decode cX6_moved 20 = .ok (.isub, 1) := by decide +kernel
theorem dX6_moved_21 : decode cX6_moved 21 = .ok (.sipush 1000, 3) := by decide +kernel
theorem dX6_moved_24 : decode cX6_moved 24 = .ok (.idiv, 1) := by decide +kernel
theorem dX6_moved_25 : decode cX6_moved 25 = .ok (.ineg, 1) := by decide +kernel
theorem dX6_moved_26 : decode cX6_moved 26 = .ok (.istore_n 3, 1) := by decide +kernel
theorem dX6_moved_27 : decode cX6_moved 27 = .ok (.iload_n 0, 1) := by decide +kernel
theorem dX6_moved_28 : decode cX6_moved 28 = .ok (.iload_n 3, 1) := by decide +kernel
theorem dX6_moved_29 : decode cX6_moved 29 = .ok (.iadd, 1) := by decide +kernel
theorem dX6_moved_30 : decode cX6_moved 30 = .ok (.istore 4, 2) := by decide +kernel
theorem dX6_moved_32 : decode cX6_moved 32 = .ok (.iload 4, 2) := by decide +kernel
theorem dX6_moved_34 : decode cX6_moved 34 = .ok (.ifCond .ge 7, 3) := by decide +kernel
theorem dX6_moved_37 : decode cX6_moved 37 = .ok (.iconst 0, 1) := by decide +kernel
theorem dX6_moved_38 : decode cX6_moved 38 = .ok (.goto 11, 3) := by decide +kernel
theorem dX6_moved_41 : decode cX6_moved 41 = .ok (.iload 4, 2) := by decide +kernel
theorem dX6_moved_43 : decode cX6_moved 43 = .ok (.sipush 9999, 3) := by decide +kernel
theorem dX6_moved_46 : decode cX6_moved 46 = .ok (.invokestatic 119, 3) := by decide +kernel
theorem dX6_moved_49 : decode cX6_moved 49 = .ok (.ireturn, 1) := by decide +kernel
theorem dX6_beat_0 : decode cX6_beat 0 = .ok (.iload_n 1, 1) := by decide +kernel
theorem dX6_beat_1 : decode cX6_beat 1 = .ok (.aload_n 0, 1) := by decide +kernel
theorem dX6_beat_2 : decode cX6_beat 2 = .ok (.iload_n 1, 1) := by decide +kernel
theorem dX6_beat_3 : decode cX6_beat 3 = .ok (.invokevirtual 123, 3) := by decide +kernel
theorem dX6_beat_6 : decode cX6_beat 6 = .ok (.invokestatic 127, 3) := by decide +kernel
theorem dX6_beat_9 : decode cX6_beat 9 = .ok (.ireturn, 1) := by decide +kernel
theorem dX6_net_0 : decode cX6_net 0 = .ok (.aload_n 0, 1) := by decide +kernel
theorem dX6_net_1 : decode cX6_net 1 = .ok (.iconst 0, 1) := by decide +kernel
theorem dX6_net_2 : decode cX6_net 2 = .ok (.putfield 75, 3) := by decide +kernel
theorem dX6_net_5 : decode cX6_net 5 = .ok (.iload_n 1, 1) := by decide +kernel
theorem dX6_net_6 : decode cX6_net 6 = .ok (.invokestatic 104, 3) := by decide +kernel
theorem dX6_net_9 : decode cX6_net 9 = .ok (.ifCond .eq 6, 3) := by decide +kernel
theorem dX6_net_12 : decode cX6_net 12 = .ok (.bipush (-2), 2) := by decide +kernel
theorem dX6_net_14 : decode cX6_net 14 = .ok (.ireturn, 1) := by decide +kernel
theorem dX6_net_15 : decode cX6_net 15 = .ok (.aload_n 0, 1) := by decide +kernel
theorem dX6_net_16 : decode cX6_net 16 = .ok (.invokevirtual 130, 3) := by decide +kernel
theorem dX6_net_19 : decode cX6_net 19 = .ok (.aload_n 0, 1) := by decide +kernel
theorem dX6_net_20 : decode cX6_net 20 = .ok (.iload_n 1, 1) := by decide +kernel
theorem dX6_net_21 : decode cX6_net 21 = .ok (.invokevirtual 123, 3) := by decide +kernel
theorem dX6_net_24 : decode cX6_net 24 = .ok (.ldc 133, 2) := by decide +kernel
theorem dX6_net_26 : decode cX6_net 26 = .ok (.iadd, 1) := by decide +kernel
theorem dX6_net_27 : decode cX6_net 27 = .ok (.ireturn, 1) := by decide +kernel
theorem dX6_beats_0 : decode cX6_beats 0 = .ok (.aload_n 0, 1) := by decide +kernel
theorem dX6_beats_1 : decode cX6_beats 1 = .ok (.iconst 0, 1) := by decide +kernel
theorem dX6_beats_2 : decode cX6_beats 2 = .ok (.putfield 75, 3) := by decide +kernel
theorem dX6_beats_5 : decode cX6_beats 5 = .ok (.iload_n 1, 1) := by decide +kernel
theorem dX6_beats_6 : decode cX6_beats 6 = .ok (.invokestatic 104, 3) := by decide +kernel
theorem dX6_beats_9 : decode cX6_beats 9 = .ok (.ifCond .ne 15, 3) := by decide +kernel
theorem dX6_beats_12 : decode cX6_beats 12 = .ok (.iload_n 2, 1) := by decide +kernel
theorem dX6_beats_13 : decode cX6_beats 13 = .ok (.i2l, 1) := by decide +kernel
theorem dX6_beats_14 : decode cX6_beats 14 = .ok (.lconst 0, 1) := by decide +kernel
theorem dX6_beats_15 : decode cX6_beats 15 = .ok (.ldc2_w 134, 3) := by decide +kernel
theorem dX6_beats_18 : decode cX6_beats 18 = .ok (.invokestatic 80, 3) := by decide +kernel
theorem dX6_beats_21 : decode cX6_beats 21 = .ok (.ifCond .ne 6, 3) := by decide +kernel
theorem dX6_beats_24 : decode cX6_beats 24 = .ok (.bipush (-2), 2) := by decide +kernel
theorem dX6_beats_26 : decode cX6_beats 26 = .ok (.ireturn, 1) := by decide +kernel
theorem dX6_beats_27 : decode cX6_beats 27 = .ok (.aload_n 0, 1) := by decide +kernel
theorem dX6_beats_28 : decode cX6_beats 28 = .ok (.invokevirtual 130, 3) := by decide +kernel
theorem dX6_beats_31 : decode cX6_beats 31 = .ok (.iload_n 1, 1) := by decide +kernel
theorem dX6_beats_32 : decode cX6_beats 32 = .ok (.istore_n 3, 1) := by decide +kernel
theorem dX6_beats_33 : decode cX6_beats 33 = .ok (.iconst 0, 1) := by decide +kernel
theorem dX6_beats_34 : decode cX6_beats 34 = .ok (.istore 4, 2) := by decide +kernel
theorem dX6_beats_36 : decode cX6_beats 36 = .ok (.iload 4, 2) := by decide +kernel
theorem dX6_beats_38 : decode cX6_beats 38 = .ok (.iload_n 2, 1) := by decide +kernel
theorem dX6_beats_39 : decode cX6_beats 39 = .ok (.if_icmp .ge 15, 3) := by decide +kernel
theorem dX6_beats_42 : decode cX6_beats 42 = .ok (.aload_n 0, 1) := by decide +kernel
theorem dX6_beats_43 : decode cX6_beats 43 = .ok (.iload_n 3, 1) := by decide +kernel
theorem dX6_beats_44 : decode cX6_beats 44 = .ok (.invokevirtual 136, 3) := by decide +kernel
theorem dX6_beats_47 : decode cX6_beats 47 = .ok (.istore_n 3, 1) := by decide +kernel
theorem dX6_beats_48 : decode cX6_beats 48 = .ok (.iinc 4 1, 3) := by decide +kernel
theorem dX6_beats_51 : decode cX6_beats 51 = .ok (.goto (-15), 3) := by decide +kernel
theorem dX6_beats_54 : decode cX6_beats 54 = .ok (.iload_n 3, 1) := by decide +kernel
theorem dX6_beats_55 : decode cX6_beats 55 = .ok (.ireturn, 1) := by decide +kernel
theorem dX6_goOn_0 : decode cX6_goOn 0 = .ok (.iconst 0, 1) := by decide +kernel
theorem dX6_goOn_1 : decode cX6_goOn 1 = .ok (.istore_n 2, 1) := by decide +kernel
theorem dX6_goOn_2 : decode cX6_goOn 2 = .ok (.iload_n 2, 1) := by decide +kernel
theorem dX6_goOn_3 : decode cX6_goOn 3 = .ok (.sipush 10000, 3) := by decide +kernel
theorem dX6_goOn_6 : decode cX6_goOn 6 = .ok (.if_icmp .ge 17, 3) := by decide +kernel
theorem dX6_goOn_9 : decode cX6_goOn 9 = .ok (.aload_n 0, 1) := by decide +kernel
theorem dX6_goOn_10 : decode cX6_goOn 10 = .ok (.getfield 51, 3) := by decide +kernel
theorem dX6_goOn_13 : decode cX6_goOn 13 = .ok (.iload_n 2, 1) := by decide +kernel
theorem dX6_goOn_14 : decode cX6_goOn 14 = .ok (.bipush (-9), 2) := by decide +kernel
theorem dX6_goOn_16 : decode cX6_goOn 16 = .ok (.iastore, 1) := by decide +kernel
theorem dX6_goOn_17 : decode cX6_goOn 17 = .ok (.iinc 2 1, 3) := by decide +kernel
theorem dX6_goOn_20 : decode cX6_goOn 20 = .ok (.goto (-18), 3) := by decide +kernel
theorem dX6_goOn_23 : decode cX6_goOn 23 = .ok (.iload_n 1, 1) := by decide +kernel
theorem dX6_goOn_24 : decode cX6_goOn 24 = .ok (.istore_n 2, 1) := by decide +kernel
theorem dX6_goOn_25 : decode cX6_goOn 25 = .ok (.iconst 0, 1) := by decide +kernel
theorem dX6_goOn_26 : decode cX6_goOn 26 = .ok (.istore_n 3, 1) := by decide +kernel
theorem dX6_goOn_27 : decode cX6_goOn 27 = .ok (.aload_n 0, 1) := by decide +kernel
theorem dX6_goOn_28 : decode cX6_goOn 28 = .ok (.getfield 51, 3) := by decide +kernel
theorem dX6_goOn_31 : decode cX6_goOn 31 = .ok (.iload_n 2, 1) := by decide +kernel
theorem dX6_goOn_32 : decode cX6_goOn 32 = .ok (.iaload, 1) := by decide +kernel
theorem dX6_goOn_33 : decode cX6_goOn 33 = .ok (.bipush (-9), 2) := by decide +kernel
theorem dX6_goOn_35 : decode cX6_goOn 35 = .ok (.if_icmp .ne 22, 3) := by decide +kernel
theorem dX6_goOn_38 : decode cX6_goOn 38 = .ok (.aload_n 0, 1) := by decide +kernel
theorem dX6_goOn_39 : decode cX6_goOn 39 = .ok (.getfield 51, 3) := by decide +kernel
theorem dX6_goOn_42 : decode cX6_goOn 42 = .ok (.iload_n 2, 1) := by decide +kernel
theorem dX6_goOn_43 : decode cX6_goOn 43 = .ok (.iload_n 3, 1) := by decide +kernel
theorem dX6_goOn_44 : decode cX6_goOn 44 = .ok (.iastore, 1) := by decide +kernel
theorem dX6_goOn_45 : decode cX6_goOn 45 = .ok (.iinc 3 1, 3) := by decide +kernel
theorem dX6_goOn_48 : decode cX6_goOn 48 = .ok (.aload_n 0, 1) := by decide +kernel
theorem dX6_goOn_49 : decode cX6_goOn 49 = .ok (.iload_n 2, 1) := by decide +kernel
theorem dX6_goOn_50 : decode cX6_goOn 50 = .ok (.invokevirtual 136, 3) := by decide +kernel
theorem dX6_goOn_53 : decode cX6_goOn 53 = .ok (.istore_n 2, 1) := by decide +kernel
theorem dX6_goOn_54 : decode cX6_goOn 54 = .ok (.goto (-27), 3) := by decide +kernel
theorem dX6_goOn_57 : decode cX6_goOn 57 = .ok (.aload_n 0, 1) := by decide +kernel
theorem dX6_goOn_58 : decode cX6_goOn 58 = .ok (.aload_n 0, 1) := by decide +kernel
theorem dX6_goOn_59 : decode cX6_goOn 59 = .ok (.getfield 51, 3) := by decide +kernel
theorem dX6_goOn_62 : decode cX6_goOn 62 = .ok (.iload_n 2, 1) := by decide +kernel
theorem dX6_goOn_63 : decode cX6_goOn 63 = .ok (.iaload, 1) := by decide +kernel
theorem dX6_goOn_64 : decode cX6_goOn 64 = .ok (.putfield 139, 3) := by decide +kernel
theorem dX6_goOn_67 : decode cX6_goOn 67 = .ok (.aload_n 0, 1) := by decide +kernel
theorem dX6_goOn_68 : decode cX6_goOn 68 = .ok (.iload_n 3, 1) := by decide +kernel
theorem dX6_goOn_69 : decode cX6_goOn 69 = .ok (.aload_n 0, 1) := by decide +kernel
theorem dX6_goOn_70 : decode cX6_goOn 70 = .ok (.getfield 139, 3) := by decide +kernel
theorem dX6_goOn_73 : decode cX6_goOn 73 = .ok (.isub, 1) := by decide +kernel
theorem dX6_goOn_74 : decode cX6_goOn 74 = .ok (.putfield 142, 3) := by decide +kernel
theorem dX6_goOn_77 : decode cX6_goOn 77 = .ok (.aload_n 0, 1) := by decide +kernel
theorem dX6_goOn_78 : decode cX6_goOn 78 = .ok (.iload_n 2, 1) := by decide +kernel
theorem dX6_goOn_79 : decode cX6_goOn 79 = .ok (.putfield 145, 3) := by decide +kernel
theorem dX6_goOn_82 : decode cX6_goOn 82 = .ok (.return_, 1) := by decide +kernel
theorem dX6_settles_0 : decode cX6_settles 0 = .ok (.aload_n 0, 1) := by decide +kernel
theorem dX6_settles_1 : decode cX6_settles 1 = .ok (.iconst 0, 1) := by decide +kernel
theorem dX6_settles_2 : decode cX6_settles 2 = .ok (.putfield 75, 3) := by decide +kernel
theorem dX6_settles_5 : decode cX6_settles 5 = .ok (.iload_n 1, 1) := by decide +kernel
theorem dX6_settles_6 : decode cX6_settles 6 = .ok (.invokestatic 104, 3) := by decide +kernel
theorem dX6_settles_9 : decode cX6_settles 9 = .ok (.ifCond .eq 6, 3) := by decide +kernel
theorem dX6_settles_12 : decode cX6_settles 12 = .ok (.bipush (-2), 2) := by decide +kernel
theorem dX6_settles_14 : decode cX6_settles 14 = .ok (.ireturn, 1) := by decide +kernel
theorem dX6_settles_15 : decode cX6_settles 15 = .ok (.aload_n 0, 1) := by decide +kernel
theorem dX6_settles_16 : decode cX6_settles 16 = .ok (.invokevirtual 130, 3) := by decide +kernel
theorem dX6_settles_19 : decode cX6_settles 19 = .ok (.aload_n 0, 1) := by decide +kernel
theorem dX6_settles_20 : decode cX6_settles 20 = .ok (.iload_n 1, 1) := by decide +kernel
theorem dX6_settles_21 : decode cX6_settles 21 = .ok (.invokevirtual 148, 3) := by decide +kernel
theorem dX6_settles_24 : decode cX6_settles 24 = .ok (.aload_n 0, 1) := by decide +kernel
theorem dX6_settles_25 : decode cX6_settles 25 = .ok (.getfield 145, 3) := by decide +kernel
theorem dX6_settles_28 : decode cX6_settles 28 = .ok (.ifCond .ne 10, 3) := by decide +kernel
theorem dX6_settles_31 : decode cX6_settles 31 = .ok (.aload_n 0, 1) := by decide +kernel
theorem dX6_settles_32 : decode cX6_settles 32 = .ok (.getfield 139, 3) := by decide +kernel
theorem dX6_settles_35 : decode cX6_settles 35 = .ok (.goto 5, 3) := by decide +kernel
theorem dX6_settles_38 : decode cX6_settles 38 = .ok (.bipush (-9), 2) := by decide +kernel
theorem dX6_settles_40 : decode cX6_settles 40 = .ok (.ireturn, 1) := by decide +kernel
