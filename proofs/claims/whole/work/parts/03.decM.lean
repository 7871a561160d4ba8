theorem dX11_init_0 : decode cX11_init 0 = .ok (.aload_n 0, 1) := by decide +kernel
theorem dX11_init_1 : decode cX11_init 1 = .ok (.invokespecial 1, 3) := by decide +kernel
theorem dX11_init_4 : decode cX11_init 4 = .ok (.aload_n 0, 1) := by decide +kernel
theorem dX11_init_5 : decode cX11_init 5 = .ok (.sipush 1200, 3) := by decide +kernel
theorem dX11_init_8 : decode cX11_init 8 = .ok (.newarray .byte, 2) := by decide +kernel
theorem dX11_init_10 : decode cX11_init 10 = .ok (.putfield 7, 3) := by decide +kernel
theorem dX11_init_13 : decode cX11_init 13 = .ok (.aload_n 0, 1) := by decide +kernel
theorem dX11_init_14 : decode cX11_init 14 = .ok (.iconst (-1), 1) := by decide +kernel
theorem dX11_init_15 : decode cX11_init 15 = .ok (.putfield 13, 3) := by decide +kernel
theorem dX11_init_18 : decode cX11_init 18 = .ok (.aload_n 0, 1) := by decide +kernel
theorem dX11_init_19 : decode cX11_init 19 = .ok (.bipush 8, 2) := by decide +kernel
theorem dX11_init_21 : decode cX11_init 21 = .ok (.newarray .int, 2) := by decide +kernel
theorem dX11_init_23 : decode cX11_init 23 = .ok (.putfield 17, 3) := by decide +kernel
theorem dX11_init_26 : decode cX11_init 26 = .ok (.aload_n 0, 1) := by decide +kernel
theorem dX11_init_27 : decode cX11_init 27 = .ok (.bipush 8, 2) := by decide +kernel
theorem dX11_init_29 : decode cX11_init 29 = .ok (.newarray .int, 2) := by decide +kernel
theorem dX11_init_31 : decode cX11_init 31 = .ok (.putfield 21, 3) := by decide +kernel
theorem dX11_init_34 : decode cX11_init 34 = .ok (.aload_n 0, 1) := by decide +kernel
theorem dX11_init_35 : decode cX11_init 35 = .ok (.sipush 128, 3) := by decide +kernel
theorem dX11_init_38 : decode cX11_init 38 = .ok (.newarray .boolean, 2) := by decide +kernel
theorem dX11_init_40 : decode cX11_init 40 = .ok (.putfield 24, 3) := by decide +kernel
theorem dX11_init_43 : decode cX11_init 43 = .ok (.aload_n 0, 1) := by decide +kernel
theorem dX11_init_44 : decode cX11_init 44 = .ok (.bipush 40, 2) := by decide +kernel
theorem dX11_init_46 : decode cX11_init 46 = .ok (.newarray .long, 2) := by decide +kernel
theorem dX11_init_48 : decode cX11_init 48 = .ok (.putfield 28, 3) := by decide +kernel
theorem dX11_init_51 : decode cX11_init 51 = .ok (.aload_n 0, 1) := by decide +kernel
theorem dX11_init_52 : decode cX11_init 52 = .ok (.bipush 40, 2) := by decide +kernel
theorem dX11_init_54 : decode cX11_init 54 = .ok (.newarray .int, 2) := by decide +kernel
theorem dX11_init_56 : decode cX11_init 56 = .ok (.putfield 32, 3) := by decide +kernel
theorem dX11_init_59 : decode cX11_init 59 = .ok (.aload_n 0, 1) := by decide +kernel
theorem dX11_init_60 : decode cX11_init 60 = .ok (.bipush 40, 2) := by decide +kernel
theorem dX11_init_62 : decode cX11_init 62 = .ok (.newarray .int, 2) := by decide +kernel
theorem dX11_init_64 : decode cX11_init 64 = .ok (.putfield 35, 3) := by decide +kernel
theorem dX11_init_67 : decode cX11_init 67 = .ok (.aload_n 0, 1) := by decide +kernel
theorem dX11_init_68 : decode cX11_init 68 = .ok (.bipush 41, 2) := by decide +kernel
theorem dX11_init_70 : decode cX11_init 70 = .ok (.newarray .long, 2) := by decide +kernel
theorem dX11_init_72 : decode cX11_init 72 = .ok (.putfield 38, 3) := by decide +kernel
theorem dX11_init_75 : decode cX11_init 75 = .ok (.aload_n 0, 1) := by decide +kernel
theorem dX11_init_76 : decode cX11_init 76 = .ok (.bipush 41, 2) := by decide +kernel
theorem dX11_init_78 : decode cX11_init 78 = .ok (.newarray .int, 2) := by decide +kernel
theorem dX11_init_80 : decode cX11_init 80 = .ok (.putfield 41, 3) := by decide +kernel
theorem dX11_init_83 : decode cX11_init 83 = .ok (.aload_n 0, 1) := by decide +kernel
theorem dX11_init_84 : decode cX11_init 84 = .ok (.bipush 41, 2) := by decide +kernel
theorem dX11_init_86 : decode cX11_init 86 = .ok (.newarray .int, 2) := by decide +kernel
theorem dX11_init_88 : decode cX11_init 88 = .ok (.putfield 44, 3) := by decide +kernel
theorem dX11_init_91 : decode cX11_init 91 = .ok (.aload_n 0, 1) := by decide +kernel
theorem dX11_init_92 : decode cX11_init 92 = .ok (.bipush 41, 2) := by decide +kernel
theorem dX11_init_94 : decode cX11_init 94 = .ok (.newarray .int, 2) := by decide +kernel
theorem dX11_init_96 : decode cX11_init 96 = .ok (.putfield 47, 3) := by decide +kernel
theorem dX11_init_99 : decode cX11_init 99 = .ok (.aload_n 0, 1) := by decide +kernel
theorem dX11_init_100 : decode cX11_init 100 = .ok (.bipush 82, 2) := by decide +kernel
theorem dX11_init_102 : decode cX11_init 102 = .ok (.newarray .long, 2) := by decide +kernel
theorem dX11_init_104 : decode cX11_init 104 = .ok (.putfield 50, 3) := by decide +kernel
theorem dX11_init_107 : decode cX11_init 107 = .ok (.aload_n 0, 1) := by decide +kernel
theorem dX11_init_108 : decode cX11_init 108 = .ok (.bipush 82, 2) := by decide +kernel
theorem dX11_init_110 : decode cX11_init 110 = .ok (.newarray .int, 2) := by decide +kernel
theorem dX11_init_112 : decode cX11_init 112 = .ok (.putfield 53, 3) := by decide +kernel
theorem dX11_init_115 : decode cX11_init 115 = .ok (.aload_n 0, 1) := by decide +kernel
theorem dX11_init_116 : decode cX11_init 116 = .ok (.bipush 40, 2) := by decide +kernel
theorem dX11_init_118 : decode cX11_init 118 = .ok (.newarray .int, 2) := by decide +kernel
theorem dX11_init_120 : decode cX11_init 120 = .ok (.putfield 56, 3) := by decide +kernel
theorem dX11_init_123 : decode cX11_init 123 = .ok (.aload_n 0, 1) := by decide +kernel
theorem dX11_init_124 : decode cX11_init 124 = .ok (.bipush 100, 2) := by decide +kernel
theorem dX11_init_126 : decode cX11_init 126 = .ok (.newarray .int, 2) := by decide +kernel
theorem dX11_init_128 : decode cX11_init 128 = .ok (.putfield 59, 3) := by decide +kernel
theorem dX11_init_131 : decode cX11_init 131 = .ok (.aload_n 0, 1) := by decide +kernel
theorem dX11_init_132 : decode cX11_init 132 = .ok (.bipush 40, 2) := by decide +kernel
theorem dX11_init_134 : decode cX11_init 134 = .ok (.newarray .int, 2) := by decide +kernel
theorem dX11_init_136 : decode cX11_init 136 = .ok (.putfield 62, 3) := by decide +kernel
theorem dX11_init_139 : decode cX11_init 139 = .ok (.aload_n 0, 1) := by decide +kernel
theorem dX11_init_140 : decode cX11_init 140 = .ok (.bipush 40, 2) := by decide +kernel
theorem dX11_init_142 : decode cX11_init 142 = .ok (.newarray .int, 2) := by decide +kernel
theorem dX11_init_144 : decode cX11_init 144 = .ok (.putfield 65, 3) := by decide +kernel
theorem dX11_init_147 : decode cX11_init 147 = .ok (.aload_n 0, 1) := by decide +kernel
theorem dX11_init_148 : decode cX11_init 148 = .ok (.bipush 40, 2) := by decide +kernel
theorem dX11_init_150 : decode cX11_init 150 = .ok (.newarray .int, 2) := by decide +kernel
theorem dX11_init_152 : decode cX11_init 152 = .ok (.putfield 68, 3) := by decide +kernel
theorem dX11_init_155 : decode cX11_init 155 = .ok (.aload_n 0, 1) := by decide +kernel
theorem dX11_init_156 : decode cX11_init 156 = .ok (.bipush 40, 2) := by decide +kernel
theorem dX11_init_158 : decode cX11_init 158 = .ok (.newarray .int, 2) := by decide +kernel
theorem dX11_init_160 : decode cX11_init 160 = .ok (.putfield 71, 3) := by decide +kernel
theorem dX11_init_163 : decode cX11_init 163 = .ok (.aload_n 0, 1) := by decide +kernel
theorem dX11_init_164 : decode cX11_init 164 = .ok (.bipush 40, 2) := by decide +kernel
theorem dX11_init_166 : decode cX11_init 166 = .ok (.newarray .int, 2) := by decide +kernel
theorem dX11_init_168 : decode cX11_init 168 = .ok (.putfield 74, 3) := by decide +kernel
theorem dX11_init_171 : decode cX11_init 171 = .ok (.aload_n 0, 1) := by decide +kernel
theorem dX11_init_172 : decode cX11_init 172 = .ok (.bipush 6, 2) := by decide +kernel
theorem dX11_init_174 : decode cX11_init 174 = .ok (.newarray .int, 2) := by decide +kernel
theorem dX11_init_176 : decode cX11_init 176 = .ok (.putfield 77, 3) := by decide +kernel
theorem dX11_init_179 : decode cX11_init 179 = .ok (.aload_n 0, 1) := by decide +kernel
theorem dX11_init_180 : decode cX11_init 180 = .ok (.bipush 100, 2) := by decide +kernel
theorem dX11_init_182 : decode cX11_init 182 = .ok (.newarray .int, 2) := by decide +kernel
theorem dX11_init_184 : decode cX11_init 184 = .ok (.putfield 80, 3) := by decide +kernel
theorem dX11_init_187 : decode cX11_init 187 = .ok (.aload_n 0, 1) := by decide +kernel
theorem dX11_init_188 : decode cX11_init 188 = .ok (.sipush 320, 3) := by decide +kernel
theorem dX11_init_191 : decode cX11_init 191 = .ok (.newarray .int, 2) := by decide +kernel
theorem dX11_init_193 : decode cX11_init 193 = .ok (.putfield 83, 3) := by decide +kernel
theorem dX11_init_196 : decode cX11_init 196 = .ok (.aload_n 0, 1) := by decide +kernel
theorem dX11_init_197 : decode cX11_init 197 = .ok (.bipush 6, 2) := by decide +kernel
theorem dX11_init_199 : decode cX11_init 199 = .ok (.newarray .int, 2) := by decide +kernel
theorem dX11_init_201 : decode cX11_init 201 = .ok (.putfield 86, 3) := by decide +kernel
theorem dX11_init_204 : decode cX11_init 204 = .ok (.aload_n 0, 1) := by decide +kernel
theorem dX11_init_205 : decode cX11_init 205 = .ok (.bipush 6, 2) := by decide +kernel
theorem dX11_init_207 : decode cX11_init 207 = .ok (.newarray .int, 2) := by decide +kernel
theorem dX11_init_209 : decode cX11_init 209 = .ok (.putfield 89, 3) := by decide +kernel
theorem dX11_init_212 : decode cX11_init 212 = .ok (.aload_n 0, 1) := by decide +kernel
theorem dX11_init_213 : decode cX11_init 213 = .ok (.bipush 6, 2) := by decide +kernel
theorem dX11_init_215 : decode cX11_init 215 = .ok (.newarray .int, 2) := by decide +kernel
theorem dX11_init_217 : decode cX11_init 217 = .ok (.putfield 92, 3) := by decide +kernel
theorem dX11_init_220 : decode cX11_init 220 = .ok (.aload_n 0, 1) := by decide +kernel
theorem dX11_init_221 : decode cX11_init 221 = .ok (.iconst 4, 1) := by decide +kernel
theorem dX11_init_222 : decode cX11_init 222 = .ok (.newarray .boolean, 2) := by decide +kernel
theorem dX11_init_224 : decode cX11_init 224 = .ok (.putfield 95, 3) := by decide +kernel
theorem dX11_init_227 : decode cX11_init 227 = .ok (.aload_n 0, 1) := by decide +kernel
theorem dX11_init_228 : decode cX11_init 228 = .ok (.sipush 160, 3) := by decide +kernel
theorem dX11_init_231 : decode cX11_init 231 = .ok (.newarray .int, 2) := by decide +kernel
theorem dX11_init_233 : decode cX11_init 233 = .ok (.putfield 98, 3) := by decide +kernel
theorem dX11_init_236 : decode cX11_init 236 = .ok (.aload_n 0, 1) := by decide +kernel
theorem dX11_init_237 : decode cX11_init 237 = .ok (.bipush 40, 2) := by decide +kernel
theorem dX11_init_239 : decode cX11_init 239 = .ok (.newarray .int, 2) := by decide +kernel
theorem dX11_init_241 : decode cX11_init 241 = .ok (.putfield 101, 3) := by decide +kernel
theorem dX11_init_244 : decode cX11_init 244 = .ok (.aload_n 0, 1) := by decide +kernel
theorem dX11_init_245 : decode cX11_init 245 = .ok (.bipush 40, 2) := by decide +kernel
theorem dX11_init_247 : decode cX11_init 247 = .ok (.newarray .int, 2) := by decide +kernel
theorem dX11_init_249 : decode cX11_init 249 = .ok (.putfield 104, 3) := by decide +kernel
theorem dX11_init_252 : decode cX11_init 252 = .ok (.aload_n 0, 1) := by decide +kernel
theorem dX11_init_253 : decode cX11_init 253 = .ok (.bipush 8, 2) := by decide +kernel
theorem dX11_init_255 : decode cX11_init 255 = .ok (.newarray .int, 2) := by decide +kernel
theorem dX11_init_257 : decode cX11_init 257 = .ok (.putfield 107, 3) := by decide +kernel
theorem dX11_init_260 : decode cX11_init 260 = .ok (.aload_n 0, 1) := by decide +kernel
theorem dX11_init_261 : decode cX11_init 261 = .ok (.bipush 8, 2) := by decide +kernel
theorem dX11_init_263 : decode cX11_init 263 = .ok (.newarray .int, 2) := by decide +kernel
theorem dX11_init_265 : decode cX11_init 265 = .ok (.putfield 110, 3) := by decide +kernel
theorem dX11_init_268 : decode cX11_init 268 = .ok (.aload_n 0, 1) := by decide +kernel
theorem dX11_init_269 : decode cX11_init 269 = .ok (.bipush 16, 2) := by decide +kernel
theorem dX11_init_271 : decode cX11_init 271 = .ok (.putfield 113, 3) := by decide +kernel
theorem dX11_init_274 : decode cX11_init 274 = .ok (.aload_n 0, 1) := by decide +kernel
theorem dX11_init_275 : decode cX11_init 275 = .ok (.iconst 2, 1) := by decide +kernel
theorem dX11_init_276 : decode cX11_init 276 = .ok (.putfield 116, 3) := by decide +kernel
theorem dX11_init_279 : decode cX11_init 279 = .ok (.iconst 0, 1) := by decide +kernel
theorem dX11_init_280 : decode cX11_init 280 = .ok (.istore_n 1, 1) := by decide +kernel
theorem dX11_init_281 : decode cX11_init 281 = .ok (.iload_n 1, 1) := by decide +kernel
theorem dX11_init_282 : decode cX11_init 282 = .ok (.iconst 2, 1) := by decide +kernel
theorem dX11_init_283 : decode cX11_init 283 = .ok (.if_icmp .ge 17, 3) := by decide +kernel
theorem dX11_init_286 : decode cX11_init 286 = .ok (.aload_n 0, 1) := by decide +kernel
theorem dX11_init_287 : decode cX11_init 287 = .ok (.getfield 17, 3) := by decide +kernel
theorem dX11_init_290 : decode cX11_init 290 = .ok (.iload_n 1, 1) := by decide +kernel
theorem dX11_init_291 : decode cX11_init 291 = .ok (.bipush 16, 2) := by decide +kernel
theorem dX11_init_293 : decode cX11_init 293 = .ok (.iastore, 1) := by decide +kernel
theorem dX11_init_294 : decode cX11_init 294 = .ok (.iinc 1 1, 3) := by decide +kernel
theorem dX11_init_297 : decode cX11_init 297 = .ok (.goto (-16), 3) := by decide +kernel
theorem dX11_init_300 : decode cX11_init 300 = .ok (.iconst 0, 1) := by decide +kernel
theorem dX11_init_301 : decode cX11_init 301 = .ok (.istore_n 1, 1) := by decide +kernel
theorem dX11_init_302 : decode cX11_init 302 = .ok (.iload_n 1, 1) := by decide +kernel
theorem dX11_init_303 : decode cX11_init 303 = .ok (.iconst 2, 1) := by decide +kernel
theorem dX11_init_304 : decode cX11_init 304 = .ok (.if_icmp .ge 17, 3) := by decide +kernel
theorem dX11_init_307 : decode cX11_init 307 = .ok (.aload_n 0, 1) := by decide +kernel
theorem dX11_init_308 : decode cX11_init 308 = .ok (.getfield 21, 3) := by decide +kernel
theorem dX11_init_311 : decode cX11_init 311 = .ok (.iload_n 1, 1) := by decide +kernel
theorem dX11_init_312 : decode cX11_init 312 = .ok (.bipush 16, 2) := by decide +kernel
theorem dX11_init_314 : decode cX11_init 314 = .ok (.iastore, 1) := by decide +kernel
theorem dX11_init_315 : decode cX11_init 315 = .ok (.iinc 1 1, 3) := by decide +kernel
theorem dX11_init_318 : decode cX11_init 318 = .ok (.goto (-16), 3) := by decide +kernel
theorem dX11_init_321 : decode cX11_init 321 = .ok (.return_, 1) := by decide +kernel
theorem dX11_in_0 : decode cX11_in 0 = .ok (.iload_n 0, 1) := by decide +kernel
theorem dX11_in_1 : decode cX11_in 1 = .ok (.iload_n 1, 1) := by decide +kernel
theorem dX11_in_2 : decode cX11_in 2 = .ok (.if_icmp .lt 12, 3) := by decide +kernel
theorem dX11_in_5 : decode cX11_in 5 = .ok (.iload_n 0, 1) := by decide +kernel
theorem dX11_in_6 : decode cX11_in 6 = .ok (.iload_n 2, 1) := by decide +kernel
theorem dX11_in_7 : decode cX11_in 7 = .ok (.if_icmp .gt 7, 3) := by decide +kernel
theorem dX11_in_10 : decode cX11_in 10 = .ok (.iconst 1, 1) := by decide +kernel
theorem dX11_in_11 : decode cX11_in 11 = .ok (.goto 4, 3) := by decide +kernel
theorem dX11_in_14 : decode cX11_in 14 = .ok (.iconst 0, 1) := by decide +kernel
theorem dX11_in_15 : decode cX11_in 15 = .ok (.ireturn, 1) := by decide +kernel
theorem dX11_feed_0 : decode cX11_feed 0 = .ok (.aload_n 0, 1) := by decide +kernel
theorem dX11_feed_1 : decode cX11_feed 1 = .ok (.getfield 119, 3) := by decide +kernel
theorem dX11_feed_4 : decode cX11_feed 4 = .ok (.bipush 20, 2) := by decide +kernel
theorem dX11_feed_6 : decode cX11_feed 6 = .ok (.iadd, 1) := by decide +kernel
theorem dX11_feed_7 : decode cX11_feed 7 = .ok (.sipush 1200, 3) := by decide +kernel
theorem dX11_feed_10 : decode cX11_feed 10 = .ok (.if_icmp .le 6, 3) := by decide +kernel
theorem dX11_feed_13 : decode cX11_feed 13 = .ok (.bipush (-3), 2) := by decide +kernel
theorem dX11_feed_15 : decode cX11_feed 15 = .ok (.ireturn, 1) := by decide +kernel
theorem dX11_feed_16 : decode cX11_feed 16 = .ok (.iconst 0, 1) := by decide +kernel
theorem dX11_feed_17 : decode cX11_feed 17 = .ok (.istore 6, 2) := by decide +kernel
theorem dX11_feed_19 : decode cX11_feed 19 = .ok (.iload 6, 2) := by decide +kernel
theorem dX11_feed_21 : decode cX11_feed 21 = .ok (.iconst 5, 1) := by decide +kernel
theorem dX11_feed_22 : decode cX11_feed 22 = .ok (.if_icmp .ge 93, 3) := by decide +kernel
theorem dX11_feed_25 : decode cX11_feed 25 = .ok (.iload 6, 2) := by decide +kernel
theorem dX11_feed_27 : decode cX11_feed 27 = .ok (.ifCond .ne 7, 3) := by decide +kernel
theorem dX11_feed_30 : decode cX11_feed 30 = .ok (.iload_n 1, 1) := by decide +kernel
theorem dX11_feed_31 : decode cX11_feed 31 = .ok (.goto 36, 3) := by decide +kernel
theorem dX11_feed_34 : decode cX11_feed 34 = .ok (.iload 6, 2) := by decide +kernel
theorem dX11_feed_36 : decode cX11_feed 36 = .ok (.iconst 1, 1) := by decide +kernel
theorem dX11_feed_37 : decode cX11_feed 37 = .ok (.if_icmp .ne 7, 3) := by decide +kernel
theorem dX11_feed_40 : decode cX11_feed 40 = .ok (.iload_n 2, 1) := by decide +kernel
theorem dX11_feed_41 : decode cX11_feed 41 = .ok (.goto 26, 3) := by decide +kernel
theorem dX11_feed_44 : decode cX11_feed 44 = .ok (.iload 6, 2) := by decide +kernel
theorem dX11_feed_46 : decode cX11_feed 46 = .ok (.iconst 2, 1) := by decide +kernel
theorem dX11_feed_47 : decode cX11_feed 47 = .ok (.if_icmp .ne 7, 3) := by decide +kernel
theorem dX11_feed_50 : decode cX11_feed 50 = .ok (.iload_n 3, 1) := by decide +kernel
theorem dX11_feed_51 : decode cX11_feed 51 = .ok (.goto 16, 3) := by decide +kernel
theorem dX11_feed_54 : decode cX11_feed 54 = .ok (.iload 6, 2) := by decide +kernel
theorem dX11_feed_56 : decode cX11_feed 56 = .ok (.iconst 3, 1) := by decide +kernel
theorem dX11_feed_57 : decode cX11_feed 57 = .ok (.if_icmp .ne 8, 3) := by decide +kernel
theorem dX11_feed_60 : decode cX11_feed 60 = .ok (.iload 4, 2) := by decide +kernel
theorem dX11_feed_62 : decode cX11_feed 62 = .ok (.goto 5, 3) := by decide +kernel
theorem dX11_feed_65 : decode cX11_feed 65 = .ok (.iload 5, 2) := by decide +kernel
theorem dX11_feed_67 : decode cX11_feed 67 = .ok (.istore 7, 2) := by decide +kernel
theorem dX11_feed_69 : decode cX11_feed 69 = .ok (.bipush 24, 2) := by decide +kernel
theorem dX11_feed_71 : decode cX11_feed 71 = .ok (.istore 8, 2) := by decide +kernel
theorem dX11_feed_73 : decode cX11_feed 73 = .ok (.iload 8, 2) := by decide +kernel
theorem dX11_feed_75 : decode cX11_feed 75 = .ok (.ifCond .lt 34, 3) := by decide +kernel
theorem dX11_feed_78 : decode cX11_feed 78 = .ok (.aload_n 0, 1) := by decide +kernel
theorem dX11_feed_79 : decode cX11_feed 79 = .ok (.getfield 7, 3) := by decide +kernel
theorem dX11_feed_82 : decode cX11_feed 82 = .ok (.aload_n 0, 1) := by decide +kernel
theorem dX11_feed_83 : decode cX11_feed 83 = .ok (.getfield 119, 3) := by decide +kernel
theorem dX11_feed_86 : decode cX11_feed 86 = .ok (.iload 7, 2) := by decide +kernel
theorem dX11_feed_88 : decode cX11_feed 88 = .ok (.iload 8, 2) := by decide +kernel
theorem dX11_feed_90 : decode cX11_feed 90 = .ok (.ishr, 1) := by decide +kernel
theorem dX11_feed_91 : decode cX11_feed 91 = .ok (.i2b, 1) := by decide +kernel
theorem dX11_feed_92 : decode cX11_feed 92 = .ok (.bastore, 1) := by decide +kernel
theorem dX11_feed_93 : decode cX11_feed 93 = .ok (.aload_n 0, 1) := by decide +kernel
theorem dX11_feed_94 : decode cX11_feed 94 = .ok (.dup, 1) := by decide +kernel
theorem dX11_feed_95 : decode cX11_feed 95 = .ok (.getfield 119, 3) := by decide +kernel
theorem dX11_feed_98 : decode cX11_feed 98 = .ok (.iconst 1, 1) := by decide +kernel
theorem dX11_feed_99 : decode cX11_feed 99 = .ok (.iadd, 1) := by decide +kernel
theorem dX11_feed_100 : decode cX11_feed 100 = .ok (.putfield 119, 3) := by decide +kernel
theorem dX11_feed_103 : decode cX11_feed 103 = .ok (.iinc 8 (-8), 3) := by decide +kernel
theorem dX11_feed_106 : decode cX11_feed 106 = .ok (.goto (-33), 3) := by decide +kernel
theorem dX11_feed_109 : decode cX11_feed 109 = .ok (.iinc 6 1, 3) := by decide +kernel
theorem dX11_feed_112 : decode cX11_feed 112 = .ok (.goto (-93), 3) := by decide +kernel
theorem dX11_feed_115 : decode cX11_feed 115 = .ok (.aload_n 0, 1) := by decide +kernel
theorem dX11_feed_116 : decode cX11_feed 116 = .ok (.getfield 119, 3) := by decide +kernel
theorem dX11_feed_119 : decode cX11_feed 119 = .ok (.ireturn, 1) := by decide +kernel
theorem dX11_end_0 : decode cX11_end 0 = .ok (.iload_n 1, 1) := by decide +kernel
theorem dX11_end_1 : decode cX11_end 1 = .ok (.ifCond .lt 11, 3) := by decide +kernel
theorem dX11_end_4 : decode cX11_end 4 = .ok (.iload_n 1, 1) := by decide +kernel
theorem dX11_end_5 : decode cX11_end 5 = .ok (.aload_n 0, 1) := by decide +kernel
theorem dX11_end_6 : decode cX11_end 6 = .ok (.getfield 119, 3) := by decide +kernel
theorem dX11_end_9 : decode cX11_end 9 = .ok (.if_icmp .le 5, 3) := by decide +kernel
theorem dX11_end_12 : decode cX11_end 12 = .ok (.iconst (-1), 1) := by decide +kernel
theorem dX11_end_13 : decode cX11_end 13 = .ok (.ireturn, 1) := by decide +kernel
theorem dX11_end_14 : decode cX11_end 14 = .ok (.aload_n 0, 1) := by decide +kernel
theorem dX11_end_15 : decode cX11_end 15 = .ok (.iload_n 1, 1) := by decide +kernel
theorem dX11_end_16 : decode cX11_end 16 = .ok (.putfield 119, 3) := by decide +kernel
theorem dX11_end_19 : decode cX11_end 19 = .ok (.iload_n 1, 1) := by decide +kernel
theorem dX11_end_20 : decode cX11_end 20 = .ok (.ireturn, 1) := by decide +kernel
theorem dX11_see_0 : decode cX11_see 0 = .ok (.iload_n 1, 1) := by decide +kernel
theorem dX11_see_1 : decode cX11_see 1 = .ok (.aload_n 0, 1) := by decide +kernel
theorem dX11_see_2 : decode cX11_see 2 = .ok (.getfield 122, 3) := by decide +kernel
theorem dX11_see_5 : decode cX11_see 5 = .ok (.if_icmp .ge 16, 3) := by decide +kernel
theorem dX11_see_8 : decode cX11_see 8 = .ok (.aload_n 0, 1) := by decide +kernel
theorem dX11_see_9 : decode cX11_see 9 = .ok (.getfield 7, 3) := by decide +kernel
theorem dX11_see_12 : decode cX11_see 12 = .ok (.iload_n 1, 1) := by decide +kernel
theorem dX11_see_13 : decode cX11_see 13 = .ok (.baload, 1) := by decide +kernel
theorem dX11_see_14 : decode cX11_see 14 = .ok (.sipush 255, 3) := by decide +kernel
theorem dX11_see_17 : decode cX11_see 17 = .ok (.iand, 1) := by decide +kernel
theorem dX11_see_18 : decode cX11_see 18 = .ok (.goto 4, 3) := by decide +kernel
theorem dX11_see_21 : decode cX11_see 21 = .ok (.iconst (-1), 1) := by decide +kernel
theorem dX11_see_22 : decode cX11_see 22 = .ok (.ireturn, 1) := by decide +kernel
theorem dX11_isSmall_0 : decode cX11_isSmall 0 = .ok (.iload_n 0, 1) := by decide +kernel
theorem dX11_isSmall_1 : decode cX11_isSmall 1 = .ok (.bipush 97, 2) := by decide +kernel
theorem dX11_isSmall_3 : decode cX11_isSmall 3 = .ok (.if_icmp .lt 13, 3) := by decide +kernel
theorem dX11_isSmall_6 : decode cX11_isSmall 6 = .ok (.iload_n 0, 1) := by decide +kernel
theorem dX11_isSmall_7 : decode cX11_isSmall 7 = .ok (.bipush 122, 2) := by decide +kernel
theorem dX11_isSmall_9 : decode cX11_isSmall 9 = .ok (.if_icmp .gt 7, 3) := by decide +kernel
theorem dX11_isSmall_12 : decode cX11_isSmall 12 = .ok (.iconst 1, 1) := by decide +kernel
theorem dX11_isSmall_13 : decode cX11_isSmall 13 = .ok (.goto 4, 3) := by decide +kernel
theorem dX11_isSmall_16 : decode cX11_isSmall 16 = .ok (.iconst 0, 1) := by decide +kernel
theorem dX11_isSmall_17 : decode cX11_isSmall 17 = .ok (.ireturn, 1) := by decide +kernel
theorem dX11_isDigit_0 : decode cX11_isDigit 0 = .ok (.iload_n 0, 1) := by decide +kernel
theorem dX11_isDigit_1 : decode cX11_isDigit 1 = .ok (.bipush 48, 2) := by decide +kernel
theorem dX11_isDigit_3 : decode cX11_isDigit 3 = .ok (.if_icmp .lt 13, 3) := by decide +kernel
theorem dX11_isDigit_6 : decode cX11_isDigit 6 = .ok (.iload_n 0, 1) := by decide +kernel
theorem dX11_isDigit_7 : decode cX11_isDigit 7 = .ok (.bipush 57, 2) := by decide +kernel
theorem dX11_isDigit_9 : decode cX11_isDigit 9 = .ok (.if_icmp .gt 7, 3) := by decide +kernel
theorem dX11_isDigit_12 : decode cX11_isDigit 12 = .ok (.iconst 1, 1) := by decide +kernel
theorem dX11_isDigit_13 : decode cX11_isDigit 13 = .ok (.goto 4, 3) := by decide +kernel
theorem dX11_isDigit_16 : decode cX11_isDigit 16 = .ok (.iconst 0, 1) := by decide +kernel
theorem dX11_isDigit_17 : decode cX11_isDigit 17 = .ok (.ireturn, 1) := by decide +kernel
theorem dX11_keyOf_0 : decode cX11_keyOf 0 = .ok (.aload_n 0, 1) := by decide +kernel
theorem dX11_keyOf_1 : decode cX11_keyOf 1 = .ok (.getfield 125, 3) := by decide +kernel
theorem dX11_keyOf_4 : decode cX11_keyOf 4 = .ok (.iconst 1, 1) := by decide +kernel
theorem dX11_keyOf_5 : decode cX11_keyOf 5 = .ok (.if_icmp .eq 5, 3) := by decide +kernel
theorem dX11_keyOf_8 : decode cX11_keyOf 8 = .ok (.iconst (-1), 1) := by decide +kernel
theorem dX11_keyOf_9 : decode cX11_keyOf 9 = .ok (.ireturn, 1) := by decide +kernel
theorem dX11_keyOf_10 : decode cX11_keyOf 10 = .ok (.iconst 0, 1) := by decide +kernel
theorem dX11_keyOf_11 : decode cX11_keyOf 11 = .ok (.istore_n 2, 1) := by decide +kernel
theorem dX11_keyOf_12 : decode cX11_keyOf 12 = .ok (.iconst 0, 1) := by decide +kernel
theorem dX11_keyOf_13 : decode cX11_keyOf 13 = .ok (.istore_n 3, 1) := by decide +kernel
theorem dX11_keyOf_14 : decode cX11_keyOf 14 = .ok (.iconst 0, 1) := by decide +kernel
theorem dX11_keyOf_15 : decode cX11_keyOf 15 = .ok (.istore 4, 2) := by decide +kernel
theorem dX11_keyOf_17 : decode cX11_keyOf 17 = .ok (.iload 4, 2) := by decide +kernel
theorem dX11_keyOf_19 : decode cX11_keyOf 19 = .ok (.aload_n 1, 1) := by decide +kernel
theorem dX11_keyOf_20 : decode cX11_keyOf 20 = .ok (.invokevirtual 128, 3) := by decide +kernel
theorem dX11_keyOf_23 : decode cX11_keyOf 23 = .ok (.if_icmp .ge 118, 3) := by decide +kernel
theorem dX11_keyOf_26 : decode cX11_keyOf 26 = .ok (.aload_n 1, 1) := by decide +kernel
theorem dX11_keyOf_27 : decode cX11_keyOf 27 = .ok (.iload 4, 2) := by decide +kernel
theorem dX11_keyOf_29 : decode cX11_keyOf 29 = .ok (.invokevirtual 134, 3) := by decide +kernel
theorem dX11_keyOf_32 : decode cX11_keyOf 32 = .ok (.bipush 32, 2) := by decide +kernel
theorem dX11_keyOf_34 : decode cX11_keyOf 34 = .ok (.if_icmp .eq 6, 3) := by decide +kernel
theorem dX11_keyOf_37 : decode cX11_keyOf 37 = .ok (.goto 98, 3) := by decide +kernel
theorem dX11_keyOf_40 : decode cX11_keyOf 40 = .ok (.iload 4, 2) := by decide +kernel
theorem dX11_keyOf_42 : decode cX11_keyOf 42 = .ok (.iload_n 3, 1) := by decide +kernel
theorem dX11_keyOf_43 : decode cX11_keyOf 43 = .ok (.isub, 1) := by decide +kernel
theorem dX11_keyOf_44 : decode cX11_keyOf 44 = .ok (.aload_n 0, 1) := by decide +kernel
theorem dX11_keyOf_45 : decode cX11_keyOf 45 = .ok (.getfield 138, 3) := by decide +kernel
theorem dX11_keyOf_48 : decode cX11_keyOf 48 = .ok (.aload_n 0, 1) := by decide +kernel
theorem dX11_keyOf_49 : decode cX11_keyOf 49 = .ok (.getfield 141, 3) := by decide +kernel
theorem dX11_keyOf_52 : decode cX11_keyOf 52 = .ok (.isub, 1) := by decide +kernel
theorem dX11_keyOf_53 : decode cX11_keyOf 53 = .ok (.if_icmp .ne 7, 3) := by decide +kernel
theorem dX11_keyOf_56 : decode cX11_keyOf 56 = .ok (.iconst 1, 1) := by decide +kernel
theorem dX11_keyOf_57 : decode cX11_keyOf 57 = .ok (.goto 4, 3) := by decide +kernel
theorem dX11_keyOf_60 : decode cX11_keyOf 60 = .ok (.iconst 0, 1) := by decide +kernel
theorem dX11_keyOf_61 : decode cX11_keyOf 61 = .ok (.istore 5, 2) := by decide +kernel
theorem dX11_keyOf_63 : decode cX11_keyOf 63 = .ok (.iconst 0, 1) := by decide +kernel
theorem dX11_keyOf_64 : decode cX11_keyOf 64 = .ok (.istore 6, 2) := by decide +kernel
theorem dX11_keyOf_66 : decode cX11_keyOf 66 = .ok (.iload 6, 2) := by decide +kernel
theorem dX11_keyOf_68 : decode cX11_keyOf 68 = .ok (.aload_n 0, 1) := by decide +kernel
theorem dX11_keyOf_69 : decode cX11_keyOf 69 = .ok (.getfield 138, 3) := by decide +kernel
theorem dX11_keyOf_72 : decode cX11_keyOf 72 = .ok (.aload_n 0, 1) := by decide +kernel
theorem dX11_keyOf_73 : decode cX11_keyOf 73 = .ok (.getfield 141, 3) := by decide +kernel
theorem dX11_keyOf_76 : decode cX11_keyOf 76 = .ok (.isub, 1) := by decide +kernel
theorem dX11_keyOf_77 : decode cX11_keyOf 77 = .ok (.if_icmp .ge 43, 3) := by decide +kernel
theorem dX11_keyOf_80 : decode cX11_keyOf 80 = .ok (.iload 5, 2) := by decide +kernel
theorem dX11_keyOf_82 : decode cX11_keyOf 82 = .ok (.ifCond .eq 38, 3) := by decide +kernel
theorem dX11_keyOf_85 : decode cX11_keyOf 85 = .ok (.aload_n 1, 1) := by decide +kernel
theorem dX11_keyOf_86 : decode cX11_keyOf 86 = .ok (.iload_n 3, 1) := by decide +kernel
theorem dX11_keyOf_87 : decode cX11_keyOf 87 = .ok (.iload 6, 2) := by decide +kernel
theorem dX11_keyOf_89 : decode cX11_keyOf 89 = .ok (.iadd, 1) := by decide +kernel
theorem dX11_keyOf_90 : decode cX11_keyOf 90 = .ok (.invokevirtual 134, 3) := by decide +kernel
theorem dX11_keyOf_93 : decode cX11_keyOf 93 = .ok (.aload_n 0, 1) := by decide +kernel
theorem dX11_keyOf_94 : decode cX11_keyOf 94 = .ok (.aload_n 0, 1) := by decide +kernel
theorem dX11_keyOf_95 : decode cX11_keyOf 95 = .ok (.getfield 141, 3) := by decide +kernel
theorem dX11_keyOf_98 : decode cX11_keyOf 98 = .ok (.iload 6, 2) := by decide +kernel
theorem dX11_keyOf_100 : decode cX11_keyOf 100 = .ok (.iadd, 1) := by decide +kernel
theorem dX11_keyOf_101 : decode cX11_keyOf 101 = .ok (.invokevirtual 144, 3) := by decide +kernel
theorem dX11_keyOf_104 : decode cX11_keyOf 104 = .ok (.if_icmp .ne 7, 3) := by decide +kernel
theorem dX11_keyOf_107 : decode cX11_keyOf 107 = .ok (.iconst 1, 1) := by decide +kernel
theorem dX11_keyOf_108 : decode cX11_keyOf 108 = .ok (.goto 4, 3) := by decide +kernel
theorem dX11_keyOf_111 : decode cX11_keyOf 111 = .ok (.iconst 0, 1) := by decide +kernel
theorem dX11_keyOf_112 : decode cX11_keyOf 112 = .ok (.istore 5, 2) := by decide +kernel
theorem dX11_keyOf_114 : decode cX11_keyOf 114 = .ok (.iinc 6 1, 3) := by decide +kernel
theorem dX11_keyOf_117 : decode cX11_keyOf 117 = .ok (.goto (-51), 3) := by decide +kernel
theorem dX11_keyOf_120 : decode cX11_keyOf 120 = .ok (.iload 5, 2) := by decide +kernel
theorem dX11_keyOf_122 : decode cX11_keyOf 122 = .ok (.ifCond .eq 5, 3) := by decide +kernel
theorem dX11_keyOf_125 : decode cX11_keyOf 125 = .ok (.iload_n 2, 1) := by decide +kernel
theorem dX11_keyOf_126 : decode cX11_keyOf 126 = .ok (.ireturn, 1) := by decide +kernel
theorem dX11_keyOf_127 : decode cX11_keyOf 127 = .ok (.iinc 2 1, 3) := by decide +kernel
theorem dX11_keyOf_130 : decode cX11_keyOf 130 = .ok (.iload 4, 2) := by decide +kernel
theorem dX11_keyOf_132 : decode cX11_keyOf 132 = .ok (.iconst 1, 1) := by decide +kernel
theorem dX11_keyOf_133 : decode cX11_keyOf 133 = .ok (.iadd, 1) := by decide +kernel
theorem dX11_keyOf_134 : decode cX11_keyOf 134 = .ok (.istore_n 3, 1) := by decide +kernel
theorem dX11_keyOf_135 : decode cX11_keyOf 135 = .ok (.iinc 4 1, 3) := by decide +kernel
theorem dX11_keyOf_138 : decode cX11_keyOf 138 = .ok (.goto (-121), 3) := by decide +kernel
theorem dX11_keyOf_141 : decode cX11_keyOf 141 = .ok (.iconst (-1), 1) := by decide +kernel
theorem dX11_keyOf_142 : decode cX11_keyOf 142 = .ok (.ireturn, 1) := by decide +kernel
theorem dX11_scan_0 : decode cX11_scan 0 = .ok (.aload_n 0, 1) := by decide +kernel
theorem dX11_scan_1 : decode cX11_scan 1 = .ok (.getfield 138, 3) := by decide +kernel
theorem dX11_scan_4 : decode cX11_scan 4 = .ok (.istore_n 1, 1) := by decide +kernel
theorem dX11_scan_5 : decode cX11_scan 5 = .ok (.aload_n 0, 1) := by decide +kernel
theorem dX11_scan_6 : decode cX11_scan 6 = .ok (.iload_n 1, 1) := by decide +kernel
theorem dX11_scan_7 : decode cX11_scan 7 = .ok (.invokevirtual 144, 3) := by decide +kernel
theorem dX11_scan_10 : decode cX11_scan 10 = .ok (.bipush 32, 2) := by decide +kernel
theorem dX11_scan_12 : decode cX11_scan 12 = .ok (.if_icmp .eq 13, 3) := by decide +kernel
theorem dX11_scan_15 : decode cX11_scan 15 = .ok (.aload_n 0, 1) := by decide +kernel
theorem dX11_scan_16 : decode cX11_scan 16 = .ok (.iload_n 1, 1) := by decide +kernel
theorem dX11_scan_17 : decode cX11_scan 17 = .ok (.invokevirtual 144, 3) := by decide +kernel
theorem dX11_scan_20 : decode cX11_scan 20 = .ok (.bipush 10, 2) := by decide +kernel
theorem dX11_scan_22 : decode cX11_scan 22 = .ok (.if_icmp .ne 9, 3) := by decide +kernel
theorem dX11_scan_25 : decode cX11_scan 25 = .ok (.iinc 1 1, 3) := by decide +kernel
theorem dX11_scan_28 : decode cX11_scan 28 = .ok (.goto (-23), 3) := by decide +kernel
theorem dX11_scan_31 : decode cX11_scan 31 = .ok (.aload_n 0, 1) := by decide +kernel
theorem dX11_scan_32 : decode cX11_scan 32 = .ok (.iload_n 1, 1) := by decide +kernel
theorem dX11_scan_33 : decode cX11_scan 33 = .ok (.putfield 141, 3) := by decide +kernel
theorem dX11_scan_36 : decode cX11_scan 36 = .ok (.aload_n 0, 1) := by decide +kernel
theorem dX11_scan_37 : decode cX11_scan 37 = .ok (.iload_n 1, 1) := by decide +kernel
theorem dX11_scan_38 : decode cX11_scan 38 = .ok (.invokevirtual 144, 3) := by decide +kernel
theorem dX11_scan_41 : decode cX11_scan 41 = .ok (.istore_n 2, 1) := by decide +kernel
theorem dX11_scan_42 : decode cX11_scan 42 = .ok (.iload_n 1, 1) := by decide +kernel
theorem dX11_scan_43 : decode cX11_scan 43 = .ok (.iconst 1, 1) := by decide +kernel
theorem dX11_scan_44 : decode cX11_scan 44 = .ok (.iadd, 1) := by decide +kernel
theorem dX11_scan_45 : decode cX11_scan 45 = .ok (.istore_n 3, 1) := by decide +kernel
theorem dX11_scan_46 : decode cX11_scan 46 = .ok (.iload_n 2, 1) := by decide +kernel
theorem dX11_scan_47 : decode cX11_scan 47 = .ok (.iconst (-1), 1) := by decide +kernel
theorem dX11_scan_48 : decode cX11_scan 48 = .ok (.if_icmp .ne 13, 3) := by decide +kernel
theorem dX11_scan_51 : decode cX11_scan 51 = .ok (.aload_n 0, 1) := by decide +kernel
theorem dX11_scan_52 : decode cX11_scan 52 = .ok (.iconst 4, 1) := by decide +kernel
theorem dX11_scan_53 : decode cX11_scan 53 = .ok (.putfield 125, 3) := by decide +kernel
theorem dX11_scan_56 : decode cX11_scan 56 = .ok (.iload_n 1, 1) := by decide +kernel
theorem dX11_scan_57 : decode cX11_scan 57 = .ok (.istore_n 3, 1) := by decide +kernel
theorem dX11_scan_58 : decode cX11_scan 58 = .ok (.goto 207, 3) := by decide +kernel
theorem dX11_scan_61 : decode cX11_scan 61 = .ok (.iload_n 2, 1) := by decide +kernel
theorem dX11_scan_62 : decode cX11_scan 62 = .ok (.invokestatic 148, 3) := by decide +kernel
theorem dX11_scan_65 : decode cX11_scan 65 = .ok (.ifCond .eq 80, 3) := by decide +kernel
theorem dX11_scan_68 : decode cX11_scan 68 = .ok (.aload_n 0, 1) := by decide +kernel
theorem dX11_scan_69 : decode cX11_scan 69 = .ok (.lconst 0, 1) := by decide +kernel
theorem dX11_scan_70 : decode cX11_scan 70 = .ok (.putfield 152, 3) := by decide +kernel
theorem dX11_scan_73 : decode cX11_scan 73 = .ok (.iload_n 1, 1) := by decide +kernel
theorem dX11_scan_74 : decode cX11_scan 74 = .ok (.istore_n 3, 1) := by decide +kernel
theorem dX11_scan_75 : decode cX11_scan 75 = .ok (.aload_n 0, 1) := by decide +kernel
theorem dX11_scan_76 : decode cX11_scan 76 = .ok (.iload_n 3, 1) := by decide +kernel
theorem dX11_scan_77 : decode cX11_scan 77 = .ok (.invokevirtual 144, 3) := by decide +kernel
theorem dX11_scan_80 : decode cX11_scan 80 = .ok (.invokestatic 148, 3) := by decide +kernel
theorem dX11_scan_83 : decode cX11_scan 83 = .ok (.ifCond .eq 42, 3) := by decide +kernel
theorem dX11_scan_86 : decode cX11_scan 86 = .ok (.iload_n 3, 1) := by decide +kernel
theorem dX11_scan_87 : decode cX11_scan 87 = .ok (.iload_n 1, 1) := by decide +kernel
theorem dX11_scan_88 : decode cX11_scan 88 = .ok (.isub, 1) := by decide +kernel
theorem dX11_scan_89 : decode cX11_scan 89 = .ok (.bipush 6, 2) := by decide +kernel
theorem dX11_scan_91 : decode cX11_scan 91 = .ok (.if_icmp .ge 28, 3) := by decide +kernel
theorem dX11_scan_94 : decode cX11_scan 94 = .ok (.aload_n 0, 1) := by decide +kernel
theorem dX11_scan_95 : decode cX11_scan 95 = .ok (.ldc2_w 156, 3) := by decide +kernel
theorem dX11_scan_98 : decode cX11_scan 98 = .ok (.aload_n 0, 1) := by decide +kernel
theorem dX11_scan_99 : decode cX11_scan 99 = .ok (.getfield 152, 3) := by decide +kernel
theorem dX11_scan_102 : decode cX11_scan 102 = .ok (.lmul, 1) := by decide +kernel
theorem dX11_scan_103 : decode cX11_scan 103 = .ok (.aload_n 0, 1) := by decide +kernel
theorem dX11_scan_104 : decode cX11_scan 104 = .ok (.iload_n 3, 1) := by decide +kernel
theorem dX11_scan_105 : decode cX11_scan 105 = .ok (.invokevirtual 144, 3) := by decide +kernel
theorem dX11_scan_108 : decode cX11_scan 108 = .ok (.i2l, 1) := by decide +kernel
theorem dX11_scan_109 : decode cX11_scan 109 = .ok (.ladd, 1) := by decide +kernel
theorem dX11_scan_110 : decode cX11_scan 110 = .ok (.ldc2_w 158, 3) := by decide +kernel
theorem dX11_scan_113 : decode cX11_scan 113 = .ok (.lsub, 1) := by decide +kernel
theorem dX11_scan_114 : decode cX11_scan 114 = .ok (.lconst 1, 1) := by decide +kernel
theorem dX11_scan_115 : decode cX11_scan 115 = .ok (.ladd, 1) := by decide +kernel
theorem dX11_scan_116 : decode cX11_scan 116 = .ok (.putfield 152, 3) := by decide +kernel
theorem dX11_scan_119 : decode cX11_scan 119 = .ok (.iinc 3 1, 3) := by decide +kernel
theorem dX11_scan_122 : decode cX11_scan 122 = .ok (.goto (-47), 3) := by decide +kernel
theorem dX11_scan_125 : decode cX11_scan 125 = .ok (.aload_n 0, 1) := by decide +kernel
theorem dX11_scan_126 : decode cX11_scan 126 = .ok (.iload_n 3, 1) := by decide +kernel
theorem dX11_scan_127 : decode cX11_scan 127 = .ok (.iload_n 1, 1) := by decide +kernel
theorem dX11_scan_128 : decode cX11_scan 128 = .ok (.isub, 1) := by decide +kernel
theorem dX11_scan_129 : decode cX11_scan 129 = .ok (.bipush 6, 2) := by decide +kernel
theorem dX11_scan_131 : decode cX11_scan 131 = .ok (.if_icmp .le 7, 3) := by decide +kernel
theorem dX11_scan_134 : decode cX11_scan 134 = .ok (.iconst 0, 1) := by decide +kernel
theorem dX11_scan_135 : decode cX11_scan 135 = .ok (.goto 4, 3) := by decide +kernel
theorem dX11_scan_138 : decode cX11_scan 138 = .ok (.iconst 1, 1) := by decide +kernel
theorem dX11_scan_139 : decode cX11_scan 139 = .ok (.putfield 125, 3) := by decide +kernel
theorem dX11_scan_142 : decode cX11_scan 142 = .ok (.goto 123, 3) := by decide +kernel
theorem dX11_scan_145 : decode cX11_scan 145 = .ok (.iload_n 2, 1) := by decide +kernel
theorem dX11_scan_146 : decode cX11_scan 146 = .ok (.invokestatic 160, 3) := by decide +kernel
theorem dX11_scan_149 : decode cX11_scan 149 = .ok (.ifCond .eq 83, 3) := by decide +kernel
theorem dX11_scan_152 : decode cX11_scan 152 = .ok (.aload_n 0, 1) := by decide +kernel
theorem dX11_scan_153 : decode cX11_scan 153 = .ok (.iload_n 2, 1) := by decide +kernel
theorem dX11_scan_154 : decode cX11_scan 154 = .ok (.bipush 48, 2) := by decide +kernel
theorem dX11_scan_156 : decode cX11_scan 156 = .ok (.isub, 1) := by decide +kernel
theorem dX11_scan_157 : decode cX11_scan 157 = .ok (.putfield 163, 3) := by decide +kernel
theorem dX11_scan_160 : decode cX11_scan 160 = .ok (.aload_n 0, 1) := by decide +kernel
theorem dX11_scan_161 : decode cX11_scan 161 = .ok (.iload_n 3, 1) := by decide +kernel
theorem dX11_scan_162 : decode cX11_scan 162 = .ok (.invokevirtual 144, 3) := by decide +kernel
theorem dX11_scan_165 : decode cX11_scan 165 = .ok (.invokestatic 160, 3) := by decide +kernel
theorem dX11_scan_168 : decode cX11_scan 168 = .ok (.ifCond .eq 44, 3) := by decide +kernel
theorem dX11_scan_171 : decode cX11_scan 171 = .ok (.aload_n 0, 1) := by decide +kernel
theorem dX11_scan_172 : decode cX11_scan 172 = .ok (.iload_n 3, 1) := by decide +kernel
theorem dX11_scan_173 : decode cX11_scan 173 = .ok (.iload_n 1, 1) := by decide +kernel
theorem dX11_scan_174 : decode cX11_scan 174 = .ok (.isub, 1) := by decide +kernel
theorem dX11_scan_175 : decode cX11_scan 175 = .ok (.bipush 9, 2) := by decide +kernel
theorem dX11_scan_177 : decode cX11_scan 177 = .ok (.if_icmp .ge 22, 3) := by decide +kernel
theorem dX11_scan_180 : decode cX11_scan 180 = .ok (.bipush 10, 2) := by decide +kernel
theorem dX11_scan_182 : decode cX11_scan 182 = .ok (.aload_n 0, 1) := by decide +kernel
theorem dX11_scan_183 : decode cX11_scan 183 = .ok (.getfield 163, 3) := by decide +kernel
theorem dX11_scan_186 : decode cX11_scan 186 = .ok (.imul, 1) := by decide +kernel
theorem dX11_scan_187 : decode cX11_scan 187 = .ok (.aload_n 0, 1) := by decide +kernel
theorem dX11_scan_188 : decode cX11_scan 188 = .ok (.iload_n 3, 1) := by decide +kernel
theorem dX11_scan_189 : decode cX11_scan 189 = .ok (.invokevirtual 144, 3) := by decide +kernel
theorem dX11_scan_192 : decode cX11_scan 192 = .ok (.iadd, 1) := by decide +kernel
theorem dX11_scan_193 : decode cX11_scan 193 = .ok (.bipush 48, 2) := by decide +kernel
theorem dX11_scan_195 : decode cX11_scan 195 = .ok (.isub, 1) := by decide +kernel
theorem dX11_scan_196 : decode cX11_scan 196 = .ok (.goto 7, 3) := by decide +kernel
theorem dX11_scan_199 : decode cX11_scan 199 = .ok (.aload_n 0, 1) := by decide +kernel
theorem dX11_scan_200 : decode cX11_scan 200 = .ok (.getfield 163, 3) := by decide +kernel
theorem dX11_scan_203 : decode cX11_scan 203 = .ok (.putfield 163, 3) := by decide +kernel
theorem dX11_scan_206 : decode cX11_scan 206 = .ok (.iinc 3 1, 3) := by decide +kernel
theorem dX11_scan_209 : decode cX11_scan 209 = .ok (.goto (-49), 3) := by decide +kernel
theorem dX11_scan_212 : decode cX11_scan 212 = .ok (.aload_n 0, 1) := by decide +kernel
theorem dX11_scan_213 : decode cX11_scan 213 = .ok (.iload_n 3, 1) := by decide +kernel
theorem dX11_scan_214 : decode cX11_scan 214 = .ok (.iload_n 1, 1) := by decide +kernel
theorem dX11_scan_215 : decode cX11_scan 215 = .ok (.isub, 1) := by decide +kernel
theorem dX11_scan_216 : decode cX11_scan 216 = .ok (.bipush 9, 2) := by decide +kernel
theorem dX11_scan_218 : decode cX11_scan 218 = .ok (.if_icmp .le 7, 3) := by decide +kernel
theorem dX11_scan_221 : decode cX11_scan 221 = .ok (.iconst 0, 1) := by decide +kernel
theorem dX11_scan_222 : decode cX11_scan 222 = .ok (.goto 4, 3) := by decide +kernel
theorem dX11_scan_225 : decode cX11_scan 225 = .ok (.iconst 2, 1) := by decide +kernel
theorem dX11_scan_226 : decode cX11_scan 226 = .ok (.putfield 125, 3) := by decide +kernel
theorem dX11_scan_229 : decode cX11_scan 229 = .ok (.goto 36, 3) := by decide +kernel
theorem dX11_scan_232 : decode cX11_scan 232 = .ok (.aload_n 0, 1) := by decide +kernel
theorem dX11_scan_233 : decode cX11_scan 233 = .ok (.iload_n 2, 1) := by decide +kernel
theorem dX11_scan_234 : decode cX11_scan 234 = .ok (.bipush 58, 2) := by decide +kernel
theorem dX11_scan_236 : decode cX11_scan 236 = .ok (.if_icmp .eq 21, 3) := by decide +kernel
theorem dX11_scan_239 : decode cX11_scan 239 = .ok (.iload_n 2, 1) := by decide +kernel
theorem dX11_scan_240 : decode cX11_scan 240 = .ok (.bipush 59, 2) := by decide +kernel
theorem dX11_scan_242 : decode cX11_scan 242 = .ok (.if_icmp .eq 15, 3) := by decide +kernel
theorem dX11_scan_245 : decode cX11_scan 245 = .ok (.iload_n 2, 1) := by decide +kernel
theorem dX11_scan_246 : decode cX11_scan 246 = .ok (.bipush 61, 2) := by decide +kernel
theorem dX11_scan_248 : decode cX11_scan 248 = .ok (.if_icmp .eq 9, 3) := by decide +kernel
theorem dX11_scan_251 : decode cX11_scan 251 = .ok (.iload_n 2, 1) := by decide +kernel
theorem dX11_scan_252 : decode cX11_scan 252 = .ok (.bipush 45, 2) := by decide +kernel
theorem dX11_scan_254 : decode cX11_scan 254 = .ok (.if_icmp .ne 7, 3) := by decide +kernel
theorem dX11_scan_257 : decode cX11_scan 257 = .ok (.iconst 3, 1) := by decide +kernel
theorem dX11_scan_258 : decode cX11_scan 258 = .ok (.goto 4, 3) := by decide +kernel
theorem dX11_scan_261 : decode cX11_scan 261 = .ok (.iconst 0, 1) := by decide +kernel
theorem dX11_scan_262 : decode cX11_scan 262 = .ok (.putfield 125, 3) := by decide +kernel
theorem dX11_scan_265 : decode cX11_scan 265 = .ok (.aload_n 0, 1) := by decide +kernel
theorem dX11_scan_266 : decode cX11_scan 266 = .ok (.iload_n 3, 1) := by decide +kernel
theorem dX11_scan_267 : decode cX11_scan 267 = .ok (.putfield 138, 3) := by decide +kernel
theorem dX11_scan_270 : decode cX11_scan 270 = .ok (.return_, 1) := by decide +kernel
theorem dX11_take_0 : decode cX11_take 0 = .ok (.aload_n 0, 1) := by decide +kernel
theorem dX11_take_1 : decode cX11_take 1 = .ok (.aload_n 0, 1) := by decide +kernel
theorem dX11_take_2 : decode cX11_take 2 = .ok (.getfield 119, 3) := by decide +kernel
theorem dX11_take_5 : decode cX11_take 5 = .ok (.putfield 122, 3) := by decide +kernel
theorem dX11_take_8 : decode cX11_take 8 = .ok (.aload_n 0, 1) := by decide +kernel
theorem dX11_take_9 : decode cX11_take 9 = .ok (.iconst 0, 1) := by decide +kernel
theorem dX11_take_10 : decode cX11_take 10 = .ok (.putfield 119, 3) := by decide +kernel
theorem dX11_take_13 : decode cX11_take 13 = .ok (.aload_n 0, 1) := by decide +kernel
theorem dX11_take_14 : decode cX11_take 14 = .ok (.iconst 0, 1) := by decide +kernel
theorem dX11_take_15 : decode cX11_take 15 = .ok (.putfield 138, 3) := by decide +kernel
theorem dX11_take_18 : decode cX11_take 18 = .ok (.aload_n 0, 1) := by decide +kernel
theorem dX11_take_19 : decode cX11_take 19 = .ok (.invokevirtual 166, 3) := by decide +kernel
theorem dX11_take_22 : decode cX11_take 22 = .ok (.aload_n 0, 1) := by decide +kernel
theorem dX11_take_23 : decode cX11_take 23 = .ok (.iconst 0, 1) := by decide +kernel
theorem dX11_take_24 : decode cX11_take 24 = .ok (.putfield 169, 3) := by decide +kernel
theorem dX11_take_27 : decode cX11_take 27 = .ok (.aload_n 0, 1) := by decide +kernel
theorem dX11_take_28 : decode cX11_take 28 = .ok (.iconst (-1), 1) := by decide +kernel
theorem dX11_take_29 : decode cX11_take 29 = .ok (.putfield 13, 3) := by decide +kernel
theorem dX11_take_32 : decode cX11_take 32 = .ok (.return_, 1) := by decide +kernel
theorem dX11_fails_0 : decode cX11_fails 0 = .ok (.aload_n 0, 1) := by decide +kernel
theorem dX11_fails_1 : decode cX11_fails 1 = .ok (.iload_n 1, 1) := by decide +kernel
theorem dX11_fails_2 : decode cX11_fails 2 = .ok (.putfield 169, 3) := by decide +kernel
theorem dX11_fails_5 : decode cX11_fails 5 = .ok (.aload_n 0, 1) := by decide +kernel
theorem dX11_fails_6 : decode cX11_fails 6 = .ok (.aload_n 0, 1) := by decide +kernel
theorem dX11_fails_7 : decode cX11_fails 7 = .ok (.getfield 141, 3) := by decide +kernel
theorem dX11_fails_10 : decode cX11_fails 10 = .ok (.putfield 13, 3) := by decide +kernel
theorem dX11_fails_13 : decode cX11_fails 13 = .ok (.iconst 0, 1) := by decide +kernel
theorem dX11_fails_14 : decode cX11_fails 14 = .ok (.ireturn, 1) := by decide +kernel
theorem dX11_readSign_0 : decode cX11_readSign 0 = .ok (.aload_n 0, 1) := by decide +kernel
theorem dX11_readSign_1 : decode cX11_readSign 1 = .ok (.getfield 125, 3) := by decide +kernel
theorem dX11_readSign_4 : decode cX11_readSign 4 = .ok (.iconst 3, 1) := by decide +kernel
theorem dX11_readSign_5 : decode cX11_readSign 5 = .ok (.if_icmp .ne 15, 3) := by decide +kernel
theorem dX11_readSign_8 : decode cX11_readSign 8 = .ok (.aload_n 0, 1) := by decide +kernel
theorem dX11_readSign_9 : decode cX11_readSign 9 = .ok (.aload_n 0, 1) := by decide +kernel
theorem dX11_readSign_10 : decode cX11_readSign 10 = .ok (.getfield 141, 3) := by decide +kernel
theorem dX11_readSign_13 : decode cX11_readSign 13 = .ok (.invokevirtual 144, 3) := by decide +kernel
theorem dX11_readSign_16 : decode cX11_readSign 16 = .ok (.iload_n 1, 1) := by decide +kernel
theorem dX11_readSign_17 : decode cX11_readSign 17 = .ok (.if_icmp .eq 9, 3) := by decide +kernel
theorem dX11_readSign_20 : decode cX11_readSign 20 = .ok (.aload_n 0, 1) := by decide +kernel
theorem dX11_readSign_21 : decode cX11_readSign 21 = .ok (.iconst 1, 1) := by decide +kernel
theorem dX11_readSign_22 : decode cX11_readSign 22 = .ok (.invokevirtual 172, 3) := by decide +kernel
theorem dX11_readSign_25 : decode cX11_readSign 25 = .ok (.ireturn, 1) := by decide +kernel
theorem dX11_readSign_26 : decode cX11_readSign 26 = .ok (.aload_n 0, 1) := by decide +kernel
theorem dX11_readSign_27 : decode cX11_readSign 27 = .ok (.invokevirtual 166, 3) := by decide +kernel
theorem dX11_readSign_30 : decode cX11_readSign 30 = .ok (.iconst 1, 1) := by decide +kernel
theorem dX11_readSign_31 : decode cX11_readSign 31 = .ok (.ireturn, 1) := by decide +kernel
theorem dX11_fault_0 : decode cX11_fault 0 = .ok (.iload_n 1, 1) := by decide +kernel
theorem dX11_fault_1 : decode cX11_fault 1 = .ok (.ifCond .ne 10, 3) := by decide +kernel
theorem dX11_fault_4 : decode cX11_fault 4 = .ok (.aload_n 0, 1) := by decide +kernel
theorem dX11_fault_5 : decode cX11_fault 5 = .ok (.getfield 169, 3) := by decide +kernel
theorem dX11_fault_8 : decode cX11_fault 8 = .ok (.goto 16, 3) := by decide +kernel
theorem dX11_fault_11 : decode cX11_fault 11 = .ok (.iload_n 1, 1) := by decide +kernel
theorem dX11_fault_12 : decode cX11_fault 12 = .ok (.iconst 1, 1) := by decide +kernel
theorem dX11_fault_13 : decode cX11_fault 13 = .ok (.if_icmp .ne 10, 3) := by decide +kernel
theorem dX11_fault_16 : decode cX11_fault 16 = .ok (.aload_n 0, 1) := by decide +kernel
theorem dX11_fault_17 : decode cX11_fault 17 = .ok (.getfield 13, 3) := by decide +kernel
theorem dX11_fault_20 : decode cX11_fault 20 = .ok (.goto 4, 3) := by decide +kernel
theorem dX11_fault_23 : decode cX11_fault 23 = .ok (.iconst (-1), 1) := by decide +kernel
theorem dX11_fault_24 : decode cX11_fault 24 = .ok (.ireturn, 1) := by decide +kernel
theorem dX11_readDrum_0 : decode cX11_readDrum 0 = .ok (.aload_n 0, 1) := by decide +kernel
theorem dX11_readDrum_1 : decode cX11_readDrum 1 = .ok (.ldc 175, 2) := by decide +kernel
theorem dX11_readDrum_3 : decode cX11_readDrum 3 = .ok (.invokevirtual 177, 3) := by decide +kernel
theorem dX11_readDrum_6 : decode cX11_readDrum 6 = .ok (.ifCond .eq 9, 3) := by decide +kernel
theorem dX11_readDrum_9 : decode cX11_readDrum 9 = .ok (.aload_n 0, 1) := by decide +kernel
theorem dX11_readDrum_10 : decode cX11_readDrum 10 = .ok (.iconst 1, 1) := by decide +kernel
theorem dX11_readDrum_11 : decode cX11_readDrum 11 = .ok (.invokevirtual 172, 3) := by decide +kernel
theorem dX11_readDrum_14 : decode cX11_readDrum 14 = .ok (.ireturn, 1) := by decide +kernel
theorem dX11_readDrum_15 : decode cX11_readDrum 15 = .ok (.aload_n 0, 1) := by decide +kernel
theorem dX11_readDrum_16 : decode cX11_readDrum 16 = .ok (.invokevirtual 166, 3) := by decide +kernel
theorem dX11_readDrum_19 : decode cX11_readDrum 19 = .ok (.aload_n 0, 1) := by decide +kernel
theorem dX11_readDrum_20 : decode cX11_readDrum 20 = .ok (.getfield 125, 3) := by decide +kernel
theorem dX11_readDrum_23 : decode cX11_readDrum 23 = .ok (.iconst 2, 1) := by decide +kernel
theorem dX11_readDrum_24 : decode cX11_readDrum 24 = .ok (.if_icmp .eq 9, 3) := by decide +kernel
theorem dX11_readDrum_27 : decode cX11_readDrum 27 = .ok (.aload_n 0, 1) := by decide +kernel
theorem dX11_readDrum_28 : decode cX11_readDrum 28 = .ok (.iconst 1, 1) := by decide +kernel
theorem dX11_readDrum_29 : decode cX11_readDrum 29 = .ok (.invokevirtual 172, 3) := by decide +kernel
theorem dX11_readDrum_32 : decode cX11_readDrum 32 = .ok (.ireturn, 1) := by decide +kernel
theorem dX11_readDrum_33 : decode cX11_readDrum 33 = .ok (.aload_n 0, 1) := by decide +kernel
theorem dX11_readDrum_34 : decode cX11_readDrum 34 = .ok (.getfield 163, 3) := by decide +kernel
theorem dX11_readDrum_37 : decode cX11_readDrum 37 = .ok (.bipush 8, 2) := by decide +kernel
theorem dX11_readDrum_39 : decode cX11_readDrum 39 = .ok (.bipush 32, 2) := by decide +kernel
theorem dX11_readDrum_41 : decode cX11_readDrum 41 = .ok (.invokestatic 181, 3) := by decide +kernel
theorem dX11_readDrum_44 : decode cX11_readDrum 44 = .ok (.ifCond .ne 9, 3) := by decide +kernel
theorem dX11_readDrum_47 : decode cX11_readDrum 47 = .ok (.aload_n 0, 1) := by decide +kernel
theorem dX11_readDrum_48 : decode cX11_readDrum 48 = .ok (.iconst 2, 1) := by decide +kernel
theorem dX11_readDrum_49 : decode cX11_readDrum 49 = .ok (.invokevirtual 172, 3) := by decide +kernel
theorem dX11_readDrum_52 : decode cX11_readDrum 52 = .ok (.ireturn, 1) := by decide +kernel
theorem dX11_readDrum_53 : decode cX11_readDrum 53 = .ok (.aload_n 0, 1) := by decide +kernel
theorem dX11_readDrum_54 : decode cX11_readDrum 54 = .ok (.aload_n 0, 1) := by decide +kernel
theorem dX11_readDrum_55 : decode cX11_readDrum 55 = .ok (.getfield 163, 3) := by decide +kernel
theorem dX11_readDrum_58 : decode cX11_readDrum 58 = .ok (.putfield 185, 3) := by decide +kernel
theorem dX11_readDrum_61 : decode cX11_readDrum 61 = .ok (.aload_n 0, 1) := by decide +kernel
theorem dX11_readDrum_62 : decode cX11_readDrum 62 = .ok (.invokevirtual 166, 3) := by decide +kernel
theorem dX11_readDrum_65 : decode cX11_readDrum 65 = .ok (.aload_n 0, 1) := by decide +kernel
theorem dX11_readDrum_66 : decode cX11_readDrum 66 = .ok (.bipush 59, 2) := by decide +kernel
theorem dX11_readDrum_68 : decode cX11_readDrum 68 = .ok (.invokevirtual 188, 3) := by decide +kernel
theorem dX11_readDrum_71 : decode cX11_readDrum 71 = .ok (.ifCond .ne 5, 3) := by decide +kernel
theorem dX11_readDrum_74 : decode cX11_readDrum 74 = .ok (.iconst 0, 1) := by decide +kernel
theorem dX11_readDrum_75 : decode cX11_readDrum 75 = .ok (.ireturn, 1) := by decide +kernel
theorem dX11_readDrum_76 : decode cX11_readDrum 76 = .ok (.aload_n 0, 1) := by decide +kernel
theorem dX11_readDrum_77 : decode cX11_readDrum 77 = .ok (.iconst 0, 1) := by decide +kernel
theorem dX11_readDrum_78 : decode cX11_readDrum 78 = .ok (.putfield 191, 3) := by decide +kernel
theorem dX11_readDrum_81 : decode cX11_readDrum 81 = .ok (.aload_n 0, 1) := by decide +kernel
theorem dX11_readDrum_82 : decode cX11_readDrum 82 = .ok (.ldc 175, 2) := by decide +kernel
theorem dX11_readDrum_84 : decode cX11_readDrum 84 = .ok (.invokevirtual 177, 3) := by decide +kernel
theorem dX11_readDrum_87 : decode cX11_readDrum 87 = .ok (.istore_n 1, 1) := by decide +kernel
theorem dX11_readDrum_88 : decode cX11_readDrum 88 = .ok (.iload_n 1, 1) := by decide +kernel
theorem dX11_readDrum_89 : decode cX11_readDrum 89 = .ok (.iconst 1, 1) := by decide +kernel
theorem dX11_readDrum_90 : decode cX11_readDrum 90 = .ok (.iconst 3, 1) := by decide +kernel
theorem dX11_readDrum_91 : decode cX11_readDrum 91 = .ok (.invokestatic 181, 3) := by decide +kernel
theorem dX11_readDrum_94 : decode cX11_readDrum 94 = .ok (.ifCond .ne 9, 3) := by decide +kernel
theorem dX11_readDrum_97 : decode cX11_readDrum 97 = .ok (.aload_n 0, 1) := by decide +kernel
theorem dX11_readDrum_98 : decode cX11_readDrum 98 = .ok (.iconst 1, 1) := by decide +kernel
theorem dX11_readDrum_99 : decode cX11_readDrum 99 = .ok (.invokevirtual 172, 3) := by decide +kernel
theorem dX11_readDrum_102 : decode cX11_readDrum 102 = .ok (.ireturn, 1) := by decide +kernel
theorem dX11_readDrum_103 : decode cX11_readDrum 103 = .ok (.aload_n 0, 1) := by decide +kernel
theorem dX11_readDrum_104 : decode cX11_readDrum 104 = .ok (.getfield 191, 3) := by decide +kernel
theorem dX11_readDrum_107 : decode cX11_readDrum 107 = .ok (.iconst 4, 1) := by decide +kernel
theorem dX11_readDrum_108 : decode cX11_readDrum 108 = .ok (.if_icmp .ne 9, 3) := by decide +kernel
theorem dX11_readDrum_111 : decode cX11_readDrum 111 = .ok (.aload_n 0, 1) := by decide +kernel
theorem dX11_readDrum_112 : decode cX11_readDrum 112 = .ok (.iconst 4, 1) := by decide +kernel
theorem dX11_readDrum_113 : decode cX11_readDrum 113 = .ok (.invokevirtual 172, 3) := by decide +kernel
theorem dX11_readDrum_116 : decode cX11_readDrum 116 = .ok (.ireturn, 1) := by decide +kernel
theorem dX11_readDrum_117 : decode cX11_readDrum 117 = .ok (.aload_n 0, 1) := by decide +kernel
theorem dX11_readDrum_118 : decode cX11_readDrum 118 = .ok (.invokevirtual 166, 3) := by decide +kernel
theorem dX11_readDrum_121 : decode cX11_readDrum 121 = .ok (.iconst 4, 1) := by decide +kernel
theorem dX11_readDrum_122 : decode cX11_readDrum 122 = .ok (.aload_n 0, 1) := by decide +kernel
theorem dX11_readDrum_123 : decode cX11_readDrum 123 = .ok (.getfield 191, 3) := by decide +kernel
theorem dX11_readDrum_126 : decode cX11_readDrum 126 = .ok (.iadd, 1) := by decide +kernel
theorem dX11_readDrum_127 : decode cX11_readDrum 127 = .ok (.istore_n 2, 1) := by decide +kernel
theorem dX11_readDrum_128 : decode cX11_readDrum 128 = .ok (.aload_n 0, 1) := by decide +kernel
theorem dX11_readDrum_129 : decode cX11_readDrum 129 = .ok (.getfield 17, 3) := by decide +kernel
theorem dX11_readDrum_132 : decode cX11_readDrum 132 = .ok (.iload_n 2, 1) := by decide +kernel
theorem dX11_readDrum_133 : decode cX11_readDrum 133 = .ok (.aload_n 0, 1) := by decide +kernel
theorem dX11_readDrum_134 : decode cX11_readDrum 134 = .ok (.getfield 185, 3) := by decide +kernel
theorem dX11_readDrum_137 : decode cX11_readDrum 137 = .ok (.iastore, 1) := by decide +kernel
theorem dX11_readDrum_138 : decode cX11_readDrum 138 = .ok (.aload_n 0, 1) := by decide +kernel
theorem dX11_readDrum_139 : decode cX11_readDrum 139 = .ok (.getfield 21, 3) := by decide +kernel
theorem dX11_readDrum_142 : decode cX11_readDrum 142 = .ok (.iload_n 2, 1) := by decide +kernel
theorem dX11_readDrum_143 : decode cX11_readDrum 143 = .ok (.aload_n 0, 1) := by decide +kernel
theorem dX11_readDrum_144 : decode cX11_readDrum 144 = .ok (.getfield 185, 3) := by decide +kernel
theorem dX11_readDrum_147 : decode cX11_readDrum 147 = .ok (.iastore, 1) := by decide +kernel
theorem dX11_readDrum_148 : decode cX11_readDrum 148 = .ok (.iload_n 1, 1) := by decide +kernel
theorem dX11_readDrum_149 : decode cX11_readDrum 149 = .ok (.iconst 1, 1) := by decide +kernel
theorem dX11_readDrum_150 : decode cX11_readDrum 150 = .ok (.if_icmp .eq 129, 3) := by decide +kernel
theorem dX11_readDrum_153 : decode cX11_readDrum 153 = .ok (.aload_n 0, 1) := by decide +kernel
theorem dX11_readDrum_154 : decode cX11_readDrum 154 = .ok (.getfield 125, 3) := by decide +kernel
theorem dX11_readDrum_157 : decode cX11_readDrum 157 = .ok (.iconst 2, 1) := by decide +kernel
theorem dX11_readDrum_158 : decode cX11_readDrum 158 = .ok (.if_icmp .eq 9, 3) := by decide +kernel
theorem dX11_readDrum_161 : decode cX11_readDrum 161 = .ok (.aload_n 0, 1) := by decide +kernel
theorem dX11_readDrum_162 : decode cX11_readDrum 162 = .ok (.iconst 1, 1) := by decide +kernel
theorem dX11_readDrum_163 : decode cX11_readDrum 163 = .ok (.invokevirtual 172, 3) := by decide +kernel
theorem dX11_readDrum_166 : decode cX11_readDrum 166 = .ok (.ireturn, 1) := by decide +kernel
theorem dX11_readDrum_167 : decode cX11_readDrum 167 = .ok (.iload_n 1, 1) := by decide +kernel
theorem dX11_readDrum_168 : decode cX11_readDrum 168 = .ok (.iconst 2, 1) := by decide +kernel
theorem dX11_readDrum_169 : decode cX11_readDrum 169 = .ok (.if_icmp .ne 34, 3) := by decide +kernel
theorem dX11_readDrum_172 : decode cX11_readDrum 172 = .ok (.aload_n 0, 1) := by decide +kernel
theorem dX11_readDrum_173 : decode cX11_readDrum 173 = .ok (.getfield 163, 3) := by decide +kernel
theorem dX11_readDrum_176 : decode cX11_readDrum 176 = .ok (.iconst 2, 1) := by decide +kernel
theorem dX11_readDrum_177 : decode cX11_readDrum 177 = .ok (.if_icmp .eq 11, 3) := by decide +kernel
theorem dX11_readDrum_180 : decode cX11_readDrum 180 = .ok (.aload_n 0, 1) := by decide +kernel
theorem dX11_readDrum_181 : decode cX11_readDrum 181 = .ok (.getfield 163, 3) := by decide +kernel
theorem dX11_readDrum_184 : decode cX11_readDrum 184 = .ok (.iconst 4, 1) := by decide +kernel
theorem dX11_readDrum_185 : decode cX11_readDrum 185 = .ok (.if_icmp .ne 42, 3) := by decide +kernel
theorem dX11_readDrum_188 : decode cX11_readDrum 188 = .ok (.aload_n 0, 1) := by decide +kernel
theorem dX11_readDrum_189 : decode cX11_readDrum 189 = .ok (.getfield 185, 3) := by decide +kernel
theorem dX11_readDrum_192 : decode cX11_readDrum 192 = .ok (.aload_n 0, 1) := by decide +kernel
theorem dX11_readDrum_193 : decode cX11_readDrum 193 = .ok (.getfield 163, 3) := by decide +kernel
theorem dX11_readDrum_196 : decode cX11_readDrum 196 = .ok (.irem, 1) := by decide +kernel
theorem dX11_readDrum_197 : decode cX11_readDrum 197 = .ok (.ifCond .eq 36, 3) := by decide +kernel
theorem dX11_readDrum_200 : decode cX11_readDrum 200 = .ok (.goto 27, 3) := by decide +kernel
theorem dX11_readDrum_203 : decode cX11_readDrum 203 = .ok (.aload_n 0, 1) := by decide +kernel
theorem dX11_readDrum_204 : decode cX11_readDrum 204 = .ok (.getfield 163, 3) := by decide +kernel
theorem dX11_readDrum_207 : decode cX11_readDrum 207 = .ok (.iconst 2, 1) := by decide +kernel
theorem dX11_readDrum_208 : decode cX11_readDrum 208 = .ok (.bipush 8, 2) := by decide +kernel
theorem dX11_readDrum_210 : decode cX11_readDrum 210 = .ok (.invokestatic 181, 3) := by decide +kernel
theorem dX11_readDrum_213 : decode cX11_readDrum 213 = .ok (.ifCond .eq 14, 3) := by decide +kernel
theorem dX11_readDrum_216 : decode cX11_readDrum 216 = .ok (.aload_n 0, 1) := by decide +kernel
theorem dX11_readDrum_217 : decode cX11_readDrum 217 = .ok (.getfield 163, 3) := by decide +kernel
theorem dX11_readDrum_220 : decode cX11_readDrum 220 = .ok (.aload_n 0, 1) := by decide +kernel
theorem dX11_readDrum_221 : decode cX11_readDrum 221 = .ok (.getfield 185, 3) := by decide +kernel
theorem dX11_readDrum_224 : decode cX11_readDrum 224 = .ok (.if_icmp .le 9, 3) := by decide +kernel
theorem dX11_readDrum_227 : decode cX11_readDrum 227 = .ok (.aload_n 0, 1) := by decide +kernel
theorem dX11_readDrum_228 : decode cX11_readDrum 228 = .ok (.iconst 2, 1) := by decide +kernel
theorem dX11_readDrum_229 : decode cX11_readDrum 229 = .ok (.invokevirtual 172, 3) := by decide +kernel
theorem dX11_readDrum_232 : decode cX11_readDrum 232 = .ok (.ireturn, 1) := by decide +kernel
theorem dX11_readDrum_233 : decode cX11_readDrum 233 = .ok (.aload_n 0, 1) := by decide +kernel
theorem dX11_readDrum_234 : decode cX11_readDrum 234 = .ok (.getfield 17, 3) := by decide +kernel
theorem dX11_readDrum_237 : decode cX11_readDrum 237 = .ok (.iload_n 2, 1) := by decide +kernel
theorem dX11_readDrum_238 : decode cX11_readDrum 238 = .ok (.iload_n 1, 1) := by decide +kernel
theorem dX11_readDrum_239 : decode cX11_readDrum 239 = .ok (.iconst 2, 1) := by decide +kernel
theorem dX11_readDrum_240 : decode cX11_readDrum 240 = .ok (.if_icmp .ne 15, 3) := by decide +kernel
theorem dX11_readDrum_243 : decode cX11_readDrum 243 = .ok (.aload_n 0, 1) := by decide +kernel
theorem dX11_readDrum_244 : decode cX11_readDrum 244 = .ok (.getfield 185, 3) := by decide +kernel
theorem dX11_readDrum_247 : decode cX11_readDrum 247 = .ok (.aload_n 0, 1) := by decide +kernel
theorem dX11_readDrum_248 : decode cX11_readDrum 248 = .ok (.getfield 163, 3) := by decide +kernel
theorem dX11_readDrum_251 : decode cX11_readDrum 251 = .ok (.idiv, 1) := by decide +kernel
theorem dX11_readDrum_252 : decode cX11_readDrum 252 = .ok (.goto 7, 3) := by decide +kernel
theorem dX11_readDrum_255 : decode cX11_readDrum 255 = .ok (.aload_n 0, 1) := by decide +kernel
theorem dX11_readDrum_256 : decode cX11_readDrum 256 = .ok (.getfield 163, 3) := by decide +kernel
theorem dX11_readDrum_259 : decode cX11_readDrum 259 = .ok (.iastore, 1) := by decide +kernel
theorem dX11_readDrum_260 : decode cX11_readDrum 260 = .ok (.iload_n 1, 1) := by decide +kernel
theorem dX11_readDrum_261 : decode cX11_readDrum 261 = .ok (.iconst 3, 1) := by decide +kernel
theorem dX11_readDrum_262 : decode cX11_readDrum 262 = .ok (.if_icmp .ne 13, 3) := by decide +kernel
theorem dX11_readDrum_265 : decode cX11_readDrum 265 = .ok (.aload_n 0, 1) := by decide +kernel
theorem dX11_readDrum_266 : decode cX11_readDrum 266 = .ok (.getfield 21, 3) := by decide +kernel
theorem dX11_readDrum_269 : decode cX11_readDrum 269 = .ok (.iload_n 2, 1) := by decide +kernel
theorem dX11_readDrum_270 : decode cX11_readDrum 270 = .ok (.aload_n 0, 1) := by decide +kernel
theorem dX11_readDrum_271 : decode cX11_readDrum 271 = .ok (.getfield 163, 3) := by decide +kernel
theorem dX11_readDrum_274 : decode cX11_readDrum 274 = .ok (.iastore, 1) := by decide +kernel
theorem dX11_readDrum_275 : decode cX11_readDrum 275 = .ok (.aload_n 0, 1) := by decide +kernel
theorem dX11_readDrum_276 : decode cX11_readDrum 276 = .ok (.invokevirtual 166, 3) := by decide +kernel
theorem dX11_readDrum_279 : decode cX11_readDrum 279 = .ok (.aload_n 0, 1) := by decide +kernel
theorem dX11_readDrum_280 : decode cX11_readDrum 280 = .ok (.bipush 59, 2) := by decide +kernel
theorem dX11_readDrum_282 : decode cX11_readDrum 282 = .ok (.invokevirtual 188, 3) := by decide +kernel
theorem dX11_readDrum_285 : decode cX11_readDrum 285 = .ok (.ifCond .ne 5, 3) := by decide +kernel
theorem dX11_readDrum_288 : decode cX11_readDrum 288 = .ok (.iconst 0, 1) := by decide +kernel
theorem dX11_readDrum_289 : decode cX11_readDrum 289 = .ok (.ireturn, 1) := by decide +kernel
theorem dX11_readDrum_290 : decode cX11_readDrum 290 = .ok (.aload_n 0, 1) := by decide +kernel
theorem dX11_readDrum_291 : decode cX11_readDrum 291 = .ok (.dup, 1) := by decide +kernel
theorem dX11_readDrum_292 : decode cX11_readDrum 292 = .ok (.getfield 191, 3) := by decide +kernel
theorem dX11_readDrum_295 : decode cX11_readDrum 295 = .ok (.iconst 1, 1) := by decide +kernel
theorem dX11_readDrum_296 : decode cX11_readDrum 296 = .ok (.iadd, 1) := by decide +kernel
theorem dX11_readDrum_297 : decode cX11_readDrum 297 = .ok (.putfield 191, 3) := by decide +kernel
theorem dX11_readDrum_300 : decode cX11_readDrum 300 = .ok (.aload_n 0, 1) := by decide +kernel
theorem dX11_readDrum_301 : decode cX11_readDrum 301 = .ok (.getfield 125, 3) := by decide +kernel
theorem dX11_readDrum_304 : decode cX11_readDrum 304 = .ok (.iconst 4, 1) := by decide +kernel
theorem dX11_readDrum_305 : decode cX11_readDrum 305 = .ok (.if_icmp .ne (-224), 3) := by decide +kernel
theorem dX11_readDrum_308 : decode cX11_readDrum 308 = .ok (.iconst 1, 1) := by decide +kernel
theorem dX11_readDrum_309 : decode cX11_readDrum 309 = .ok (.ireturn, 1) := by decide +kernel
theorem dX11_isThere_0 : decode cX11_isThere 0 = .ok (.iload_n 1, 1) := by decide +kernel
theorem dX11_isThere_1 : decode cX11_isThere 1 = .ok (.iconst 0, 1) := by decide +kernel
theorem dX11_isThere_2 : decode cX11_isThere 2 = .ok (.aload_n 0, 1) := by decide +kernel
theorem dX11_isThere_3 : decode cX11_isThere 3 = .ok (.getfield 116, 3) := by decide +kernel
theorem dX11_isThere_6 : decode cX11_isThere 6 = .ok (.aload_n 0, 1) := by decide +kernel
theorem dX11_isThere_7 : decode cX11_isThere 7 = .ok (.getfield 113, 3) := by decide +kernel
theorem dX11_isThere_10 : decode cX11_isThere 10 = .ok (.imul, 1) := by decide +kernel
theorem dX11_isThere_11 : decode cX11_isThere 11 = .ok (.iconst 1, 1) := by decide +kernel
theorem dX11_isThere_12 : decode cX11_isThere 12 = .ok (.isub, 1) := by decide +kernel
theorem dX11_isThere_13 : decode cX11_isThere 13 = .ok (.invokestatic 181, 3) := by decide +kernel
theorem dX11_isThere_16 : decode cX11_isThere 16 = .ok (.ifCond .eq 27, 3) := by decide +kernel
theorem dX11_isThere_19 : decode cX11_isThere 19 = .ok (.iload_n 1, 1) := by decide +kernel
theorem dX11_isThere_20 : decode cX11_isThere 20 = .ok (.aload_n 0, 1) := by decide +kernel
theorem dX11_isThere_21 : decode cX11_isThere 21 = .ok (.getfield 113, 3) := by decide +kernel
theorem dX11_isThere_24 : decode cX11_isThere 24 = .ok (.irem, 1) := by decide +kernel
theorem dX11_isThere_25 : decode cX11_isThere 25 = .ok (.aload_n 0, 1) := by decide +kernel
theorem dX11_isThere_26 : decode cX11_isThere 26 = .ok (.getfield 21, 3) := by decide +kernel
theorem dX11_isThere_29 : decode cX11_isThere 29 = .ok (.iload_n 1, 1) := by decide +kernel
theorem dX11_isThere_30 : decode cX11_isThere 30 = .ok (.aload_n 0, 1) := by decide +kernel
theorem dX11_isThere_31 : decode cX11_isThere 31 = .ok (.getfield 113, 3) := by decide +kernel
theorem dX11_isThere_34 : decode cX11_isThere 34 = .ok (.idiv, 1) := by decide +kernel
theorem dX11_isThere_35 : decode cX11_isThere 35 = .ok (.iaload, 1) := by decide +kernel
theorem dX11_isThere_36 : decode cX11_isThere 36 = .ok (.if_icmp .ge 7, 3) := by decide +kernel
theorem dX11_isThere_39 : decode cX11_isThere 39 = .ok (.iconst 1, 1) := by decide +kernel
theorem dX11_isThere_40 : decode cX11_isThere 40 = .ok (.goto 4, 3) := by decide +kernel
theorem dX11_isThere_43 : decode cX11_isThere 43 = .ok (.iconst 0, 1) := by decide +kernel
theorem dX11_isThere_44 : decode cX11_isThere 44 = .ok (.ireturn, 1) := by decide +kernel
theorem dX11_spots_0 : decode cX11_spots 0 = .ok (.iconst 0, 1) := by decide +kernel
theorem dX11_spots_1 : decode cX11_spots 1 = .ok (.istore_n 1, 1) := by decide +kernel
theorem dX11_spots_2 : decode cX11_spots 2 = .ok (.iconst 0, 1) := by decide +kernel
theorem dX11_spots_3 : decode cX11_spots 3 = .ok (.istore_n 2, 1) := by decide +kernel
theorem dX11_spots_4 : decode cX11_spots 4 = .ok (.iload_n 2, 1) := by decide +kernel
theorem dX11_spots_5 : decode cX11_spots 5 = .ok (.aload_n 0, 1) := by decide +kernel
theorem dX11_spots_6 : decode cX11_spots 6 = .ok (.getfield 116, 3) := by decide +kernel
theorem dX11_spots_9 : decode cX11_spots 9 = .ok (.if_icmp .ge 18, 3) := by decide +kernel
theorem dX11_spots_12 : decode cX11_spots 12 = .ok (.iload_n 1, 1) := by decide +kernel
theorem dX11_spots_13 : decode cX11_spots 13 = .ok (.aload_n 0, 1) := by decide +kernel
theorem dX11_spots_14 : decode cX11_spots 14 = .ok (.getfield 21, 3) := by decide +kernel
theorem dX11_spots_17 : decode cX11_spots 17 = .ok (.iload_n 2, 1) := by decide +kernel
theorem dX11_spots_18 : decode cX11_spots 18 = .ok (.iaload, 1) := by decide +kernel
theorem dX11_spots_19 : decode cX11_spots 19 = .ok (.iadd, 1) := by decide +kernel
theorem dX11_spots_20 : decode cX11_spots 20 = .ok (.istore_n 1, 1) := by decide +kernel
theorem dX11_spots_21 : decode cX11_spots 21 = .ok (.iinc 2 1, 3) := by decide +kernel
theorem dX11_spots_24 : decode cX11_spots 24 = .ok (.goto (-20), 3) := by decide +kernel
theorem dX11_spots_27 : decode cX11_spots 27 = .ok (.iload_n 1, 1) := by decide +kernel
theorem dX11_spots_28 : decode cX11_spots 28 = .ok (.ireturn, 1) := by decide +kernel
theorem dX11_layFirst_0 : decode cX11_layFirst 0 = .ok (.iconst 0, 1) := by decide +kernel
theorem dX11_layFirst_1 : decode cX11_layFirst 1 = .ok (.istore_n 1, 1) := by decide +kernel
theorem dX11_layFirst_2 : decode cX11_layFirst 2 = .ok (.iload_n 1, 1) := by decide +kernel
theorem dX11_layFirst_3 : decode cX11_layFirst 3 = .ok (.sipush 128, 3) := by decide +kernel
theorem dX11_layFirst_6 : decode cX11_layFirst 6 = .ok (.if_icmp .ge 16, 3) := by decide +kernel
theorem dX11_layFirst_9 : decode cX11_layFirst 9 = .ok (.aload_n 0, 1) := by decide +kernel
theorem dX11_layFirst_10 : decode cX11_layFirst 10 = .ok (.getfield 24, 3) := by decide +kernel
theorem dX11_layFirst_13 : decode cX11_layFirst 13 = .ok (.iload_n 1, 1) := by decide +kernel
theorem dX11_layFirst_14 : decode cX11_layFirst 14 = .ok (.iconst 0, 1) := by decide +kernel
theorem dX11_layFirst_15 : decode cX11_layFirst 15 = .ok (.bastore, 1) := by decide +kernel
theorem dX11_layFirst_16 : decode cX11_layFirst 16 = .ok (.iinc 1 1, 3) := by decide +kernel
theorem dX11_layFirst_19 : decode cX11_layFirst 19 = .ok (.goto (-17), 3) := by decide +kernel
theorem dX11_layFirst_22 : decode cX11_layFirst 22 = .ok (.iconst 0, 1) := by decide +kernel
theorem dX11_layFirst_23 : decode cX11_layFirst 23 = .ok (.istore_n 1, 1) := by decide +kernel
theorem dX11_layFirst_24 : decode cX11_layFirst 24 = .ok (.iconst 0, 1) := by decide +kernel
theorem dX11_layFirst_25 : decode cX11_layFirst 25 = .ok (.istore_n 2, 1) := by decide +kernel
theorem dX11_layFirst_26 : decode cX11_layFirst 26 = .ok (.iload_n 2, 1) := by decide +kernel
theorem dX11_layFirst_27 : decode cX11_layFirst 27 = .ok (.aload_n 0, 1) := by decide +kernel
theorem dX11_layFirst_28 : decode cX11_layFirst 28 = .ok (.getfield 194, 3) := by decide +kernel
theorem dX11_layFirst_31 : decode cX11_layFirst 31 = .ok (.if_icmp .ge 33, 3) := by decide +kernel
theorem dX11_layFirst_34 : decode cX11_layFirst 34 = .ok (.aload_n 0, 1) := by decide +kernel
theorem dX11_layFirst_35 : decode cX11_layFirst 35 = .ok (.iload_n 1, 1) := by decide +kernel
theorem dX11_layFirst_36 : decode cX11_layFirst 36 = .ok (.invokevirtual 197, 3) := by decide +kernel
theorem dX11_layFirst_39 : decode cX11_layFirst 39 = .ok (.ifCond .ne 9, 3) := by decide +kernel
theorem dX11_layFirst_42 : decode cX11_layFirst 42 = .ok (.iinc 1 1, 3) := by decide +kernel
theorem dX11_layFirst_45 : decode cX11_layFirst 45 = .ok (.goto (-11), 3) := by decide +kernel
theorem dX11_layFirst_48 : decode cX11_layFirst 48 = .ok (.aload_n 0, 1) := by decide +kernel
theorem dX11_layFirst_49 : decode cX11_layFirst 49 = .ok (.getfield 35, 3) := by decide +kernel
theorem dX11_layFirst_52 : decode cX11_layFirst 52 = .ok (.iload_n 2, 1) := by decide +kernel
theorem dX11_layFirst_53 : decode cX11_layFirst 53 = .ok (.iload_n 1, 1) := by decide +kernel
theorem dX11_layFirst_54 : decode cX11_layFirst 54 = .ok (.iastore, 1) := by decide +kernel
theorem dX11_layFirst_55 : decode cX11_layFirst 55 = .ok (.iinc 1 1, 3) := by decide +kernel
theorem dX11_layFirst_58 : decode cX11_layFirst 58 = .ok (.iinc 2 1, 3) := by decide +kernel
theorem dX11_layFirst_61 : decode cX11_layFirst 61 = .ok (.goto (-35), 3) := by decide +kernel
theorem dX11_layFirst_64 : decode cX11_layFirst 64 = .ok (.iconst 0, 1) := by decide +kernel
theorem dX11_layFirst_65 : decode cX11_layFirst 65 = .ok (.istore_n 2, 1) := by decide +kernel
theorem dX11_layFirst_66 : decode cX11_layFirst 66 = .ok (.iload_n 2, 1) := by decide +kernel
theorem dX11_layFirst_67 : decode cX11_layFirst 67 = .ok (.iconst 4, 1) := by decide +kernel
theorem dX11_layFirst_68 : decode cX11_layFirst 68 = .ok (.if_icmp .ge 16, 3) := by decide +kernel
theorem dX11_layFirst_71 : decode cX11_layFirst 71 = .ok (.aload_n 0, 1) := by decide +kernel
theorem dX11_layFirst_72 : decode cX11_layFirst 72 = .ok (.getfield 95, 3) := by decide +kernel
theorem dX11_layFirst_75 : decode cX11_layFirst 75 = .ok (.iload_n 2, 1) := by decide +kernel
theorem dX11_layFirst_76 : decode cX11_layFirst 76 = .ok (.iconst 0, 1) := by decide +kernel
theorem dX11_layFirst_77 : decode cX11_layFirst 77 = .ok (.bastore, 1) := by decide +kernel
theorem dX11_layFirst_78 : decode cX11_layFirst 78 = .ok (.iinc 2 1, 3) := by decide +kernel
theorem dX11_layFirst_81 : decode cX11_layFirst 81 = .ok (.goto (-15), 3) := by decide +kernel
theorem dX11_layFirst_84 : decode cX11_layFirst 84 = .ok (.aload_n 0, 1) := by decide +kernel
theorem dX11_layFirst_85 : decode cX11_layFirst 85 = .ok (.iconst 0, 1) := by decide +kernel
theorem dX11_layFirst_86 : decode cX11_layFirst 86 = .ok (.putfield 200, 3) := by decide +kernel
theorem dX11_layFirst_89 : decode cX11_layFirst 89 = .ok (.return_, 1) := by decide +kernel
theorem dX11_drum_0 : decode cX11_drum 0 = .ok (.aload_n 0, 1) := by decide +kernel
theorem dX11_drum_1 : decode cX11_drum 1 = .ok (.invokevirtual 204, 3) := by decide +kernel
theorem dX11_drum_4 : decode cX11_drum 4 = .ok (.aload_n 0, 1) := by decide +kernel
theorem dX11_drum_5 : decode cX11_drum 5 = .ok (.invokevirtual 207, 3) := by decide +kernel
theorem dX11_drum_8 : decode cX11_drum 8 = .ok (.ifCond .ne 5, 3) := by decide +kernel
theorem dX11_drum_11 : decode cX11_drum 11 = .ok (.iconst (-1), 1) := by decide +kernel
theorem dX11_drum_12 : decode cX11_drum 12 = .ok (.ireturn, 1) := by decide +kernel
theorem dX11_drum_13 : decode cX11_drum 13 = .ok (.aload_n 0, 1) := by decide +kernel
theorem dX11_drum_14 : decode cX11_drum 14 = .ok (.aload_n 0, 1) := by decide +kernel
theorem dX11_drum_15 : decode cX11_drum 15 = .ok (.getfield 185, 3) := by decide +kernel
theorem dX11_drum_18 : decode cX11_drum 18 = .ok (.putfield 113, 3) := by decide +kernel
theorem dX11_drum_21 : decode cX11_drum 21 = .ok (.aload_n 0, 1) := by decide +kernel
theorem dX11_drum_22 : decode cX11_drum 22 = .ok (.aload_n 0, 1) := by decide +kernel
theorem dX11_drum_23 : decode cX11_drum 23 = .ok (.getfield 191, 3) := by decide +kernel
theorem dX11_drum_26 : decode cX11_drum 26 = .ok (.putfield 116, 3) := by decide +kernel
theorem dX11_drum_29 : decode cX11_drum 29 = .ok (.iconst 0, 1) := by decide +kernel
theorem dX11_drum_30 : decode cX11_drum 30 = .ok (.istore_n 1, 1) := by decide +kernel
theorem dX11_drum_31 : decode cX11_drum 31 = .ok (.iload_n 1, 1) := by decide +kernel
theorem dX11_drum_32 : decode cX11_drum 32 = .ok (.iconst 4, 1) := by decide +kernel
theorem dX11_drum_33 : decode cX11_drum 33 = .ok (.if_icmp .ge 37, 3) := by decide +kernel
theorem dX11_drum_36 : decode cX11_drum 36 = .ok (.aload_n 0, 1) := by decide +kernel
theorem dX11_drum_37 : decode cX11_drum 37 = .ok (.getfield 17, 3) := by decide +kernel
theorem dX11_drum_40 : decode cX11_drum 40 = .ok (.iload_n 1, 1) := by decide +kernel
theorem dX11_drum_41 : decode cX11_drum 41 = .ok (.aload_n 0, 1) := by decide +kernel
theorem dX11_drum_42 : decode cX11_drum 42 = .ok (.getfield 17, 3) := by decide +kernel
theorem dX11_drum_45 : decode cX11_drum 45 = .ok (.iconst 4, 1) := by decide +kernel
theorem dX11_drum_46 : decode cX11_drum 46 = .ok (.iload_n 1, 1) := by decide +kernel
theorem dX11_drum_47 : decode cX11_drum 47 = .ok (.iadd, 1) := by decide +kernel
theorem dX11_drum_48 : decode cX11_drum 48 = .ok (.iaload, 1) := by decide +kernel
theorem dX11_drum_49 : decode cX11_drum 49 = .ok (.iastore, 1) := by decide +kernel
theorem dX11_drum_50 : decode cX11_drum 50 = .ok (.aload_n 0, 1) := by decide +kernel
theorem dX11_drum_51 : decode cX11_drum 51 = .ok (.getfield 21, 3) := by decide +kernel
theorem dX11_drum_54 : decode cX11_drum 54 = .ok (.iload_n 1, 1) := by decide +kernel
theorem dX11_drum_55 : decode cX11_drum 55 = .ok (.aload_n 0, 1) := by decide +kernel
theorem dX11_drum_56 : decode cX11_drum 56 = .ok (.getfield 21, 3) := by decide +kernel
theorem dX11_drum_59 : decode cX11_drum 59 = .ok (.iconst 4, 1) := by decide +kernel
theorem dX11_drum_60 : decode cX11_drum 60 = .ok (.iload_n 1, 1) := by decide +kernel
theorem dX11_drum_61 : decode cX11_drum 61 = .ok (.iadd, 1) := by decide +kernel
theorem dX11_drum_62 : decode cX11_drum 62 = .ok (.iaload, 1) := by decide +kernel
theorem dX11_drum_63 : decode cX11_drum 63 = .ok (.iastore, 1) := by decide +kernel
theorem dX11_drum_64 : decode cX11_drum 64 = .ok (.iinc 1 1, 3) := by decide +kernel
theorem dX11_drum_67 : decode cX11_drum 67 = .ok (.goto (-36), 3) := by decide +kernel
theorem dX11_drum_70 : decode cX11_drum 70 = .ok (.aload_n 0, 1) := by decide +kernel
theorem dX11_drum_71 : decode cX11_drum 71 = .ok (.invokevirtual 211, 3) := by decide +kernel
theorem dX11_drum_74 : decode cX11_drum 74 = .ok (.aload_n 0, 1) := by decide +kernel
theorem dX11_drum_75 : decode cX11_drum 75 = .ok (.getfield 194, 3) := by decide +kernel
theorem dX11_drum_78 : decode cX11_drum 78 = .ok (.if_icmp .ge 13, 3) := by decide +kernel
theorem dX11_drum_81 : decode cX11_drum 81 = .ok (.aload_n 0, 1) := by decide +kernel
theorem dX11_drum_82 : decode cX11_drum 82 = .ok (.iconst 0, 1) := by decide +kernel
theorem dX11_drum_83 : decode cX11_drum 83 = .ok (.putfield 194, 3) := by decide +kernel
theorem dX11_drum_86 : decode cX11_drum 86 = .ok (.aload_n 0, 1) := by decide +kernel
theorem dX11_drum_87 : decode cX11_drum 87 = .ok (.iconst 0, 1) := by decide +kernel
theorem dX11_drum_88 : decode cX11_drum 88 = .ok (.putfield 214, 3) := by decide +kernel
theorem dX11_drum_91 : decode cX11_drum 91 = .ok (.aload_n 0, 1) := by decide +kernel
theorem dX11_drum_92 : decode cX11_drum 92 = .ok (.invokevirtual 217, 3) := by decide +kernel
theorem dX11_drum_95 : decode cX11_drum 95 = .ok (.aload_n 0, 1) := by decide +kernel
theorem dX11_drum_96 : decode cX11_drum 96 = .ok (.invokevirtual 211, 3) := by decide +kernel
theorem dX11_drum_99 : decode cX11_drum 99 = .ok (.ireturn, 1) := by decide +kernel
theorem dX11_find_0 : decode cX11_find 0 = .ok (.iconst 0, 1) := by decide +kernel
theorem dX11_find_1 : decode cX11_find 1 = .ok (.istore 4, 2) := by decide +kernel
theorem dX11_find_3 : decode cX11_find 3 = .ok (.iload 4, 2) := by decide +kernel
theorem dX11_find_5 : decode cX11_find 5 = .ok (.iload_n 3, 1) := by decide +kernel
theorem dX11_find_6 : decode cX11_find 6 = .ok (.if_icmp .ge 24, 3) := by decide +kernel
theorem dX11_find_9 : decode cX11_find 9 = .ok (.aload_n 0, 1) := by decide +kernel
theorem dX11_find_10 : decode cX11_find 10 = .ok (.getfield 38, 3) := by decide +kernel
theorem dX11_find_13 : decode cX11_find 13 = .ok (.iload 4, 2) := by decide +kernel
theorem dX11_find_15 : decode cX11_find 15 = .ok (.laload, 1) := by decide +kernel
theorem dX11_find_16 : decode cX11_find 16 = .ok (.lload_n 1, 1) := by decide +kernel
theorem dX11_find_17 : decode cX11_find 17 = .ok (.lcmp, 1) := by decide +kernel
theorem dX11_find_18 : decode cX11_find 18 = .ok (.ifCond .ne 6, 3) := by decide +kernel
theorem dX11_find_21 : decode cX11_find 21 = .ok (.iload 4, 2) := by decide +kernel
theorem dX11_find_23 : decode cX11_find 23 = .ok (.ireturn, 1) := by decide +kernel
theorem dX11_find_24 : decode cX11_find 24 = .ok (.iinc 4 1, 3) := by decide +kernel
theorem dX11_find_27 : decode cX11_find 27 = .ok (.goto (-24), 3) := by decide +kernel
theorem dX11_find_30 : decode cX11_find 30 = .ok (.iconst (-1), 1) := by decide +kernel
theorem dX11_find_31 : decode cX11_find 31 = .ok (.ireturn, 1) := by decide +kernel
theorem dX11_readName_0 : decode cX11_readName 0 = .ok (.aload_n 0, 1) := by decide +kernel
theorem dX11_readName_1 : decode cX11_readName 1 = .ok (.getfield 125, 3) := by decide +kernel
theorem dX11_readName_4 : decode cX11_readName 4 = .ok (.iconst 1, 1) := by decide +kernel
theorem dX11_readName_5 : decode cX11_readName 5 = .ok (.if_icmp .eq 11, 3) := by decide +kernel
theorem dX11_readName_8 : decode cX11_readName 8 = .ok (.aload_n 0, 1) := by decide +kernel
theorem dX11_readName_9 : decode cX11_readName 9 = .ok (.iconst 1, 1) := by decide +kernel
theorem dX11_readName_10 : decode cX11_readName 10 = .ok (.invokevirtual 172, 3) := by decide +kernel
theorem dX11_readName_13 : decode cX11_readName 13 = .ok (.pop, 1) := by decide +kernel
theorem dX11_readName_14 : decode cX11_readName 14 = .ok (.iconst (-1), 1) := by decide +kernel
theorem dX11_readName_15 : decode cX11_readName 15 = .ok (.ireturn, 1) := by decide +kernel
theorem dX11_readName_16 : decode cX11_readName 16 = .ok (.aload_n 0, 1) := by decide +kernel
theorem dX11_readName_17 : decode cX11_readName 17 = .ok (.getfield 50, 3) := by decide +kernel
theorem dX11_readName_20 : decode cX11_readName 20 = .ok (.aload_n 0, 1) := by decide +kernel
theorem dX11_readName_21 : decode cX11_readName 21 = .ok (.getfield 220, 3) := by decide +kernel
theorem dX11_readName_24 : decode cX11_readName 24 = .ok (.aload_n 0, 1) := by decide +kernel
theorem dX11_readName_25 : decode cX11_readName 25 = .ok (.getfield 152, 3) := by decide +kernel
theorem dX11_readName_28 : decode cX11_readName 28 = .ok (.lastore, 1) := by decide +kernel
theorem dX11_readName_29 : decode cX11_readName 29 = .ok (.aload_n 0, 1) := by decide +kernel
theorem dX11_readName_30 : decode cX11_readName 30 = .ok (.getfield 53, 3) := by decide +kernel
theorem dX11_readName_33 : decode cX11_readName 33 = .ok (.aload_n 0, 1) := by decide +kernel
theorem dX11_readName_34 : decode cX11_readName 34 = .ok (.getfield 220, 3) := by decide +kernel
theorem dX11_readName_37 : decode cX11_readName 37 = .ok (.aload_n 0, 1) := by decide +kernel
theorem dX11_readName_38 : decode cX11_readName 38 = .ok (.getfield 141, 3) := by decide +kernel
theorem dX11_readName_41 : decode cX11_readName 41 = .ok (.iastore, 1) := by decide +kernel
theorem dX11_readName_42 : decode cX11_readName 42 = .ok (.aload_n 0, 1) := by decide +kernel
theorem dX11_readName_43 : decode cX11_readName 43 = .ok (.dup, 1) := by decide +kernel
theorem dX11_readName_44 : decode cX11_readName 44 = .ok (.getfield 220, 3) := by decide +kernel
theorem dX11_readName_47 : decode cX11_readName 47 = .ok (.iconst 1, 1) := by decide +kernel
theorem dX11_readName_48 : decode cX11_readName 48 = .ok (.iadd, 1) := by decide +kernel
theorem dX11_readName_49 : decode cX11_readName 49 = .ok (.putfield 220, 3) := by decide +kernel
theorem dX11_readName_52 : decode cX11_readName 52 = .ok (.aload_n 0, 1) := by decide +kernel
theorem dX11_readName_53 : decode cX11_readName 53 = .ok (.invokevirtual 166, 3) := by decide +kernel
theorem dX11_readName_56 : decode cX11_readName 56 = .ok (.aload_n 0, 1) := by decide +kernel
theorem dX11_readName_57 : decode cX11_readName 57 = .ok (.getfield 220, 3) := by decide +kernel
theorem dX11_readName_60 : decode cX11_readName 60 = .ok (.iconst 1, 1) := by decide +kernel
theorem dX11_readName_61 : decode cX11_readName 61 = .ok (.isub, 1) := by decide +kernel
theorem dX11_readName_62 : decode cX11_readName 62 = .ok (.ireturn, 1) := by decide +kernel
theorem dX11_readLine_0 : decode cX11_readLine 0 = .ok (.aload_n 0, 1) := by decide +kernel
theorem dX11_readLine_1 : decode cX11_readLine 1 = .ok (.getfield 125, 3) := by decide +kernel
theorem dX11_readLine_4 : decode cX11_readLine 4 = .ok (.iconst 1, 1) := by decide +kernel
theorem dX11_readLine_5 : decode cX11_readLine 5 = .ok (.if_icmp .eq 9, 3) := by decide +kernel
theorem dX11_readLine_8 : decode cX11_readLine 8 = .ok (.aload_n 0, 1) := by decide +kernel
theorem dX11_readLine_9 : decode cX11_readLine 9 = .ok (.iconst 1, 1) := by decide +kernel
theorem dX11_readLine_10 : decode cX11_readLine 10 = .ok (.invokevirtual 172, 3) := by decide +kernel
theorem dX11_readLine_13 : decode cX11_readLine 13 = .ok (.ireturn, 1) := by decide +kernel
theorem dX11_readLine_14 : decode cX11_readLine 14 = .ok (.aload_n 0, 1) := by decide +kernel
theorem dX11_readLine_15 : decode cX11_readLine 15 = .ok (.aload_n 0, 1) := by decide +kernel
theorem dX11_readLine_16 : decode cX11_readLine 16 = .ok (.getfield 152, 3) := by decide +kernel
theorem dX11_readLine_19 : decode cX11_readLine 19 = .ok (.aload_n 0, 1) := by decide +kernel
theorem dX11_readLine_20 : decode cX11_readLine 20 = .ok (.getfield 223, 3) := by decide +kernel
theorem dX11_readLine_23 : decode cX11_readLine 23 = .ok (.invokevirtual 226, 3) := by decide +kernel
theorem dX11_readLine_26 : decode cX11_readLine 26 = .ok (.iconst (-1), 1) := by decide +kernel
theorem dX11_readLine_27 : decode cX11_readLine 27 = .ok (.if_icmp .eq 9, 3) := by decide +kernel
theorem dX11_readLine_30 : decode cX11_readLine 30 = .ok (.aload_n 0, 1) := by decide +kernel
theorem dX11_readLine_31 : decode cX11_readLine 31 = .ok (.iconst 3, 1) := by decide +kernel
theorem dX11_readLine_32 : decode cX11_readLine 32 = .ok (.invokevirtual 172, 3) := by decide +kernel
theorem dX11_readLine_35 : decode cX11_readLine 35 = .ok (.ireturn, 1) := by decide +kernel
theorem dX11_readLine_36 : decode cX11_readLine 36 = .ok (.aload_n 0, 1) := by decide +kernel
theorem dX11_readLine_37 : decode cX11_readLine 37 = .ok (.getfield 223, 3) := by decide +kernel
theorem dX11_readLine_40 : decode cX11_readLine 40 = .ok (.bipush 40, 2) := by decide +kernel
theorem dX11_readLine_42 : decode cX11_readLine 42 = .ok (.if_icmp .ne 9, 3) := by decide +kernel
theorem dX11_readLine_45 : decode cX11_readLine 45 = .ok (.aload_n 0, 1) := by decide +kernel
theorem dX11_readLine_46 : decode cX11_readLine 46 = .ok (.iconst 4, 1) := by decide +kernel
theorem dX11_readLine_47 : decode cX11_readLine 47 = .ok (.invokevirtual 172, 3) := by decide +kernel
theorem dX11_readLine_50 : decode cX11_readLine 50 = .ok (.ireturn, 1) := by decide +kernel
theorem dX11_readLine_51 : decode cX11_readLine 51 = .ok (.aload_n 0, 1) := by decide +kernel
theorem dX11_readLine_52 : decode cX11_readLine 52 = .ok (.getfield 223, 3) := by decide +kernel
theorem dX11_readLine_55 : decode cX11_readLine 55 = .ok (.istore_n 1, 1) := by decide +kernel
theorem dX11_readLine_56 : decode cX11_readLine 56 = .ok (.aload_n 0, 1) := by decide +kernel
theorem dX11_readLine_57 : decode cX11_readLine 57 = .ok (.getfield 38, 3) := by decide +kernel
theorem dX11_readLine_60 : decode cX11_readLine 60 = .ok (.iload_n 1, 1) := by decide +kernel
theorem dX11_readLine_61 : decode cX11_readLine 61 = .ok (.aload_n 0, 1) := by decide +kernel
theorem dX11_readLine_62 : decode cX11_readLine 62 = .ok (.getfield 152, 3) := by decide +kernel
theorem dX11_readLine_65 : decode cX11_readLine 65 = .ok (.lastore, 1) := by decide +kernel
theorem dX11_readLine_66 : decode cX11_readLine 66 = .ok (.aload_n 0, 1) := by decide +kernel
theorem dX11_readLine_67 : decode cX11_readLine 67 = .ok (.getfield 44, 3) := by decide +kernel
theorem dX11_readLine_70 : decode cX11_readLine 70 = .ok (.iload_n 1, 1) := by decide +kernel
theorem dX11_readLine_71 : decode cX11_readLine 71 = .ok (.iconst (-1), 1) := by decide +kernel
theorem dX11_readLine_72 : decode cX11_readLine 72 = .ok (.iastore, 1) := by decide +kernel
theorem dX11_readLine_73 : decode cX11_readLine 73 = .ok (.aload_n 0, 1) := by decide +kernel
theorem dX11_readLine_74 : decode cX11_readLine 74 = .ok (.getfield 47, 3) := by decide +kernel
theorem dX11_readLine_77 : decode cX11_readLine 77 = .ok (.iload_n 1, 1) := by decide +kernel
theorem dX11_readLine_78 : decode cX11_readLine 78 = .ok (.iconst (-1), 1) := by decide +kernel
theorem dX11_readLine_79 : decode cX11_readLine 79 = .ok (.iastore, 1) := by decide +kernel
theorem dX11_readLine_80 : decode cX11_readLine 80 = .ok (.aload_n 0, 1) := by decide +kernel
theorem dX11_readLine_81 : decode cX11_readLine 81 = .ok (.invokevirtual 166, 3) := by decide +kernel
theorem dX11_readLine_84 : decode cX11_readLine 84 = .ok (.aload_n 0, 1) := by decide +kernel
theorem dX11_readLine_85 : decode cX11_readLine 85 = .ok (.getfield 125, 3) := by decide +kernel
theorem dX11_readLine_88 : decode cX11_readLine 88 = .ok (.iconst 3, 1) := by decide +kernel
theorem dX11_readLine_89 : decode cX11_readLine 89 = .ok (.if_icmp .ne 106, 3) := by decide +kernel
theorem dX11_readLine_92 : decode cX11_readLine 92 = .ok (.aload_n 0, 1) := by decide +kernel
theorem dX11_readLine_93 : decode cX11_readLine 93 = .ok (.aload_n 0, 1) := by decide +kernel
theorem dX11_readLine_94 : decode cX11_readLine 94 = .ok (.getfield 141, 3) := by decide +kernel
theorem dX11_readLine_97 : decode cX11_readLine 97 = .ok (.invokevirtual 144, 3) := by decide +kernel
theorem dX11_readLine_100 : decode cX11_readLine 100 = .ok (.bipush 61, 2) := by decide +kernel
theorem dX11_readLine_102 : decode cX11_readLine 102 = .ok (.if_icmp .ne 93, 3) := by decide +kernel
theorem dX11_readLine_105 : decode cX11_readLine 105 = .ok (.aload_n 0, 1) := by decide +kernel
theorem dX11_readLine_106 : decode cX11_readLine 106 = .ok (.invokevirtual 166, 3) := by decide +kernel
theorem dX11_readLine_109 : decode cX11_readLine 109 = .ok (.aload_n 0, 1) := by decide +kernel
theorem dX11_readLine_110 : decode cX11_readLine 110 = .ok (.getfield 125, 3) := by decide +kernel
theorem dX11_readLine_113 : decode cX11_readLine 113 = .ok (.iconst 3, 1) := by decide +kernel
theorem dX11_readLine_114 : decode cX11_readLine 114 = .ok (.if_icmp .ne 20, 3) := by decide +kernel
theorem dX11_readLine_117 : decode cX11_readLine 117 = .ok (.aload_n 0, 1) := by decide +kernel
theorem dX11_readLine_118 : decode cX11_readLine 118 = .ok (.aload_n 0, 1) := by decide +kernel
theorem dX11_readLine_119 : decode cX11_readLine 119 = .ok (.getfield 141, 3) := by decide +kernel
theorem dX11_readLine_122 : decode cX11_readLine 122 = .ok (.invokevirtual 144, 3) := by decide +kernel
theorem dX11_readLine_125 : decode cX11_readLine 125 = .ok (.bipush 45, 2) := by decide +kernel
theorem dX11_readLine_127 : decode cX11_readLine 127 = .ok (.if_icmp .ne 7, 3) := by decide +kernel
theorem dX11_readLine_130 : decode cX11_readLine 130 = .ok (.iconst 1, 1) := by decide +kernel
theorem dX11_readLine_131 : decode cX11_readLine 131 = .ok (.goto 4, 3) := by decide +kernel
theorem dX11_readLine_134 : decode cX11_readLine 134 = .ok (.iconst 0, 1) := by decide +kernel
theorem dX11_readLine_135 : decode cX11_readLine 135 = .ok (.istore_n 2, 1) := by decide +kernel
theorem dX11_readLine_136 : decode cX11_readLine 136 = .ok (.iload_n 2, 1) := by decide +kernel
theorem dX11_readLine_137 : decode cX11_readLine 137 = .ok (.ifCond .eq 7, 3) := by decide +kernel
theorem dX11_readLine_140 : decode cX11_readLine 140 = .ok (.aload_n 0, 1) := by decide +kernel
theorem dX11_readLine_141 : decode cX11_readLine 141 = .ok (.invokevirtual 166, 3) := by decide +kernel
theorem dX11_readLine_144 : decode cX11_readLine 144 = .ok (.aload_n 0, 1) := by decide +kernel
theorem dX11_readLine_145 : decode cX11_readLine 145 = .ok (.getfield 125, 3) := by decide +kernel
theorem dX11_readLine_148 : decode cX11_readLine 148 = .ok (.iconst 2, 1) := by decide +kernel
theorem dX11_readLine_149 : decode cX11_readLine 149 = .ok (.if_icmp .eq 9, 3) := by decide +kernel
theorem dX11_readLine_152 : decode cX11_readLine 152 = .ok (.aload_n 0, 1) := by decide +kernel
theorem dX11_readLine_153 : decode cX11_readLine 153 = .ok (.iconst 1, 1) := by decide +kernel
theorem dX11_readLine_154 : decode cX11_readLine 154 = .ok (.invokevirtual 172, 3) := by decide +kernel
theorem dX11_readLine_157 : decode cX11_readLine 157 = .ok (.ireturn, 1) := by decide +kernel
theorem dX11_readLine_158 : decode cX11_readLine 158 = .ok (.aload_n 0, 1) := by decide +kernel
theorem dX11_readLine_159 : decode cX11_readLine 159 = .ok (.getfield 41, 3) := by decide +kernel
theorem dX11_readLine_162 : decode cX11_readLine 162 = .ok (.iload_n 1, 1) := by decide +kernel
theorem dX11_readLine_163 : decode cX11_readLine 163 = .ok (.iload_n 2, 1) := by decide +kernel
theorem dX11_readLine_164 : decode cX11_readLine 164 = .ok (.ifCond .eq 11, 3) := by decide +kernel
theorem dX11_readLine_167 : decode cX11_readLine 167 = .ok (.aload_n 0, 1) := by decide +kernel
theorem dX11_readLine_168 : decode cX11_readLine 168 = .ok (.getfield 163, 3) := by decide +kernel
theorem dX11_readLine_171 : decode cX11_readLine 171 = .ok (.ineg, 1) := by decide +kernel
theorem dX11_readLine_172 : decode cX11_readLine 172 = .ok (.goto 7, 3) := by decide +kernel
theorem dX11_readLine_175 : decode cX11_readLine 175 = .ok (.aload_n 0, 1) := by decide +kernel
theorem dX11_readLine_176 : decode cX11_readLine 176 = .ok (.getfield 163, 3) := by decide +kernel
theorem dX11_readLine_179 : decode cX11_readLine 179 = .ok (.iastore, 1) := by decide +kernel
theorem dX11_readLine_180 : decode cX11_readLine 180 = .ok (.aload_n 0, 1) := by decide +kernel
theorem dX11_readLine_181 : decode cX11_readLine 181 = .ok (.invokevirtual 166, 3) := by decide +kernel
theorem dX11_readLine_184 : decode cX11_readLine 184 = .ok (.aload_n 0, 1) := by decide +kernel
theorem dX11_readLine_185 : decode cX11_readLine 185 = .ok (.getfield 44, 3) := by decide +kernel
theorem dX11_readLine_188 : decode cX11_readLine 188 = .ok (.iload_n 1, 1) := by decide +kernel
theorem dX11_readLine_189 : decode cX11_readLine 189 = .ok (.bipush (-2), 2) := by decide +kernel
theorem dX11_readLine_191 : decode cX11_readLine 191 = .ok (.iastore, 1) := by decide +kernel
theorem dX11_readLine_192 : decode cX11_readLine 192 = .ok (.goto 111, 3) := by decide +kernel
theorem dX11_readLine_195 : decode cX11_readLine 195 = .ok (.aload_n 0, 1) := by decide +kernel
theorem dX11_readLine_196 : decode cX11_readLine 196 = .ok (.bipush 58, 2) := by decide +kernel
theorem dX11_readLine_198 : decode cX11_readLine 198 = .ok (.invokevirtual 188, 3) := by decide +kernel
theorem dX11_readLine_201 : decode cX11_readLine 201 = .ok (.ifCond .ne 5, 3) := by decide +kernel
theorem dX11_readLine_204 : decode cX11_readLine 204 = .ok (.iconst 0, 1) := by decide +kernel
theorem dX11_readLine_205 : decode cX11_readLine 205 = .ok (.ireturn, 1) := by decide +kernel
theorem dX11_readLine_206 : decode cX11_readLine 206 = .ok (.aload_n 0, 1) := by decide +kernel
theorem dX11_readLine_207 : decode cX11_readLine 207 = .ok (.ldc 230, 2) := by decide +kernel
theorem dX11_readLine_209 : decode cX11_readLine 209 = .ok (.invokevirtual 177, 3) := by decide +kernel
theorem dX11_readLine_212 : decode cX11_readLine 212 = .ok (.istore_n 2, 1) := by decide +kernel
theorem dX11_readLine_213 : decode cX11_readLine 213 = .ok (.iload_n 2, 1) := by decide +kernel
theorem dX11_readLine_214 : decode cX11_readLine 214 = .ok (.iconst (-1), 1) := by decide +kernel
theorem dX11_readLine_215 : decode cX11_readLine 215 = .ok (.if_icmp .ne 9, 3) := by decide +kernel
theorem dX11_readLine_218 : decode cX11_readLine 218 = .ok (.aload_n 0, 1) := by decide +kernel
theorem dX11_readLine_219 : decode cX11_readLine 219 = .ok (.iconst 1, 1) := by decide +kernel
theorem dX11_readLine_220 : decode cX11_readLine 220 = .ok (.invokevirtual 172, 3) := by decide +kernel
theorem dX11_readLine_223 : decode cX11_readLine 223 = .ok (.ireturn, 1) := by decide +kernel
theorem dX11_readLine_224 : decode cX11_readLine 224 = .ok (.aload_n 0, 1) := by decide +kernel
theorem dX11_readLine_225 : decode cX11_readLine 225 = .ok (.getfield 41, 3) := by decide +kernel
theorem dX11_readLine_228 : decode cX11_readLine 228 = .ok (.iload_n 1, 1) := by decide +kernel
theorem dX11_readLine_229 : decode cX11_readLine 229 = .ok (.iload_n 2, 1) := by decide +kernel
theorem dX11_readLine_230 : decode cX11_readLine 230 = .ok (.iastore, 1) := by decide +kernel
theorem dX11_readLine_231 : decode cX11_readLine 231 = .ok (.aload_n 0, 1) := by decide +kernel
theorem dX11_readLine_232 : decode cX11_readLine 232 = .ok (.invokevirtual 166, 3) := by decide +kernel
theorem dX11_readLine_235 : decode cX11_readLine 235 = .ok (.iload_n 2, 1) := by decide +kernel
theorem dX11_readLine_236 : decode cX11_readLine 236 = .ok (.iconst 1, 1) := by decide +kernel
theorem dX11_readLine_237 : decode cX11_readLine 237 = .ok (.bipush 7, 2) := by decide +kernel
theorem dX11_readLine_239 : decode cX11_readLine 239 = .ok (.invokestatic 181, 3) := by decide +kernel
theorem dX11_readLine_242 : decode cX11_readLine 242 = .ok (.ifCond .eq 25, 3) := by decide +kernel
theorem dX11_readLine_245 : decode cX11_readLine 245 = .ok (.aload_n 0, 1) := by decide +kernel
theorem dX11_readLine_246 : decode cX11_readLine 246 = .ok (.getfield 44, 3) := by decide +kernel
theorem dX11_readLine_249 : decode cX11_readLine 249 = .ok (.iload_n 1, 1) := by decide +kernel
theorem dX11_readLine_250 : decode cX11_readLine 250 = .ok (.aload_n 0, 1) := by decide +kernel
theorem dX11_readLine_251 : decode cX11_readLine 251 = .ok (.invokevirtual 232, 3) := by decide +kernel
theorem dX11_readLine_254 : decode cX11_readLine 254 = .ok (.iastore, 1) := by decide +kernel
theorem dX11_readLine_255 : decode cX11_readLine 255 = .ok (.aload_n 0, 1) := by decide +kernel
theorem dX11_readLine_256 : decode cX11_readLine 256 = .ok (.getfield 44, 3) := by decide +kernel
theorem dX11_readLine_259 : decode cX11_readLine 259 = .ok (.iload_n 1, 1) := by decide +kernel
theorem dX11_readLine_260 : decode cX11_readLine 260 = .ok (.iaload, 1) := by decide +kernel
theorem dX11_readLine_261 : decode cX11_readLine 261 = .ok (.iconst (-1), 1) := by decide +kernel
theorem dX11_readLine_262 : decode cX11_readLine 262 = .ok (.if_icmp .ne 5, 3) := by decide +kernel
theorem dX11_readLine_265 : decode cX11_readLine 265 = .ok (.iconst 0, 1) := by decide +kernel
theorem dX11_readLine_266 : decode cX11_readLine 266 = .ok (.ireturn, 1) := by decide +kernel
theorem dX11_readLine_267 : decode cX11_readLine 267 = .ok (.aload_n 0, 1) := by decide +kernel
theorem dX11_readLine_268 : decode cX11_readLine 268 = .ok (.ldc 175, 2) := by decide +kernel
theorem dX11_readLine_270 : decode cX11_readLine 270 = .ok (.invokevirtual 177, 3) := by decide +kernel
theorem dX11_readLine_273 : decode cX11_readLine 273 = .ok (.iconst 4, 1) := by decide +kernel
theorem dX11_readLine_274 : decode cX11_readLine 274 = .ok (.if_icmp .ne 29, 3) := by decide +kernel
theorem dX11_readLine_277 : decode cX11_readLine 277 = .ok (.aload_n 0, 1) := by decide +kernel
theorem dX11_readLine_278 : decode cX11_readLine 278 = .ok (.invokevirtual 166, 3) := by decide +kernel
theorem dX11_readLine_281 : decode cX11_readLine 281 = .ok (.aload_n 0, 1) := by decide +kernel
theorem dX11_readLine_282 : decode cX11_readLine 282 = .ok (.getfield 47, 3) := by decide +kernel
theorem dX11_readLine_285 : decode cX11_readLine 285 = .ok (.iload_n 1, 1) := by decide +kernel
theorem dX11_readLine_286 : decode cX11_readLine 286 = .ok (.aload_n 0, 1) := by decide +kernel
theorem dX11_readLine_287 : decode cX11_readLine 287 = .ok (.invokevirtual 232, 3) := by decide +kernel
theorem dX11_readLine_290 : decode cX11_readLine 290 = .ok (.iastore, 1) := by decide +kernel
theorem dX11_readLine_291 : decode cX11_readLine 291 = .ok (.aload_n 0, 1) := by decide +kernel
theorem dX11_readLine_292 : decode cX11_readLine 292 = .ok (.getfield 47, 3) := by decide +kernel
theorem dX11_readLine_295 : decode cX11_readLine 295 = .ok (.iload_n 1, 1) := by decide +kernel
theorem dX11_readLine_296 : decode cX11_readLine 296 = .ok (.iaload, 1) := by decide +kernel
theorem dX11_readLine_297 : decode cX11_readLine 297 = .ok (.iconst (-1), 1) := by decide +kernel
theorem dX11_readLine_298 : decode cX11_readLine 298 = .ok (.if_icmp .ne 5, 3) := by decide +kernel
theorem dX11_readLine_301 : decode cX11_readLine 301 = .ok (.iconst 0, 1) := by decide +kernel
theorem dX11_readLine_302 : decode cX11_readLine 302 = .ok (.ireturn, 1) := by decide +kernel
theorem dX11_readLine_303 : decode cX11_readLine 303 = .ok (.aload_n 0, 1) := by decide +kernel
theorem dX11_readLine_304 : decode cX11_readLine 304 = .ok (.dup, 1) := by decide +kernel
theorem dX11_readLine_305 : decode cX11_readLine 305 = .ok (.getfield 223, 3) := by decide +kernel
theorem dX11_readLine_308 : decode cX11_readLine 308 = .ok (.iconst 1, 1) := by decide +kernel
theorem dX11_readLine_309 : decode cX11_readLine 309 = .ok (.iadd, 1) := by decide +kernel
theorem dX11_readLine_310 : decode cX11_readLine 310 = .ok (.putfield 223, 3) := by decide +kernel
theorem dX11_readLine_313 : decode cX11_readLine 313 = .ok (.aload_n 0, 1) := by decide +kernel
theorem dX11_readLine_314 : decode cX11_readLine 314 = .ok (.bipush 59, 2) := by decide +kernel
theorem dX11_readLine_316 : decode cX11_readLine 316 = .ok (.invokevirtual 188, 3) := by decide +kernel
theorem dX11_readLine_319 : decode cX11_readLine 319 = .ok (.ireturn, 1) := by decide +kernel
theorem dX11_program_0 : decode cX11_program 0 = .ok (.aload_n 0, 1) := by decide +kernel
theorem dX11_program_1 : decode cX11_program 1 = .ok (.invokevirtual 204, 3) := by decide +kernel
theorem dX11_program_4 : decode cX11_program 4 = .ok (.aload_n 0, 1) := by decide +kernel
theorem dX11_program_5 : decode cX11_program 5 = .ok (.iconst 0, 1) := by decide +kernel
theorem dX11_program_6 : decode cX11_program 6 = .ok (.putfield 223, 3) := by decide +kernel
theorem dX11_program_9 : decode cX11_program 9 = .ok (.aload_n 0, 1) := by decide +kernel
theorem dX11_program_10 : decode cX11_program 10 = .ok (.iconst 0, 1) := by decide +kernel
theorem dX11_program_11 : decode cX11_program 11 = .ok (.putfield 220, 3) := by decide +kernel
theorem dX11_program_14 : decode cX11_program 14 = .ok (.aload_n 0, 1) := by decide +kernel
theorem dX11_program_15 : decode cX11_program 15 = .ok (.getfield 125, 3) := by decide +kernel
theorem dX11_program_18 : decode cX11_program 18 = .ok (.iconst 4, 1) := by decide +kernel
theorem dX11_program_19 : decode cX11_program 19 = .ok (.if_icmp .eq 12, 3) := by decide +kernel
theorem dX11_program_22 : decode cX11_program 22 = .ok (.aload_n 0, 1) := by decide +kernel
theorem dX11_program_23 : decode cX11_program 23 = .ok (.invokevirtual 235, 3) := by decide +kernel
theorem dX11_program_26 : decode cX11_program 26 = .ok (.ifCond .ne (-12), 3) := by decide +kernel
theorem dX11_program_29 : decode cX11_program 29 = .ok (.iconst (-1), 1) := by decide +kernel
theorem dX11_program_30 : decode cX11_program 30 = .ok (.ireturn, 1) := by decide +kernel
theorem dX11_program_31 : decode cX11_program 31 = .ok (.iconst 0, 1) := by decide +kernel
theorem dX11_program_32 : decode cX11_program 32 = .ok (.istore_n 1, 1) := by decide +kernel
theorem dX11_program_33 : decode cX11_program 33 = .ok (.iload_n 1, 1) := by decide +kernel
theorem dX11_program_34 : decode cX11_program 34 = .ok (.aload_n 0, 1) := by decide +kernel
theorem dX11_program_35 : decode cX11_program 35 = .ok (.getfield 220, 3) := by decide +kernel
theorem dX11_program_38 : decode cX11_program 38 = .ok (.if_icmp .ge 48, 3) := by decide +kernel
theorem dX11_program_41 : decode cX11_program 41 = .ok (.aload_n 0, 1) := by decide +kernel
theorem dX11_program_42 : decode cX11_program 42 = .ok (.aload_n 0, 1) := by decide +kernel
theorem dX11_program_43 : decode cX11_program 43 = .ok (.getfield 50, 3) := by decide +kernel
theorem dX11_program_46 : decode cX11_program 46 = .ok (.iload_n 1, 1) := by decide +kernel
theorem dX11_program_47 : decode cX11_program 47 = .ok (.laload, 1) := by decide +kernel
theorem dX11_program_48 : decode cX11_program 48 = .ok (.aload_n 0, 1) := by decide +kernel
theorem dX11_program_49 : decode cX11_program 49 = .ok (.getfield 223, 3) := by decide +kernel
theorem dX11_program_52 : decode cX11_program 52 = .ok (.invokevirtual 226, 3) := by decide +kernel
theorem dX11_program_55 : decode cX11_program 55 = .ok (.iconst (-1), 1) := by decide +kernel
theorem dX11_program_56 : decode cX11_program 56 = .ok (.if_icmp .eq 6, 3) := by decide +kernel
theorem dX11_program_59 : decode cX11_program 59 = .ok (.goto 21, 3) := by decide +kernel
theorem dX11_program_62 : decode cX11_program 62 = .ok (.aload_n 0, 1) := by decide +kernel
theorem dX11_program_63 : decode cX11_program 63 = .ok (.aload_n 0, 1) := by decide +kernel
theorem dX11_program_64 : decode cX11_program 64 = .ok (.getfield 53, 3) := by decide +kernel
theorem dX11_program_67 : decode cX11_program 67 = .ok (.iload_n 1, 1) := by decide +kernel
theorem dX11_program_68 : decode cX11_program 68 = .ok (.iaload, 1) := by decide +kernel
theorem dX11_program_69 : decode cX11_program 69 = .ok (.putfield 141, 3) := by decide +kernel
theorem dX11_program_72 : decode cX11_program 72 = .ok (.aload_n 0, 1) := by decide +kernel
theorem dX11_program_73 : decode cX11_program 73 = .ok (.iconst 5, 1) := by decide +kernel
theorem dX11_program_74 : decode cX11_program 74 = .ok (.invokevirtual 172, 3) := by decide +kernel
theorem dX11_program_77 : decode cX11_program 77 = .ok (.pop, 1) := by decide +kernel
theorem dX11_program_78 : decode cX11_program 78 = .ok (.iconst (-1), 1) := by decide +kernel
theorem dX11_program_79 : decode cX11_program 79 = .ok (.ireturn, 1) := by decide +kernel
theorem dX11_program_80 : decode cX11_program 80 = .ok (.iinc 1 1, 3) := by decide +kernel
theorem dX11_program_83 : decode cX11_program 83 = .ok (.goto (-50), 3) := by decide +kernel
theorem dX11_program_86 : decode cX11_program 86 = .ok (.aload_n 0, 1) := by decide +kernel
theorem dX11_program_87 : decode cX11_program 87 = .ok (.getfield 223, 3) := by decide +kernel
theorem dX11_program_90 : decode cX11_program 90 = .ok (.aload_n 0, 1) := by decide +kernel
theorem dX11_program_91 : decode cX11_program 91 = .ok (.invokevirtual 211, 3) := by decide +kernel
theorem dX11_program_94 : decode cX11_program 94 = .ok (.if_icmp .le 6, 3) := by decide +kernel
theorem dX11_program_97 : decode cX11_program 97 = .ok (.bipush (-3), 2) := by decide +kernel
theorem dX11_program_99 : decode cX11_program 99 = .ok (.ireturn, 1) := by decide +kernel
theorem dX11_program_100 : decode cX11_program 100 = .ok (.aload_n 0, 1) := by decide +kernel
theorem dX11_program_101 : decode cX11_program 101 = .ok (.aload_n 0, 1) := by decide +kernel
theorem dX11_program_102 : decode cX11_program 102 = .ok (.getfield 223, 3) := by decide +kernel
theorem dX11_program_105 : decode cX11_program 105 = .ok (.putfield 194, 3) := by decide +kernel
theorem dX11_program_108 : decode cX11_program 108 = .ok (.iconst 0, 1) := by decide +kernel
theorem dX11_program_109 : decode cX11_program 109 = .ok (.istore_n 1, 1) := by decide +kernel
theorem dX11_program_110 : decode cX11_program 110 = .ok (.iload_n 1, 1) := by decide +kernel
theorem dX11_program_111 : decode cX11_program 111 = .ok (.aload_n 0, 1) := by decide +kernel
theorem dX11_program_112 : decode cX11_program 112 = .ok (.getfield 194, 3) := by decide +kernel
theorem dX11_program_115 : decode cX11_program 115 = .ok (.if_icmp .ge 154, 3) := by decide +kernel
theorem dX11_program_118 : decode cX11_program 118 = .ok (.aload_n 0, 1) := by decide +kernel
theorem dX11_program_119 : decode cX11_program 119 = .ok (.getfield 28, 3) := by decide +kernel
theorem dX11_program_122 : decode cX11_program 122 = .ok (.iload_n 1, 1) := by decide +kernel
theorem dX11_program_123 : decode cX11_program 123 = .ok (.aload_n 0, 1) := by decide +kernel
theorem dX11_program_124 : decode cX11_program 124 = .ok (.getfield 38, 3) := by decide +kernel
theorem dX11_program_127 : decode cX11_program 127 = .ok (.iload_n 1, 1) := by decide +kernel
theorem dX11_program_128 : decode cX11_program 128 = .ok (.laload, 1) := by decide +kernel
theorem dX11_program_129 : decode cX11_program 129 = .ok (.lastore, 1) := by decide +kernel
theorem dX11_program_130 : decode cX11_program 130 = .ok (.aload_n 0, 1) := by decide +kernel
theorem dX11_program_131 : decode cX11_program 131 = .ok (.getfield 44, 3) := by decide +kernel
theorem dX11_program_134 : decode cX11_program 134 = .ok (.iload_n 1, 1) := by decide +kernel
theorem dX11_program_135 : decode cX11_program 135 = .ok (.iaload, 1) := by decide +kernel
theorem dX11_program_136 : decode cX11_program 136 = .ok (.bipush (-2), 2) := by decide +kernel
theorem dX11_program_138 : decode cX11_program 138 = .ok (.if_icmp .ne 18, 3) := by decide +kernel
theorem dX11_program_141 : decode cX11_program 141 = .ok (.aload_n 0, 1) := by decide +kernel
theorem dX11_program_142 : decode cX11_program 142 = .ok (.getfield 32, 3) := by decide +kernel
theorem dX11_program_145 : decode cX11_program 145 = .ok (.iload_n 1, 1) := by decide +kernel
theorem dX11_program_146 : decode cX11_program 146 = .ok (.aload_n 0, 1) := by decide +kernel
theorem dX11_program_147 : decode cX11_program 147 = .ok (.getfield 41, 3) := by decide +kernel
theorem dX11_program_150 : decode cX11_program 150 = .ok (.iload_n 1, 1) := by decide +kernel
theorem dX11_program_151 : decode cX11_program 151 = .ok (.iaload, 1) := by decide +kernel
theorem dX11_program_152 : decode cX11_program 152 = .ok (.iastore, 1) := by decide +kernel
theorem dX11_program_153 : decode cX11_program 153 = .ok (.goto 110, 3) := by decide +kernel
theorem dX11_program_156 : decode cX11_program 156 = .ok (.aload_n 0, 1) := by decide +kernel
theorem dX11_program_157 : decode cX11_program 157 = .ok (.getfield 44, 3) := by decide +kernel
theorem dX11_program_160 : decode cX11_program 160 = .ok (.iload_n 1, 1) := by decide +kernel
theorem dX11_program_161 : decode cX11_program 161 = .ok (.iaload, 1) := by decide +kernel
theorem dX11_program_162 : decode cX11_program 162 = .ok (.iconst (-1), 1) := by decide +kernel
theorem dX11_program_163 : decode cX11_program 163 = .ok (.if_icmp .ne 7, 3) := by decide +kernel
theorem dX11_program_166 : decode cX11_program 166 = .ok (.iconst 0, 1) := by decide +kernel
theorem dX11_program_167 : decode cX11_program 167 = .ok (.goto 22, 3) := by decide +kernel
theorem dX11_program_170 : decode cX11_program 170 = .ok (.aload_n 0, 1) := by decide +kernel
theorem dX11_program_171 : decode cX11_program 171 = .ok (.aload_n 0, 1) := by decide +kernel
theorem dX11_program_172 : decode cX11_program 172 = .ok (.getfield 50, 3) := by decide +kernel
theorem dX11_program_175 : decode cX11_program 175 = .ok (.aload_n 0, 1) := by decide +kernel
theorem dX11_program_176 : decode cX11_program 176 = .ok (.getfield 44, 3) := by decide +kernel
theorem dX11_program_179 : decode cX11_program 179 = .ok (.iload_n 1, 1) := by decide +kernel
theorem dX11_program_180 : decode cX11_program 180 = .ok (.iaload, 1) := by decide +kernel
theorem dX11_program_181 : decode cX11_program 181 = .ok (.laload, 1) := by decide +kernel
theorem dX11_program_182 : decode cX11_program 182 = .ok (.aload_n 0, 1) := by decide +kernel
theorem dX11_program_183 : decode cX11_program 183 = .ok (.getfield 194, 3) := by decide +kernel
theorem dX11_program_186 : decode cX11_program 186 = .ok (.invokevirtual 226, 3) := by decide +kernel
theorem dX11_program_189 : decode cX11_program 189 = .ok (.istore_n 2, 1) := by decide +kernel
theorem dX11_program_190 : decode cX11_program 190 = .ok (.aload_n 0, 1) := by decide +kernel
theorem dX11_program_191 : decode cX11_program 191 = .ok (.getfield 47, 3) := by decide +kernel
theorem dX11_program_194 : decode cX11_program 194 = .ok (.iload_n 1, 1) := by decide +kernel
theorem dX11_program_195 : decode cX11_program 195 = .ok (.iaload, 1) := by decide +kernel
theorem dX11_program_196 : decode cX11_program 196 = .ok (.iconst (-1), 1) := by decide +kernel
theorem dX11_program_197 : decode cX11_program 197 = .ok (.if_icmp .eq 25, 3) := by decide +kernel
theorem dX11_program_200 : decode cX11_program 200 = .ok (.aload_n 0, 1) := by decide +kernel
theorem dX11_program_201 : decode cX11_program 201 = .ok (.aload_n 0, 1) := by decide +kernel
theorem dX11_program_202 : decode cX11_program 202 = .ok (.getfield 50, 3) := by decide +kernel
theorem dX11_program_205 : decode cX11_program 205 = .ok (.aload_n 0, 1) := by decide +kernel
theorem dX11_program_206 : decode cX11_program 206 = .ok (.getfield 47, 3) := by decide +kernel
theorem dX11_program_209 : decode cX11_program 209 = .ok (.iload_n 1, 1) := by decide +kernel
theorem dX11_program_210 : decode cX11_program 210 = .ok (.iaload, 1) := by decide +kernel
theorem dX11_program_211 : decode cX11_program 211 = .ok (.laload, 1) := by decide +kernel
theorem dX11_program_212 : decode cX11_program 212 = .ok (.aload_n 0, 1) := by decide +kernel
theorem dX11_program_213 : decode cX11_program 213 = .ok (.getfield 194, 3) := by decide +kernel
theorem dX11_program_216 : decode cX11_program 216 = .ok (.invokevirtual 226, 3) := by decide +kernel
theorem dX11_program_219 : decode cX11_program 219 = .ok (.goto 20, 3) := by decide +kernel
theorem dX11_program_222 : decode cX11_program 222 = .ok (.iload_n 1, 1) := by decide +kernel
theorem dX11_program_223 : decode cX11_program 223 = .ok (.iconst 1, 1) := by decide +kernel
theorem dX11_program_224 : decode cX11_program 224 = .ok (.iadd, 1) := by decide +kernel
theorem dX11_program_225 : decode cX11_program 225 = .ok (.aload_n 0, 1) := by decide +kernel
theorem dX11_program_226 : decode cX11_program 226 = .ok (.getfield 194, 3) := by decide +kernel
theorem dX11_program_229 : decode cX11_program 229 = .ok (.if_icmp .ge 9, 3) := by decide +kernel
theorem dX11_program_232 : decode cX11_program 232 = .ok (.iload_n 1, 1) := by decide +kernel
theorem dX11_program_233 : decode cX11_program 233 = .ok (.iconst 1, 1) := by decide +kernel
theorem dX11_program_234 : decode cX11_program 234 = .ok (.iadd, 1) := by decide +kernel
theorem dX11_program_235 : decode cX11_program 235 = .ok (.goto 4, 3) := by decide +kernel
theorem dX11_program_238 : decode cX11_program 238 = .ok (.iload_n 1, 1) := by decide +kernel
theorem dX11_program_239 : decode cX11_program 239 = .ok (.istore_n 3, 1) := by decide +kernel
theorem dX11_program_240 : decode cX11_program 240 = .ok (.aload_n 0, 1) := by decide +kernel
theorem dX11_program_241 : decode cX11_program 241 = .ok (.getfield 32, 3) := by decide +kernel
theorem dX11_program_244 : decode cX11_program 244 = .ok (.iload_n 1, 1) := by decide +kernel
theorem dX11_program_245 : decode cX11_program 245 = .ok (.sipush 10000, 3) := by decide +kernel
theorem dX11_program_248 : decode cX11_program 248 = .ok (.aload_n 0, 1) := by decide +kernel
theorem dX11_program_249 : decode cX11_program 249 = .ok (.getfield 41, 3) := by decide +kernel
theorem dX11_program_252 : decode cX11_program 252 = .ok (.iload_n 1, 1) := by decide +kernel
theorem dX11_program_253 : decode cX11_program 253 = .ok (.iaload, 1) := by decide +kernel
theorem dX11_program_254 : decode cX11_program 254 = .ok (.imul, 1) := by decide +kernel
theorem dX11_program_255 : decode cX11_program 255 = .ok (.bipush 100, 2) := by decide +kernel
theorem dX11_program_257 : decode cX11_program 257 = .ok (.iload_n 2, 1) := by decide +kernel
theorem dX11_program_258 : decode cX11_program 258 = .ok (.imul, 1) := by decide +kernel
theorem dX11_program_259 : decode cX11_program 259 = .ok (.iadd, 1) := by decide +kernel
theorem dX11_program_260 : decode cX11_program 260 = .ok (.iload_n 3, 1) := by decide +kernel
theorem dX11_program_261 : decode cX11_program 261 = .ok (.iadd, 1) := by decide +kernel
theorem dX11_program_262 : decode cX11_program 262 = .ok (.iastore, 1) := by decide +kernel
theorem dX11_program_263 : decode cX11_program 263 = .ok (.iinc 1 1, 3) := by decide +kernel
theorem dX11_program_266 : decode cX11_program 266 = .ok (.goto (-156), 3) := by decide +kernel
theorem dX11_program_269 : decode cX11_program 269 = .ok (.aload_n 0, 1) := by decide +kernel
theorem dX11_program_270 : decode cX11_program 270 = .ok (.iconst 0, 1) := by decide +kernel
theorem dX11_program_271 : decode cX11_program 271 = .ok (.putfield 214, 3) := by decide +kernel
theorem dX11_program_274 : decode cX11_program 274 = .ok (.aload_n 0, 1) := by decide +kernel
theorem dX11_program_275 : decode cX11_program 275 = .ok (.invokevirtual 217, 3) := by decide +kernel
theorem dX11_program_278 : decode cX11_program 278 = .ok (.aload_n 0, 1) := by decide +kernel
theorem dX11_program_279 : decode cX11_program 279 = .ok (.getfield 194, 3) := by decide +kernel
theorem dX11_program_282 : decode cX11_program 282 = .ok (.ireturn, 1) := by decide +kernel
theorem dX11_told_0 : decode cX11_told 0 = .ok (.iload_n 1, 1) := by decide +kernel
theorem dX11_told_1 : decode cX11_told 1 = .ok (.tableswitch 78 0 6 #[43, 48, 53, 58, 63, 68, 73], 43) := by decide +kernel
theorem dX11_told_44 : decode cX11_told 44 = .ok (.aload_n 0, 1) := by decide +kernel
theorem dX11_told_45 : decode cX11_told 45 = .ok (.getfield 113, 3) := by decide +kernel
theorem dX11_told_48 : decode cX11_told 48 = .ok (.ireturn, 1) := by decide +kernel
theorem dX11_told_49 : decode cX11_told 49 = .ok (.aload_n 0, 1) := by decide +kernel
theorem dX11_told_50 : decode cX11_told 50 = .ok (.getfield 116, 3) := by decide +kernel
theorem dX11_told_53 : decode cX11_told 53 = .ok (.ireturn, 1) := by decide +kernel
theorem dX11_told_54 : decode cX11_told 54 = .ok (.aload_n 0, 1) := by decide +kernel
theorem dX11_told_55 : decode cX11_told 55 = .ok (.invokevirtual 211, 3) := by decide +kernel
theorem dX11_told_58 : decode cX11_told 58 = .ok (.ireturn, 1) := by decide +kernel
theorem dX11_told_59 : decode cX11_told 59 = .ok (.aload_n 0, 1) := by decide +kernel
theorem dX11_told_60 : decode cX11_told 60 = .ok (.getfield 194, 3) := by decide +kernel
theorem dX11_told_63 : decode cX11_told 63 = .ok (.ireturn, 1) := by decide +kernel
theorem dX11_told_64 : decode cX11_told 64 = .ok (.aload_n 0, 1) := by decide +kernel
theorem dX11_told_65 : decode cX11_told 65 = .ok (.getfield 214, 3) := by decide +kernel
theorem dX11_told_68 : decode cX11_told 68 = .ok (.ireturn, 1) := by decide +kernel
theorem dX11_told_69 : decode cX11_told 69 = .ok (.aload_n 0, 1) := by decide +kernel
theorem dX11_told_70 : decode cX11_told 70 = .ok (.getfield 238, 3) := by decide +kernel
theorem dX11_told_73 : decode cX11_told 73 = .ok (.ireturn, 1) := by decide +kernel
theorem dX11_told_74 : decode cX11_told 74 = .ok (.aload_n 0, 1) := by decide +kernel
theorem dX11_told_75 : decode cX11_told 75 = .ok (.getfield 119, 3) := by decide +kernel
theorem dX11_told_78 : decode cX11_told 78 = .ok (.ireturn, 1) := by decide +kernel
theorem dX11_told_79 : decode cX11_told 79 = .ok (.iload_n 1, 1) := by decide +kernel
theorem dX11_told_80 : decode cX11_told 80 = .ok (.bipush 10, 2) := by decide +kernel
theorem dX11_told_82 : decode cX11_told 82 = .ok (.bipush 9, 2) := by decide +kernel
theorem dX11_told_84 : decode cX11_told 84 = .ok (.aload_n 0, 1) := by decide +kernel
theorem dX11_told_85 : decode cX11_told 85 = .ok (.getfield 116, 3) := by decide +kernel
theorem dX11_told_88 : decode cX11_told 88 = .ok (.iadd, 1) := by decide +kernel
theorem dX11_told_89 : decode cX11_told 89 = .ok (.invokestatic 181, 3) := by decide +kernel
theorem dX11_told_92 : decode cX11_told 92 = .ok (.ifCond .eq 15, 3) := by decide +kernel
theorem dX11_told_95 : decode cX11_told 95 = .ok (.aload_n 0, 1) := by decide +kernel
theorem dX11_told_96 : decode cX11_told 96 = .ok (.getfield 17, 3) := by decide +kernel
theorem dX11_told_99 : decode cX11_told 99 = .ok (.iload_n 1, 1) := by decide +kernel
theorem dX11_told_100 : decode cX11_told 100 = .ok (.bipush 10, 2) := by decide +kernel
theorem dX11_told_102 : decode cX11_told 102 = .ok (.isub, 1) := by decide +kernel
theorem dX11_told_103 : decode cX11_told 103 = .ok (.iaload, 1) := by decide +kernel
theorem dX11_told_104 : decode cX11_told 104 = .ok (.goto 4, 3) := by decide +kernel
theorem dX11_told_107 : decode cX11_told 107 = .ok (.iconst (-1), 1) := by decide +kernel
theorem dX11_told_108 : decode cX11_told 108 = .ok (.ireturn, 1) := by decide +kernel
theorem dX11_isName_0 : decode cX11_isName 0 = .ok (.iload_n 1, 1) := by decide +kernel
theorem dX11_isName_1 : decode cX11_isName 1 = .ok (.iconst 0, 1) := by decide +kernel
theorem dX11_isName_2 : decode cX11_isName 2 = .ok (.aload_n 0, 1) := by decide +kernel
theorem dX11_isName_3 : decode cX11_isName 3 = .ok (.getfield 194, 3) := by decide +kernel
theorem dX11_isName_6 : decode cX11_isName 6 = .ok (.iconst 1, 1) := by decide +kernel
theorem dX11_isName_7 : decode cX11_isName 7 = .ok (.isub, 1) := by decide +kernel
theorem dX11_isName_8 : decode cX11_isName 8 = .ok (.invokestatic 181, 3) := by decide +kernel
theorem dX11_isName_11 : decode cX11_isName 11 = .ok (.ireturn, 1) := by decide +kernel
theorem dX11_value_0 : decode cX11_value 0 = .ok (.aload_n 0, 1) := by decide +kernel
theorem dX11_value_1 : decode cX11_value 1 = .ok (.iload_n 1, 1) := by decide +kernel
theorem dX11_value_2 : decode cX11_value 2 = .ok (.invokevirtual 241, 3) := by decide +kernel
theorem dX11_value_5 : decode cX11_value 5 = .ok (.ifCond .eq 12, 3) := by decide +kernel
theorem dX11_value_8 : decode cX11_value 8 = .ok (.aload_n 0, 1) := by decide +kernel
theorem dX11_value_9 : decode cX11_value 9 = .ok (.getfield 32, 3) := by decide +kernel
theorem dX11_value_12 : decode cX11_value 12 = .ok (.iload_n 1, 1) := by decide +kernel
theorem dX11_value_13 : decode cX11_value 13 = .ok (.iaload, 1) := by decide +kernel
theorem dX11_value_14 : decode cX11_value 14 = .ok (.goto 5, 3) := by decide +kernel
theorem dX11_value_17 : decode cX11_value 17 = .ok (.ldc 244, 2) := by decide +kernel
theorem dX11_value_19 : decode cX11_value 19 = .ok (.ireturn, 1) := by decide +kernel
theorem dX11_set_0 : decode cX11_set 0 = .ok (.aload_n 0, 1) := by decide +kernel
theorem dX11_set_1 : decode cX11_set 1 = .ok (.iload_n 1, 1) := by decide +kernel
theorem dX11_set_2 : decode cX11_set 2 = .ok (.invokevirtual 241, 3) := by decide +kernel
theorem dX11_set_5 : decode cX11_set 5 = .ok (.ifCond .ne 6, 3) := by decide +kernel
theorem dX11_set_8 : decode cX11_set 8 = .ok (.bipush (-2), 2) := by decide +kernel
theorem dX11_set_10 : decode cX11_set 10 = .ok (.ireturn, 1) := by decide +kernel
theorem dX11_set_11 : decode cX11_set 11 = .ok (.aload_n 0, 1) := by decide +kernel
theorem dX11_set_12 : decode cX11_set 12 = .ok (.getfield 32, 3) := by decide +kernel
theorem dX11_set_15 : decode cX11_set 15 = .ok (.iload_n 1, 1) := by decide +kernel
theorem dX11_set_16 : decode cX11_set 16 = .ok (.iload_n 2, 1) := by decide +kernel
theorem dX11_set_17 : decode cX11_set 17 = .ok (.iastore, 1) := by decide +kernel
theorem dX11_set_18 : decode cX11_set 18 = .ok (.iconst 1, 1) := by decide +kernel
theorem dX11_set_19 : decode cX11_set 19 = .ok (.ireturn, 1) := by decide +kernel
theorem dX11_entry_0 : decode cX11_entry 0 = .ok (.aload_n 0, 1) := by decide +kernel
theorem dX11_entry_1 : decode cX11_entry 1 = .ok (.iload_n 1, 1) := by decide +kernel
theorem dX11_entry_2 : decode cX11_entry 2 = .ok (.invokevirtual 241, 3) := by decide +kernel
theorem dX11_entry_5 : decode cX11_entry 5 = .ok (.ifCond .ne 6, 3) := by decide +kernel
theorem dX11_entry_8 : decode cX11_entry 8 = .ok (.bipush (-2), 2) := by decide +kernel
theorem dX11_entry_10 : decode cX11_entry 10 = .ok (.ireturn, 1) := by decide +kernel
theorem dX11_entry_11 : decode cX11_entry 11 = .ok (.aload_n 0, 1) := by decide +kernel
theorem dX11_entry_12 : decode cX11_entry 12 = .ok (.getfield 214, 3) := by decide +kernel
theorem dX11_entry_15 : decode cX11_entry 15 = .ok (.istore_n 2, 1) := by decide +kernel
theorem dX11_entry_16 : decode cX11_entry 16 = .ok (.aload_n 0, 1) := by decide +kernel
theorem dX11_entry_17 : decode cX11_entry 17 = .ok (.iload_n 1, 1) := by decide +kernel
theorem dX11_entry_18 : decode cX11_entry 18 = .ok (.putfield 214, 3) := by decide +kernel
theorem dX11_entry_21 : decode cX11_entry 21 = .ok (.iload_n 2, 1) := by decide +kernel
theorem dX11_entry_22 : decode cX11_entry 22 = .ok (.ireturn, 1) := by decide +kernel
theorem dX11_isWrong_0 : decode cX11_isWrong 0 = .ok (.iload_n 1, 1) := by decide +kernel
theorem dX11_isWrong_1 : decode cX11_isWrong 1 = .ok (.ifCond .lt 38, 3) := by decide +kernel
theorem dX11_isWrong_4 : decode cX11_isWrong 4 = .ok (.iload_n 1, 1) := by decide +kernel
theorem dX11_isWrong_5 : decode cX11_isWrong 5 = .ok (.sipush 10000, 3) := by decide +kernel
theorem dX11_isWrong_8 : decode cX11_isWrong 8 = .ok (.idiv, 1) := by decide +kernel
theorem dX11_isWrong_9 : decode cX11_isWrong 9 = .ok (.bipush 9, 2) := by decide +kernel
theorem dX11_isWrong_11 : decode cX11_isWrong 11 = .ok (.if_icmp .gt 28, 3) := by decide +kernel
theorem dX11_isWrong_14 : decode cX11_isWrong 14 = .ok (.iload_n 1, 1) := by decide +kernel
theorem dX11_isWrong_15 : decode cX11_isWrong 15 = .ok (.bipush 100, 2) := by decide +kernel
theorem dX11_isWrong_17 : decode cX11_isWrong 17 = .ok (.idiv, 1) := by decide +kernel
theorem dX11_isWrong_18 : decode cX11_isWrong 18 = .ok (.bipush 100, 2) := by decide +kernel
theorem dX11_isWrong_20 : decode cX11_isWrong 20 = .ok (.irem, 1) := by decide +kernel
theorem dX11_isWrong_21 : decode cX11_isWrong 21 = .ok (.aload_n 0, 1) := by decide +kernel
theorem dX11_isWrong_22 : decode cX11_isWrong 22 = .ok (.getfield 194, 3) := by decide +kernel
theorem dX11_isWrong_25 : decode cX11_isWrong 25 = .ok (.if_icmp .ge 14, 3) := by decide +kernel
theorem dX11_isWrong_28 : decode cX11_isWrong 28 = .ok (.iload_n 1, 1) := by decide +kernel
theorem dX11_isWrong_29 : decode cX11_isWrong 29 = .ok (.bipush 100, 2) := by decide +kernel
theorem dX11_isWrong_31 : decode cX11_isWrong 31 = .ok (.irem, 1) := by decide +kernel
theorem dX11_isWrong_32 : decode cX11_isWrong 32 = .ok (.aload_n 0, 1) := by decide +kernel
theorem dX11_isWrong_33 : decode cX11_isWrong 33 = .ok (.getfield 194, 3) := by decide +kernel
theorem dX11_isWrong_36 : decode cX11_isWrong 36 = .ok (.if_icmp .lt 7, 3) := by decide +kernel
theorem dX11_isWrong_39 : decode cX11_isWrong 39 = .ok (.iconst 1, 1) := by decide +kernel
theorem dX11_isWrong_40 : decode cX11_isWrong 40 = .ok (.goto 4, 3) := by decide +kernel
theorem dX11_isWrong_43 : decode cX11_isWrong 43 = .ok (.iconst 0, 1) := by decide +kernel
theorem dX11_isWrong_44 : decode cX11_isWrong 44 = .ok (.ireturn, 1) := by decide +kernel
theorem dX11_reads_0 : decode cX11_reads 0 = .ok (.iload_n 0, 1) := by decide +kernel
theorem dX11_reads_1 : decode cX11_reads 1 = .ok (.iconst 1, 1) := by decide +kernel
theorem dX11_reads_2 : decode cX11_reads 2 = .ok (.iconst 5, 1) := by decide +kernel
theorem dX11_reads_3 : decode cX11_reads 3 = .ok (.invokestatic 181, 3) := by decide +kernel
theorem dX11_reads_6 : decode cX11_reads 6 = .ok (.ireturn, 1) := by decide +kernel
theorem dX11_waitFor_0 : decode cX11_waitFor 0 = .ok (.aload_n 0, 1) := by decide +kernel
theorem dX11_waitFor_1 : decode cX11_waitFor 1 = .ok (.getfield 17, 3) := by decide +kernel
theorem dX11_waitFor_4 : decode cX11_waitFor 4 = .ok (.aload_n 0, 1) := by decide +kernel
theorem dX11_waitFor_5 : decode cX11_waitFor 5 = .ok (.getfield 35, 3) := by decide +kernel
theorem dX11_waitFor_8 : decode cX11_waitFor 8 = .ok (.iload_n 1, 1) := by decide +kernel
theorem dX11_waitFor_9 : decode cX11_waitFor 9 = .ok (.iaload, 1) := by decide +kernel
theorem dX11_waitFor_10 : decode cX11_waitFor 10 = .ok (.aload_n 0, 1) := by decide +kernel
theorem dX11_waitFor_11 : decode cX11_waitFor 11 = .ok (.getfield 113, 3) := by decide +kernel
theorem dX11_waitFor_14 : decode cX11_waitFor 14 = .ok (.idiv, 1) := by decide +kernel
theorem dX11_waitFor_15 : decode cX11_waitFor 15 = .ok (.iaload, 1) := by decide +kernel
theorem dX11_waitFor_16 : decode cX11_waitFor 16 = .ok (.istore_n 3, 1) := by decide +kernel
theorem dX11_waitFor_17 : decode cX11_waitFor 17 = .ok (.aload_n 0, 1) := by decide +kernel
theorem dX11_waitFor_18 : decode cX11_waitFor 18 = .ok (.getfield 35, 3) := by decide +kernel
theorem dX11_waitFor_21 : decode cX11_waitFor 21 = .ok (.iload_n 1, 1) := by decide +kernel
theorem dX11_waitFor_22 : decode cX11_waitFor 22 = .ok (.iaload, 1) := by decide +kernel
theorem dX11_waitFor_23 : decode cX11_waitFor 23 = .ok (.aload_n 0, 1) := by decide +kernel
theorem dX11_waitFor_24 : decode cX11_waitFor 24 = .ok (.getfield 113, 3) := by decide +kernel
theorem dX11_waitFor_27 : decode cX11_waitFor 27 = .ok (.irem, 1) := by decide +kernel
theorem dX11_waitFor_28 : decode cX11_waitFor 28 = .ok (.iload_n 2, 1) := by decide +kernel
theorem dX11_waitFor_29 : decode cX11_waitFor 29 = .ok (.iload_n 3, 1) := by decide +kernel
theorem dX11_waitFor_30 : decode cX11_waitFor 30 = .ok (.irem, 1) := by decide +kernel
theorem dX11_waitFor_31 : decode cX11_waitFor 31 = .ok (.isub, 1) := by decide +kernel
theorem dX11_waitFor_32 : decode cX11_waitFor 32 = .ok (.iload_n 3, 1) := by decide +kernel
theorem dX11_waitFor_33 : decode cX11_waitFor 33 = .ok (.irem, 1) := by decide +kernel
theorem dX11_waitFor_34 : decode cX11_waitFor 34 = .ok (.istore 4, 2) := by decide +kernel
theorem dX11_waitFor_36 : decode cX11_waitFor 36 = .ok (.iload 4, 2) := by decide +kernel
theorem dX11_waitFor_38 : decode cX11_waitFor 38 = .ok (.ifCond .ge 10, 3) := by decide +kernel
theorem dX11_waitFor_41 : decode cX11_waitFor 41 = .ok (.iload 4, 2) := by decide +kernel
theorem dX11_waitFor_43 : decode cX11_waitFor 43 = .ok (.iload_n 3, 1) := by decide +kernel
theorem dX11_waitFor_44 : decode cX11_waitFor 44 = .ok (.iadd, 1) := by decide +kernel
theorem dX11_waitFor_45 : decode cX11_waitFor 45 = .ok (.goto 5, 3) := by decide +kernel
theorem dX11_waitFor_48 : decode cX11_waitFor 48 = .ok (.iload 4, 2) := by decide +kernel
theorem dX11_waitFor_50 : decode cX11_waitFor 50 = .ok (.ireturn, 1) := by decide +kernel
theorem dX11_live_0 : decode cX11_live 0 = .ok (.aload_n 0, 1) := by decide +kernel
theorem dX11_live_1 : decode cX11_live 1 = .ok (.getfield 71, 3) := by decide +kernel
theorem dX11_live_4 : decode cX11_live 4 = .ok (.iload_n 1, 1) := by decide +kernel
theorem dX11_live_5 : decode cX11_live 5 = .ok (.iaload, 1) := by decide +kernel
theorem dX11_live_6 : decode cX11_live 6 = .ok (.iconst (-1), 1) := by decide +kernel
theorem dX11_live_7 : decode cX11_live 7 = .ok (.if_icmp .ne 10, 3) := by decide +kernel
theorem dX11_live_10 : decode cX11_live 10 = .ok (.aload_n 0, 1) := by decide +kernel
theorem dX11_live_11 : decode cX11_live 11 = .ok (.getfield 71, 3) := by decide +kernel
theorem dX11_live_14 : decode cX11_live 14 = .ok (.iload_n 1, 1) := by decide +kernel
theorem dX11_live_15 : decode cX11_live 15 = .ok (.iload_n 2, 1) := by decide +kernel
theorem dX11_live_16 : decode cX11_live 16 = .ok (.iastore, 1) := by decide +kernel
theorem dX11_live_17 : decode cX11_live 17 = .ok (.aload_n 0, 1) := by decide +kernel
theorem dX11_live_18 : decode cX11_live 18 = .ok (.getfield 74, 3) := by decide +kernel
theorem dX11_live_21 : decode cX11_live 21 = .ok (.iload_n 1, 1) := by decide +kernel
theorem dX11_live_22 : decode cX11_live 22 = .ok (.iload_n 2, 1) := by decide +kernel
theorem dX11_live_23 : decode cX11_live 23 = .ok (.iastore, 1) := by decide +kernel
theorem dX11_live_24 : decode cX11_live 24 = .ok (.return_, 1) := by decide +kernel
theorem dX11_goes_0 : decode cX11_goes 0 = .ok (.iconst 0, 1) := by decide +kernel
theorem dX11_goes_1 : decode cX11_goes 1 = .ok (.istore_n 1, 1) := by decide +kernel
theorem dX11_goes_2 : decode cX11_goes 2 = .ok (.iload_n 1, 1) := by decide +kernel
theorem dX11_goes_3 : decode cX11_goes 3 = .ok (.aload_n 0, 1) := by decide +kernel
theorem dX11_goes_4 : decode cX11_goes 4 = .ok (.getfield 194, 3) := by decide +kernel
theorem dX11_goes_7 : decode cX11_goes 7 = .ok (.if_icmp .ge 56, 3) := by decide +kernel
theorem dX11_goes_10 : decode cX11_goes 10 = .ok (.aload_n 0, 1) := by decide +kernel
theorem dX11_goes_11 : decode cX11_goes 11 = .ok (.getfield 56, 3) := by decide +kernel
theorem dX11_goes_14 : decode cX11_goes 14 = .ok (.iload_n 1, 1) := by decide +kernel
theorem dX11_goes_15 : decode cX11_goes 15 = .ok (.aload_n 0, 1) := by decide +kernel
theorem dX11_goes_16 : decode cX11_goes 16 = .ok (.getfield 32, 3) := by decide +kernel
theorem dX11_goes_19 : decode cX11_goes 19 = .ok (.iload_n 1, 1) := by decide +kernel
theorem dX11_goes_20 : decode cX11_goes 20 = .ok (.iaload, 1) := by decide +kernel
theorem dX11_goes_21 : decode cX11_goes 21 = .ok (.iastore, 1) := by decide +kernel
theorem dX11_goes_22 : decode cX11_goes 22 = .ok (.aload_n 0, 1) := by decide +kernel
theorem dX11_goes_23 : decode cX11_goes 23 = .ok (.getfield 62, 3) := by decide +kernel
theorem dX11_goes_26 : decode cX11_goes 26 = .ok (.iload_n 1, 1) := by decide +kernel
theorem dX11_goes_27 : decode cX11_goes 27 = .ok (.iconst 0, 1) := by decide +kernel
theorem dX11_goes_28 : decode cX11_goes 28 = .ok (.iastore, 1) := by decide +kernel
theorem dX11_goes_29 : decode cX11_goes 29 = .ok (.aload_n 0, 1) := by decide +kernel
theorem dX11_goes_30 : decode cX11_goes 30 = .ok (.getfield 65, 3) := by decide +kernel
theorem dX11_goes_33 : decode cX11_goes 33 = .ok (.iload_n 1, 1) := by decide +kernel
theorem dX11_goes_34 : decode cX11_goes 34 = .ok (.iconst 0, 1) := by decide +kernel
theorem dX11_goes_35 : decode cX11_goes 35 = .ok (.iastore, 1) := by decide +kernel
theorem dX11_goes_36 : decode cX11_goes 36 = .ok (.aload_n 0, 1) := by decide +kernel
theorem dX11_goes_37 : decode cX11_goes 37 = .ok (.getfield 68, 3) := by decide +kernel
theorem dX11_goes_40 : decode cX11_goes 40 = .ok (.iload_n 1, 1) := by decide +kernel
theorem dX11_goes_41 : decode cX11_goes 41 = .ok (.iconst 0, 1) := by decide +kernel
theorem dX11_goes_42 : decode cX11_goes 42 = .ok (.iastore, 1) := by decide +kernel
theorem dX11_goes_43 : decode cX11_goes 43 = .ok (.aload_n 0, 1) := by decide +kernel
theorem dX11_goes_44 : decode cX11_goes 44 = .ok (.getfield 71, 3) := by decide +kernel
theorem dX11_goes_47 : decode cX11_goes 47 = .ok (.iload_n 1, 1) := by decide +kernel
theorem dX11_goes_48 : decode cX11_goes 48 = .ok (.iconst (-1), 1) := by decide +kernel
theorem dX11_goes_49 : decode cX11_goes 49 = .ok (.iastore, 1) := by decide +kernel
theorem dX11_goes_50 : decode cX11_goes 50 = .ok (.aload_n 0, 1) := by decide +kernel
theorem dX11_goes_51 : decode cX11_goes 51 = .ok (.getfield 74, 3) := by decide +kernel
theorem dX11_goes_54 : decode cX11_goes 54 = .ok (.iload_n 1, 1) := by decide +kernel
theorem dX11_goes_55 : decode cX11_goes 55 = .ok (.iconst (-1), 1) := by decide +kernel
theorem dX11_goes_56 : decode cX11_goes 56 = .ok (.iastore, 1) := by decide +kernel
theorem dX11_goes_57 : decode cX11_goes 57 = .ok (.iinc 1 1, 3) := by decide +kernel
theorem dX11_goes_60 : decode cX11_goes 60 = .ok (.goto (-58), 3) := by decide +kernel
theorem dX11_goes_63 : decode cX11_goes 63 = .ok (.aload_n 0, 1) := by decide +kernel
theorem dX11_goes_64 : decode cX11_goes 64 = .ok (.iconst 0, 1) := by decide +kernel
theorem dX11_goes_65 : decode cX11_goes 65 = .ok (.putfield 245, 3) := by decide +kernel
theorem dX11_goes_68 : decode cX11_goes 68 = .ok (.aload_n 0, 1) := by decide +kernel
theorem dX11_goes_69 : decode cX11_goes 69 = .ok (.aload_n 0, 1) := by decide +kernel
theorem dX11_goes_70 : decode cX11_goes 70 = .ok (.getfield 214, 3) := by decide +kernel
theorem dX11_goes_73 : decode cX11_goes 73 = .ok (.putfield 248, 3) := by decide +kernel
theorem dX11_goes_76 : decode cX11_goes 76 = .ok (.aload_n 0, 1) := by decide +kernel
theorem dX11_goes_77 : decode cX11_goes 77 = .ok (.iconst 0, 1) := by decide +kernel
theorem dX11_goes_78 : decode cX11_goes 78 = .ok (.putfield 251, 3) := by decide +kernel
theorem dX11_goes_81 : decode cX11_goes 81 = .ok (.aload_n 0, 1) := by decide +kernel
theorem dX11_goes_82 : decode cX11_goes 82 = .ok (.iconst 0, 1) := by decide +kernel
theorem dX11_goes_83 : decode cX11_goes 83 = .ok (.putfield 254, 3) := by decide +kernel
theorem dX11_goes_86 : decode cX11_goes 86 = .ok (.aload_n 0, 1) := by decide +kernel
theorem dX11_goes_87 : decode cX11_goes 87 = .ok (.iconst 0, 1) := by decide +kernel
theorem dX11_goes_88 : decode cX11_goes 88 = .ok (.putfield 257, 3) := by decide +kernel
theorem dX11_goes_91 : decode cX11_goes 91 = .ok (.aload_n 0, 1) := by decide +kernel
theorem dX11_goes_92 : decode cX11_goes 92 = .ok (.iconst 0, 1) := by decide +kernel
theorem dX11_goes_93 : decode cX11_goes 93 = .ok (.putfield 260, 3) := by decide +kernel
theorem dX11_goes_96 : decode cX11_goes 96 = .ok (.aload_n 0, 1) := by decide +kernel
theorem dX11_goes_97 : decode cX11_goes 97 = .ok (.iconst 2, 1) := by decide +kernel
theorem dX11_goes_98 : decode cX11_goes 98 = .ok (.putfield 263, 3) := by decide +kernel
theorem dX11_goes_101 : decode cX11_goes 101 = .ok (.aload_n 0, 1) := by decide +kernel
theorem dX11_goes_102 : decode cX11_goes 102 = .ok (.getfield 260, 3) := by decide +kernel
theorem dX11_goes_105 : decode cX11_goes 105 = .ok (.sipush 2000, 3) := by decide +kernel
theorem dX11_goes_108 : decode cX11_goes 108 = .ok (.if_icmp .ge 522, 3) := by decide +kernel
theorem dX11_goes_111 : decode cX11_goes 111 = .ok (.aload_n 0, 1) := by decide +kernel
theorem dX11_goes_112 : decode cX11_goes 112 = .ok (.getfield 56, 3) := by decide +kernel
theorem dX11_goes_115 : decode cX11_goes 115 = .ok (.aload_n 0, 1) := by decide +kernel
theorem dX11_goes_116 : decode cX11_goes 116 = .ok (.getfield 248, 3) := by decide +kernel
theorem dX11_goes_119 : decode cX11_goes 119 = .ok (.iaload, 1) := by decide +kernel
theorem dX11_goes_120 : decode cX11_goes 120 = .ok (.istore_n 1, 1) := by decide +kernel
theorem dX11_goes_121 : decode cX11_goes 121 = .ok (.aload_n 0, 1) := by decide +kernel
theorem dX11_goes_122 : decode cX11_goes 122 = .ok (.aload_n 0, 1) := by decide +kernel
theorem dX11_goes_123 : decode cX11_goes 123 = .ok (.getfield 248, 3) := by decide +kernel
theorem dX11_goes_126 : decode cX11_goes 126 = .ok (.aload_n 0, 1) := by decide +kernel
theorem dX11_goes_127 : decode cX11_goes 127 = .ok (.getfield 254, 3) := by decide +kernel
theorem dX11_goes_130 : decode cX11_goes 130 = .ok (.invokevirtual 266, 3) := by decide +kernel
theorem dX11_goes_133 : decode cX11_goes 133 = .ok (.istore_n 2, 1) := by decide +kernel
theorem dX11_goes_134 : decode cX11_goes 134 = .ok (.aload_n 0, 1) := by decide +kernel
theorem dX11_goes_135 : decode cX11_goes 135 = .ok (.getfield 68, 3) := by decide +kernel
theorem dX11_goes_138 : decode cX11_goes 138 = .ok (.aload_n 0, 1) := by decide +kernel
theorem dX11_goes_139 : decode cX11_goes 139 = .ok (.getfield 248, 3) := by decide +kernel
theorem dX11_goes_142 : decode cX11_goes 142 = .ok (.dup2, 1) := by decide +kernel
theorem dX11_goes_143 : decode cX11_goes 143 = .ok (.iaload, 1) := by decide +kernel
theorem dX11_goes_144 : decode cX11_goes 144 = .ok (.iload_n 2, 1) := by decide +kernel
theorem dX11_goes_145 : decode cX11_goes 145 = .ok (.iadd, 1) := by decide +kernel
theorem dX11_goes_146 : decode cX11_goes 146 = .ok (.iastore, 1) := by decide +kernel
theorem dX11_goes_147 : decode cX11_goes 147 = .ok (.aload_n 0, 1) := by decide +kernel
theorem dX11_goes_148 : decode cX11_goes 148 = .ok (.dup, 1) := by decide +kernel
theorem dX11_goes_149 : decode cX11_goes 149 = .ok (.getfield 254, 3) := by decide +kernel
theorem dX11_goes_152 : decode cX11_goes 152 = .ok (.iload_n 2, 1) := by decide +kernel
theorem dX11_goes_153 : decode cX11_goes 153 = .ok (.iconst 1, 1) := by decide +kernel
theorem dX11_goes_154 : decode cX11_goes 154 = .ok (.iadd, 1) := by decide +kernel
theorem dX11_goes_155 : decode cX11_goes 155 = .ok (.iadd, 1) := by decide +kernel
theorem dX11_goes_156 : decode cX11_goes 156 = .ok (.putfield 254, 3) := by decide +kernel
theorem dX11_goes_159 : decode cX11_goes 159 = .ok (.aload_n 0, 1) := by decide +kernel
theorem dX11_goes_160 : decode cX11_goes 160 = .ok (.dup, 1) := by decide +kernel
theorem dX11_goes_161 : decode cX11_goes 161 = .ok (.getfield 257, 3) := by decide +kernel
theorem dX11_goes_164 : decode cX11_goes 164 = .ok (.iconst 1, 1) := by decide +kernel
theorem dX11_goes_165 : decode cX11_goes 165 = .ok (.iadd, 1) := by decide +kernel
theorem dX11_goes_166 : decode cX11_goes 166 = .ok (.putfield 257, 3) := by decide +kernel
theorem dX11_goes_169 : decode cX11_goes 169 = .ok (.aload_n 0, 1) := by decide +kernel
theorem dX11_goes_170 : decode cX11_goes 170 = .ok (.getfield 62, 3) := by decide +kernel
theorem dX11_goes_173 : decode cX11_goes 173 = .ok (.aload_n 0, 1) := by decide +kernel
theorem dX11_goes_174 : decode cX11_goes 174 = .ok (.getfield 248, 3) := by decide +kernel
theorem dX11_goes_177 : decode cX11_goes 177 = .ok (.dup2, 1) := by decide +kernel
theorem dX11_goes_178 : decode cX11_goes 178 = .ok (.iaload, 1) := by decide +kernel
theorem dX11_goes_179 : decode cX11_goes 179 = .ok (.iconst 1, 1) := by decide +kernel
theorem dX11_goes_180 : decode cX11_goes 180 = .ok (.iadd, 1) := by decide +kernel
theorem dX11_goes_181 : decode cX11_goes 181 = .ok (.iastore, 1) := by decide +kernel
theorem dX11_goes_182 : decode cX11_goes 182 = .ok (.aload_n 0, 1) := by decide +kernel
theorem dX11_goes_183 : decode cX11_goes 183 = .ok (.aload_n 0, 1) := by decide +kernel
theorem dX11_goes_184 : decode cX11_goes 184 = .ok (.getfield 248, 3) := by decide +kernel
theorem dX11_goes_187 : decode cX11_goes 187 = .ok (.aload_n 0, 1) := by decide +kernel
theorem dX11_goes_188 : decode cX11_goes 188 = .ok (.getfield 260, 3) := by decide +kernel
theorem dX11_goes_191 : decode cX11_goes 191 = .ok (.invokevirtual 270, 3) := by decide +kernel
theorem dX11_goes_194 : decode cX11_goes 194 = .ok (.aload_n 0, 1) := by decide +kernel
theorem dX11_goes_195 : decode cX11_goes 195 = .ok (.dup, 1) := by decide +kernel
theorem dX11_goes_196 : decode cX11_goes 196 = .ok (.getfield 260, 3) := by decide +kernel
theorem dX11_goes_199 : decode cX11_goes 199 = .ok (.iconst 1, 1) := by decide +kernel
theorem dX11_goes_200 : decode cX11_goes 200 = .ok (.iadd, 1) := by decide +kernel
theorem dX11_goes_201 : decode cX11_goes 201 = .ok (.putfield 260, 3) := by decide +kernel
theorem dX11_goes_204 : decode cX11_goes 204 = .ok (.aload_n 0, 1) := by decide +kernel
theorem dX11_goes_205 : decode cX11_goes 205 = .ok (.iload_n 1, 1) := by decide +kernel
theorem dX11_goes_206 : decode cX11_goes 206 = .ok (.invokevirtual 274, 3) := by decide +kernel
theorem dX11_goes_209 : decode cX11_goes 209 = .ok (.ifCond .eq 9, 3) := by decide +kernel
theorem dX11_goes_212 : decode cX11_goes 212 = .ok (.aload_n 0, 1) := by decide +kernel
theorem dX11_goes_213 : decode cX11_goes 213 = .ok (.iconst 1, 1) := by decide +kernel
theorem dX11_goes_214 : decode cX11_goes 214 = .ok (.putfield 263, 3) := by decide +kernel
theorem dX11_goes_217 : decode cX11_goes 217 = .ok (.return_, 1) := by decide +kernel
theorem dX11_goes_218 : decode cX11_goes 218 = .ok (.iload_n 1, 1) := by decide +kernel
theorem dX11_goes_219 : decode cX11_goes 219 = .ok (.sipush 10000, 3) := by decide +kernel
theorem dX11_goes_222 : decode cX11_goes 222 = .ok (.idiv, 1) := by decide +kernel
theorem dX11_goes_223 : decode cX11_goes 223 = .ok (.istore_n 3, 1) := by decide +kernel
theorem dX11_goes_224 : decode cX11_goes 224 = .ok (.iload_n 1, 1) := by decide +kernel
theorem dX11_goes_225 : decode cX11_goes 225 = .ok (.bipush 100, 2) := by decide +kernel
theorem dX11_goes_227 : decode cX11_goes 227 = .ok (.idiv, 1) := by decide +kernel
theorem dX11_goes_228 : decode cX11_goes 228 = .ok (.bipush 100, 2) := by decide +kernel
theorem dX11_goes_230 : decode cX11_goes 230 = .ok (.irem, 1) := by decide +kernel
theorem dX11_goes_231 : decode cX11_goes 231 = .ok (.istore 4, 2) := by decide +kernel
theorem dX11_goes_233 : decode cX11_goes 233 = .ok (.iload_n 1, 1) := by decide +kernel
theorem dX11_goes_234 : decode cX11_goes 234 = .ok (.bipush 100, 2) := by decide +kernel
theorem dX11_goes_236 : decode cX11_goes 236 = .ok (.irem, 1) := by decide +kernel
theorem dX11_goes_237 : decode cX11_goes 237 = .ok (.istore 5, 2) := by decide +kernel
theorem dX11_goes_239 : decode cX11_goes 239 = .ok (.iload_n 3, 1) := by decide +kernel
theorem dX11_goes_240 : decode cX11_goes 240 = .ok (.invokestatic 277, 3) := by decide +kernel
theorem dX11_goes_243 : decode cX11_goes 243 = .ok (.ifCond .eq 73, 3) := by decide +kernel
theorem dX11_goes_246 : decode cX11_goes 246 = .ok (.aload_n 0, 1) := by decide +kernel
theorem dX11_goes_247 : decode cX11_goes 247 = .ok (.iload 4, 2) := by decide +kernel
theorem dX11_goes_249 : decode cX11_goes 249 = .ok (.aload_n 0, 1) := by decide +kernel
theorem dX11_goes_250 : decode cX11_goes 250 = .ok (.getfield 254, 3) := by decide +kernel
theorem dX11_goes_253 : decode cX11_goes 253 = .ok (.invokevirtual 266, 3) := by decide +kernel
theorem dX11_goes_256 : decode cX11_goes 256 = .ok (.istore 6, 2) := by decide +kernel
theorem dX11_goes_258 : decode cX11_goes 258 = .ok (.aload_n 0, 1) := by decide +kernel
theorem dX11_goes_259 : decode cX11_goes 259 = .ok (.getfield 68, 3) := by decide +kernel
theorem dX11_goes_262 : decode cX11_goes 262 = .ok (.iload 4, 2) := by decide +kernel
theorem dX11_goes_264 : decode cX11_goes 264 = .ok (.dup2, 1) := by decide +kernel
theorem dX11_goes_265 : decode cX11_goes 265 = .ok (.iaload, 1) := by decide +kernel
theorem dX11_goes_266 : decode cX11_goes 266 = .ok (.iload 6, 2) := by decide +kernel
theorem dX11_goes_268 : decode cX11_goes 268 = .ok (.iadd, 1) := by decide +kernel
theorem dX11_goes_269 : decode cX11_goes 269 = .ok (.iastore, 1) := by decide +kernel
theorem dX11_goes_270 : decode cX11_goes 270 = .ok (.aload_n 0, 1) := by decide +kernel
theorem dX11_goes_271 : decode cX11_goes 271 = .ok (.dup, 1) := by decide +kernel
theorem dX11_goes_272 : decode cX11_goes 272 = .ok (.getfield 254, 3) := by decide +kernel
theorem dX11_goes_275 : decode cX11_goes 275 = .ok (.iload 6, 2) := by decide +kernel
theorem dX11_goes_277 : decode cX11_goes 277 = .ok (.iconst 1, 1) := by decide +kernel
theorem dX11_goes_278 : decode cX11_goes 278 = .ok (.iadd, 1) := by decide +kernel
theorem dX11_goes_279 : decode cX11_goes 279 = .ok (.iadd, 1) := by decide +kernel
theorem dX11_goes_280 : decode cX11_goes 280 = .ok (.putfield 254, 3) := by decide +kernel
theorem dX11_goes_283 : decode cX11_goes 283 = .ok (.aload_n 0, 1) := by decide +kernel
theorem dX11_goes_284 : decode cX11_goes 284 = .ok (.dup, 1) := by decide +kernel
theorem dX11_goes_285 : decode cX11_goes 285 = .ok (.getfield 257, 3) := by decide +kernel
theorem dX11_goes_288 : decode cX11_goes 288 = .ok (.iconst 1, 1) := by decide +kernel
theorem dX11_goes_289 : decode cX11_goes 289 = .ok (.iadd, 1) := by decide +kernel
theorem dX11_goes_290 : decode cX11_goes 290 = .ok (.putfield 257, 3) := by decide +kernel
theorem dX11_goes_293 : decode cX11_goes 293 = .ok (.aload_n 0, 1) := by decide +kernel
theorem dX11_goes_294 : decode cX11_goes 294 = .ok (.getfield 65, 3) := by decide +kernel
theorem dX11_goes_297 : decode cX11_goes 297 = .ok (.iload 4, 2) := by decide +kernel
theorem dX11_goes_299 : decode cX11_goes 299 = .ok (.dup2, 1) := by decide +kernel
theorem dX11_goes_300 : decode cX11_goes 300 = .ok (.iaload, 1) := by decide +kernel
theorem dX11_goes_301 : decode cX11_goes 301 = .ok (.iconst 1, 1) := by decide +kernel
theorem dX11_goes_302 : decode cX11_goes 302 = .ok (.iadd, 1) := by decide +kernel
theorem dX11_goes_303 : decode cX11_goes 303 = .ok (.iastore, 1) := by decide +kernel
theorem dX11_goes_304 : decode cX11_goes 304 = .ok (.aload_n 0, 1) := by decide +kernel
theorem dX11_goes_305 : decode cX11_goes 305 = .ok (.iload 4, 2) := by decide +kernel
theorem dX11_goes_307 : decode cX11_goes 307 = .ok (.aload_n 0, 1) := by decide +kernel
theorem dX11_goes_308 : decode cX11_goes 308 = .ok (.getfield 260, 3) := by decide +kernel
theorem dX11_goes_311 : decode cX11_goes 311 = .ok (.iconst 1, 1) := by decide +kernel
theorem dX11_goes_312 : decode cX11_goes 312 = .ok (.isub, 1) := by decide +kernel
theorem dX11_goes_313 : decode cX11_goes 313 = .ok (.invokevirtual 270, 3) := by decide +kernel
theorem dX11_goes_316 : decode cX11_goes 316 = .ok (.iload_n 3, 1) := by decide +kernel
theorem dX11_goes_317 : decode cX11_goes 317 = .ok (.bipush 8, 2) := by decide +kernel
theorem dX11_goes_319 : decode cX11_goes 319 = .ok (.if_icmp .ne 7, 3) := by decide +kernel
theorem dX11_goes_322 : decode cX11_goes 322 = .ok (.iconst 3, 1) := by decide +kernel
theorem dX11_goes_323 : decode cX11_goes 323 = .ok (.goto 4, 3) := by decide +kernel
theorem dX11_goes_326 : decode cX11_goes 326 = .ok (.iconst 0, 1) := by decide +kernel
theorem dX11_goes_327 : decode cX11_goes 327 = .ok (.istore 6, 2) := by decide +kernel
theorem dX11_goes_329 : decode cX11_goes 329 = .ok (.iload_n 3, 1) := by decide +kernel
theorem dX11_goes_330 : decode cX11_goes 330 = .ok (.iconst 4, 1) := by decide +kernel
theorem dX11_goes_331 : decode cX11_goes 331 = .ok (.if_icmp .ne 39, 3) := by decide +kernel
theorem dX11_goes_334 : decode cX11_goes 334 = .ok (.iconst 2, 1) := by decide +kernel
theorem dX11_goes_335 : decode cX11_goes 335 = .ok (.istore 6, 2) := by decide +kernel
theorem dX11_goes_337 : decode cX11_goes 337 = .ok (.iconst 0, 1) := by decide +kernel
theorem dX11_goes_338 : decode cX11_goes 338 = .ok (.istore 7, 2) := by decide +kernel
theorem dX11_goes_340 : decode cX11_goes 340 = .ok (.iload 7, 2) := by decide +kernel
theorem dX11_goes_342 : decode cX11_goes 342 = .ok (.bipush 32, 2) := by decide +kernel
theorem dX11_goes_344 : decode cX11_goes 344 = .ok (.if_icmp .ge 26, 3) := by decide +kernel
theorem dX11_goes_347 : decode cX11_goes 347 = .ok (.iload 6, 2) := by decide +kernel
theorem dX11_goes_349 : decode cX11_goes 349 = .ok (.aload_n 0, 1) := by decide +kernel
theorem dX11_goes_350 : decode cX11_goes 350 = .ok (.getfield 56, 3) := by decide +kernel
theorem dX11_goes_353 : decode cX11_goes 353 = .ok (.iload 4, 2) := by decide +kernel
theorem dX11_goes_355 : decode cX11_goes 355 = .ok (.iaload, 1) := by decide +kernel
theorem dX11_goes_356 : decode cX11_goes 356 = .ok (.iload 7, 2) := by decide +kernel
theorem dX11_goes_358 : decode cX11_goes 358 = .ok (.ishr, 1) := by decide +kernel
theorem dX11_goes_359 : decode cX11_goes 359 = .ok (.iconst 1, 1) := by decide +kernel
theorem dX11_goes_360 : decode cX11_goes 360 = .ok (.iand, 1) := by decide +kernel
theorem dX11_goes_361 : decode cX11_goes 361 = .ok (.iadd, 1) := by decide +kernel
theorem dX11_goes_362 : decode cX11_goes 362 = .ok (.istore 6, 2) := by decide +kernel
theorem dX11_goes_364 : decode cX11_goes 364 = .ok (.iinc 7 1, 3) := by decide +kernel
theorem dX11_goes_367 : decode cX11_goes 367 = .ok (.goto (-27), 3) := by decide +kernel
theorem dX11_goes_370 : decode cX11_goes 370 = .ok (.aload_n 0, 1) := by decide +kernel
theorem dX11_goes_371 : decode cX11_goes 371 = .ok (.dup, 1) := by decide +kernel
theorem dX11_goes_372 : decode cX11_goes 372 = .ok (.getfield 254, 3) := by decide +kernel
theorem dX11_goes_375 : decode cX11_goes 375 = .ok (.iload 6, 2) := by decide +kernel
theorem dX11_goes_377 : decode cX11_goes 377 = .ok (.iadd, 1) := by decide +kernel
theorem dX11_goes_378 : decode cX11_goes 378 = .ok (.putfield 254, 3) := by decide +kernel
theorem dX11_goes_381 : decode cX11_goes 381 = .ok (.aload_n 0, 1) := by decide +kernel
theorem dX11_goes_382 : decode cX11_goes 382 = .ok (.dup, 1) := by decide +kernel
theorem dX11_goes_383 : decode cX11_goes 383 = .ok (.getfield 257, 3) := by decide +kernel
theorem dX11_goes_386 : decode cX11_goes 386 = .ok (.iload 6, 2) := by decide +kernel
theorem dX11_goes_388 : decode cX11_goes 388 = .ok (.iadd, 1) := by decide +kernel
theorem dX11_goes_389 : decode cX11_goes 389 = .ok (.putfield 257, 3) := by decide +kernel
theorem dX11_goes_392 : decode cX11_goes 392 = .ok (.iload_n 3, 1) := by decide +kernel
theorem dX11_goes_393 : decode cX11_goes 393 = .ok (.tableswitch 222 1 9 #[51, 65, 84, 103, 122, 136, 155, 174, 209], 51) := by decide +kernel
theorem dX11_goes_444 : decode cX11_goes 444 = .ok (.aload_n 0, 1) := by decide +kernel
theorem dX11_goes_445 : decode cX11_goes 445 = .ok (.aload_n 0, 1) := by decide +kernel
theorem dX11_goes_446 : decode cX11_goes 446 = .ok (.getfield 56, 3) := by decide +kernel
theorem dX11_goes_449 : decode cX11_goes 449 = .ok (.iload 4, 2) := by decide +kernel
theorem dX11_goes_451 : decode cX11_goes 451 = .ok (.iaload, 1) := by decide +kernel
theorem dX11_goes_452 : decode cX11_goes 452 = .ok (.putfield 245, 3) := by decide +kernel
theorem dX11_goes_455 : decode cX11_goes 455 = .ok (.goto 166, 3) := by decide +kernel
theorem dX11_goes_458 : decode cX11_goes 458 = .ok (.aload_n 0, 1) := by decide +kernel
theorem dX11_goes_459 : decode cX11_goes 459 = .ok (.dup, 1) := by decide +kernel
theorem dX11_goes_460 : decode cX11_goes 460 = .ok (.getfield 245, 3) := by decide +kernel
theorem dX11_goes_463 : decode cX11_goes 463 = .ok (.aload_n 0, 1) := by decide +kernel
theorem dX11_goes_464 : decode cX11_goes 464 = .ok (.getfield 56, 3) := by decide +kernel
theorem dX11_goes_467 : decode cX11_goes 467 = .ok (.iload 4, 2) := by decide +kernel
theorem dX11_goes_469 : decode cX11_goes 469 = .ok (.iaload, 1) := by decide +kernel
theorem dX11_goes_470 : decode cX11_goes 470 = .ok (.iadd, 1) := by decide +kernel
theorem dX11_goes_471 : decode cX11_goes 471 = .ok (.putfield 245, 3) := by decide +kernel
theorem dX11_goes_474 : decode cX11_goes 474 = .ok (.goto 147, 3) := by decide +kernel
theorem dX11_goes_477 : decode cX11_goes 477 = .ok (.aload_n 0, 1) := by decide +kernel
theorem dX11_goes_478 : decode cX11_goes 478 = .ok (.dup, 1) := by decide +kernel
theorem dX11_goes_479 : decode cX11_goes 479 = .ok (.getfield 245, 3) := by decide +kernel
theorem dX11_goes_482 : decode cX11_goes 482 = .ok (.aload_n 0, 1) := by decide +kernel
theorem dX11_goes_483 : decode cX11_goes 483 = .ok (.getfield 56, 3) := by decide +kernel
theorem dX11_goes_486 : decode cX11_goes 486 = .ok (.iload 4, 2) := by decide +kernel
theorem dX11_goes_488 : decode cX11_goes 488 = .ok (.iaload, 1) := by decide +kernel
theorem dX11_goes_489 : decode cX11_goes 489 = .ok (.isub, 1) := by decide +kernel
theorem dX11_goes_490 : decode cX11_goes 490 = .ok (.putfield 245, 3) := by decide +kernel
theorem dX11_goes_493 : decode cX11_goes 493 = .ok (.goto 128, 3) := by decide +kernel
theorem dX11_goes_496 : decode cX11_goes 496 = .ok (.aload_n 0, 1) := by decide +kernel
theorem dX11_goes_497 : decode cX11_goes 497 = .ok (.dup, 1) := by decide +kernel
theorem dX11_goes_498 : decode cX11_goes 498 = .ok (.getfield 245, 3) := by decide +kernel
theorem dX11_goes_501 : decode cX11_goes 501 = .ok (.aload_n 0, 1) := by decide +kernel
theorem dX11_goes_502 : decode cX11_goes 502 = .ok (.getfield 56, 3) := by decide +kernel
theorem dX11_goes_505 : decode cX11_goes 505 = .ok (.iload 4, 2) := by decide +kernel
theorem dX11_goes_507 : decode cX11_goes 507 = .ok (.iaload, 1) := by decide +kernel
theorem dX11_goes_508 : decode cX11_goes 508 = .ok (.imul, 1) := by decide +kernel
theorem dX11_goes_509 : decode cX11_goes 509 = .ok (.putfield 245, 3) := by decide +kernel
theorem dX11_goes_512 : decode cX11_goes 512 = .ok (.goto 109, 3) := by decide +kernel
theorem dX11_goes_515 : decode cX11_goes 515 = .ok (.aload_n 0, 1) := by decide +kernel
theorem dX11_goes_516 : decode cX11_goes 516 = .ok (.getfield 56, 3) := by decide +kernel
theorem dX11_goes_519 : decode cX11_goes 519 = .ok (.iload 4, 2) := by decide +kernel
theorem dX11_goes_521 : decode cX11_goes 521 = .ok (.aload_n 0, 1) := by decide +kernel
theorem dX11_goes_522 : decode cX11_goes 522 = .ok (.getfield 245, 3) := by decide +kernel
theorem dX11_goes_525 : decode cX11_goes 525 = .ok (.iastore, 1) := by decide +kernel
theorem dX11_goes_526 : decode cX11_goes 526 = .ok (.goto 95, 3) := by decide +kernel
theorem dX11_goes_529 : decode cX11_goes 529 = .ok (.aload_n 0, 1) := by decide +kernel
theorem dX11_goes_530 : decode cX11_goes 530 = .ok (.getfield 245, 3) := by decide +kernel
theorem dX11_goes_533 : decode cX11_goes 533 = .ok (.ifCond .ge 8, 3) := by decide +kernel
theorem dX11_goes_536 : decode cX11_goes 536 = .ok (.iload 4, 2) := by decide +kernel
theorem dX11_goes_538 : decode cX11_goes 538 = .ok (.goto 5, 3) := by decide +kernel
theorem dX11_goes_541 : decode cX11_goes 541 = .ok (.iload 5, 2) := by decide +kernel
theorem dX11_goes_543 : decode cX11_goes 543 = .ok (.istore 5, 2) := by decide +kernel
theorem dX11_goes_545 : decode cX11_goes 545 = .ok (.goto 76, 3) := by decide +kernel
theorem dX11_goes_548 : decode cX11_goes 548 = .ok (.aload_n 0, 1) := by decide +kernel
theorem dX11_goes_549 : decode cX11_goes 549 = .ok (.getfield 245, 3) := by decide +kernel
theorem dX11_goes_552 : decode cX11_goes 552 = .ok (.ifCond .ne 8, 3) := by decide +kernel
theorem dX11_goes_555 : decode cX11_goes 555 = .ok (.iload 4, 2) := by decide +kernel
theorem dX11_goes_557 : decode cX11_goes 557 = .ok (.goto 5, 3) := by decide +kernel
theorem dX11_goes_560 : decode cX11_goes 560 = .ok (.iload 5, 2) := by decide +kernel
theorem dX11_goes_562 : decode cX11_goes 562 = .ok (.istore 5, 2) := by decide +kernel
theorem dX11_goes_564 : decode cX11_goes 564 = .ok (.goto 57, 3) := by decide +kernel
theorem dX11_goes_567 : decode cX11_goes 567 = .ok (.aload_n 0, 1) := by decide +kernel
theorem dX11_goes_568 : decode cX11_goes 568 = .ok (.getfield 251, 3) := by decide +kernel
theorem dX11_goes_571 : decode cX11_goes 571 = .ok (.bipush 100, 2) := by decide +kernel
theorem dX11_goes_573 : decode cX11_goes 573 = .ok (.if_icmp .ge 16, 3) := by decide +kernel
theorem dX11_goes_576 : decode cX11_goes 576 = .ok (.aload_n 0, 1) := by decide +kernel
theorem dX11_goes_577 : decode cX11_goes 577 = .ok (.getfield 59, 3) := by decide +kernel
theorem dX11_goes_580 : decode cX11_goes 580 = .ok (.aload_n 0, 1) := by decide +kernel
theorem dX11_goes_581 : decode cX11_goes 581 = .ok (.getfield 251, 3) := by decide +kernel
theorem dX11_goes_584 : decode cX11_goes 584 = .ok (.aload_n 0, 1) := by decide +kernel
theorem dX11_goes_585 : decode cX11_goes 585 = .ok (.getfield 245, 3) := by decide +kernel
theorem dX11_goes_588 : decode cX11_goes 588 = .ok (.iastore, 1) := by decide +kernel
theorem dX11_goes_589 : decode cX11_goes 589 = .ok (.aload_n 0, 1) := by decide +kernel
theorem dX11_goes_590 : decode cX11_goes 590 = .ok (.dup, 1) := by decide +kernel
theorem dX11_goes_591 : decode cX11_goes 591 = .ok (.getfield 251, 3) := by decide +kernel
theorem dX11_goes_594 : decode cX11_goes 594 = .ok (.iconst 1, 1) := by decide +kernel
theorem dX11_goes_595 : decode cX11_goes 595 = .ok (.iadd, 1) := by decide +kernel
theorem dX11_goes_596 : decode cX11_goes 596 = .ok (.putfield 251, 3) := by decide +kernel
theorem dX11_goes_599 : decode cX11_goes 599 = .ok (.goto 22, 3) := by decide +kernel
theorem dX11_goes_602 : decode cX11_goes 602 = .ok (.aload_n 0, 1) := by decide +kernel
theorem dX11_goes_603 : decode cX11_goes 603 = .ok (.aload_n 0, 1) := by decide +kernel
theorem dX11_goes_604 : decode cX11_goes 604 = .ok (.getfield 245, 3) := by decide +kernel
theorem dX11_goes_607 : decode cX11_goes 607 = .ok (.iconst 2, 1) := by decide +kernel
theorem dX11_goes_608 : decode cX11_goes 608 = .ok (.idiv, 1) := by decide +kernel
theorem dX11_goes_609 : decode cX11_goes 609 = .ok (.putfield 245, 3) := by decide +kernel
theorem dX11_goes_612 : decode cX11_goes 612 = .ok (.goto 9, 3) := by decide +kernel
theorem dX11_goes_615 : decode cX11_goes 615 = .ok (.aload_n 0, 1) := by decide +kernel
theorem dX11_goes_616 : decode cX11_goes 616 = .ok (.iconst 0, 1) := by decide +kernel
theorem dX11_goes_617 : decode cX11_goes 617 = .ok (.putfield 263, 3) := by decide +kernel
theorem dX11_goes_620 : decode cX11_goes 620 = .ok (.return_, 1) := by decide +kernel
theorem dX11_goes_621 : decode cX11_goes 621 = .ok (.aload_n 0, 1) := by decide +kernel
theorem dX11_goes_622 : decode cX11_goes 622 = .ok (.iload 5, 2) := by decide +kernel
theorem dX11_goes_624 : decode cX11_goes 624 = .ok (.putfield 248, 3) := by decide +kernel
theorem dX11_goes_627 : decode cX11_goes 627 = .ok (.goto (-526), 3) := by decide +kernel
theorem dX11_goes_630 : decode cX11_goes 630 = .ok (.return_, 1) := by decide +kernel
theorem dX11_timeNow_0 : decode cX11_timeNow 0 = .ok (.aload_n 0, 1) := by decide +kernel
theorem dX11_timeNow_1 : decode cX11_timeNow 1 = .ok (.invokevirtual 280, 3) := by decide +kernel
theorem dX11_timeNow_4 : decode cX11_timeNow 4 = .ok (.aload_n 0, 1) := by decide +kernel
theorem dX11_timeNow_5 : decode cX11_timeNow 5 = .ok (.getfield 254, 3) := by decide +kernel
theorem dX11_timeNow_8 : decode cX11_timeNow 8 = .ok (.ireturn, 1) := by decide +kernel
theorem dX11_run_0 : decode cX11_run 0 = .ok (.aload_n 0, 1) := by decide +kernel
theorem dX11_run_1 : decode cX11_run 1 = .ok (.getfield 194, 3) := by decide +kernel
theorem dX11_run_4 : decode cX11_run 4 = .ok (.ifCond .ne 6, 3) := by decide +kernel
theorem dX11_run_7 : decode cX11_run 7 = .ok (.bipush (-4), 2) := by decide +kernel
theorem dX11_run_9 : decode cX11_run 9 = .ok (.ireturn, 1) := by decide +kernel
theorem dX11_run_10 : decode cX11_run 10 = .ok (.aload_n 0, 1) := by decide +kernel
theorem dX11_run_11 : decode cX11_run 11 = .ok (.invokevirtual 280, 3) := by decide +kernel
theorem dX11_run_14 : decode cX11_run 14 = .ok (.aload_n 0, 1) := by decide +kernel
theorem dX11_run_15 : decode cX11_run 15 = .ok (.iconst 1, 1) := by decide +kernel
theorem dX11_run_16 : decode cX11_run 16 = .ok (.putfield 200, 3) := by decide +kernel
theorem dX11_run_19 : decode cX11_run 19 = .ok (.aload_n 0, 1) := by decide +kernel
theorem dX11_run_20 : decode cX11_run 20 = .ok (.getfield 77, 3) := by decide +kernel
theorem dX11_run_23 : decode cX11_run 23 = .ok (.iconst 0, 1) := by decide +kernel
theorem dX11_run_24 : decode cX11_run 24 = .ok (.aload_n 0, 1) := by decide +kernel
theorem dX11_run_25 : decode cX11_run 25 = .ok (.getfield 263, 3) := by decide +kernel
theorem dX11_run_28 : decode cX11_run 28 = .ok (.iastore, 1) := by decide +kernel
theorem dX11_run_29 : decode cX11_run 29 = .ok (.aload_n 0, 1) := by decide +kernel
theorem dX11_run_30 : decode cX11_run 30 = .ok (.getfield 77, 3) := by decide +kernel
theorem dX11_run_33 : decode cX11_run 33 = .ok (.iconst 1, 1) := by decide +kernel
theorem dX11_run_34 : decode cX11_run 34 = .ok (.aload_n 0, 1) := by decide +kernel
theorem dX11_run_35 : decode cX11_run 35 = .ok (.getfield 245, 3) := by decide +kernel
theorem dX11_run_38 : decode cX11_run 38 = .ok (.iastore, 1) := by decide +kernel
theorem dX11_run_39 : decode cX11_run 39 = .ok (.aload_n 0, 1) := by decide +kernel
theorem dX11_run_40 : decode cX11_run 40 = .ok (.getfield 77, 3) := by decide +kernel
theorem dX11_run_43 : decode cX11_run 43 = .ok (.iconst 2, 1) := by decide +kernel
theorem dX11_run_44 : decode cX11_run 44 = .ok (.aload_n 0, 1) := by decide +kernel
theorem dX11_run_45 : decode cX11_run 45 = .ok (.getfield 248, 3) := by decide +kernel
theorem dX11_run_48 : decode cX11_run 48 = .ok (.iastore, 1) := by decide +kernel
theorem dX11_run_49 : decode cX11_run 49 = .ok (.aload_n 0, 1) := by decide +kernel
theorem dX11_run_50 : decode cX11_run 50 = .ok (.getfield 77, 3) := by decide +kernel
theorem dX11_run_53 : decode cX11_run 53 = .ok (.iconst 3, 1) := by decide +kernel
theorem dX11_run_54 : decode cX11_run 54 = .ok (.aload_n 0, 1) := by decide +kernel
theorem dX11_run_55 : decode cX11_run 55 = .ok (.getfield 251, 3) := by decide +kernel
theorem dX11_run_58 : decode cX11_run 58 = .ok (.iastore, 1) := by decide +kernel
theorem dX11_run_59 : decode cX11_run 59 = .ok (.aload_n 0, 1) := by decide +kernel
theorem dX11_run_60 : decode cX11_run 60 = .ok (.getfield 77, 3) := by decide +kernel
theorem dX11_run_63 : decode cX11_run 63 = .ok (.iconst 4, 1) := by decide +kernel
theorem dX11_run_64 : decode cX11_run 64 = .ok (.aload_n 0, 1) := by decide +kernel
theorem dX11_run_65 : decode cX11_run 65 = .ok (.getfield 254, 3) := by decide +kernel
theorem dX11_run_68 : decode cX11_run 68 = .ok (.iastore, 1) := by decide +kernel
theorem dX11_run_69 : decode cX11_run 69 = .ok (.aload_n 0, 1) := by decide +kernel
theorem dX11_run_70 : decode cX11_run 70 = .ok (.getfield 77, 3) := by decide +kernel
theorem dX11_run_73 : decode cX11_run 73 = .ok (.iconst 5, 1) := by decide +kernel
theorem dX11_run_74 : decode cX11_run 74 = .ok (.aload_n 0, 1) := by decide +kernel
theorem dX11_run_75 : decode cX11_run 75 = .ok (.getfield 257, 3) := by decide +kernel
theorem dX11_run_78 : decode cX11_run 78 = .ok (.iastore, 1) := by decide +kernel
theorem dX11_run_79 : decode cX11_run 79 = .ok (.iconst 0, 1) := by decide +kernel
theorem dX11_run_80 : decode cX11_run 80 = .ok (.istore_n 1, 1) := by decide +kernel
theorem dX11_run_81 : decode cX11_run 81 = .ok (.iload_n 1, 1) := by decide +kernel
theorem dX11_run_82 : decode cX11_run 82 = .ok (.bipush 100, 2) := by decide +kernel
theorem dX11_run_84 : decode cX11_run 84 = .ok (.if_icmp .ge 21, 3) := by decide +kernel
theorem dX11_run_87 : decode cX11_run 87 = .ok (.aload_n 0, 1) := by decide +kernel
theorem dX11_run_88 : decode cX11_run 88 = .ok (.getfield 80, 3) := by decide +kernel
theorem dX11_run_91 : decode cX11_run 91 = .ok (.iload_n 1, 1) := by decide +kernel
theorem dX11_run_92 : decode cX11_run 92 = .ok (.aload_n 0, 1) := by decide +kernel
theorem dX11_run_93 : decode cX11_run 93 = .ok (.getfield 59, 3) := by decide +kernel
theorem dX11_run_96 : decode cX11_run 96 = .ok (.iload_n 1, 1) := by decide +kernel
theorem dX11_run_97 : decode cX11_run 97 = .ok (.iaload, 1) := by decide +kernel
theorem dX11_run_98 : decode cX11_run 98 = .ok (.iastore, 1) := by decide +kernel
theorem dX11_run_99 : decode cX11_run 99 = .ok (.iinc 1 1, 3) := by decide +kernel
theorem dX11_run_102 : decode cX11_run 102 = .ok (.goto (-21), 3) := by decide +kernel
theorem dX11_run_105 : decode cX11_run 105 = .ok (.aload_n 0, 1) := by decide +kernel
theorem dX11_run_106 : decode cX11_run 106 = .ok (.aload_n 0, 1) := by decide +kernel
theorem dX11_run_107 : decode cX11_run 107 = .ok (.getfield 194, 3) := by decide +kernel
theorem dX11_run_110 : decode cX11_run 110 = .ok (.putfield 283, 3) := by decide +kernel
theorem dX11_run_113 : decode cX11_run 113 = .ok (.iconst 0, 1) := by decide +kernel
theorem dX11_run_114 : decode cX11_run 114 = .ok (.istore_n 1, 1) := by decide +kernel
theorem dX11_run_115 : decode cX11_run 115 = .ok (.iload_n 1, 1) := by decide +kernel
theorem dX11_run_116 : decode cX11_run 116 = .ok (.aload_n 0, 1) := by decide +kernel
theorem dX11_run_117 : decode cX11_run 117 = .ok (.getfield 194, 3) := by decide +kernel
theorem dX11_run_120 : decode cX11_run 120 = .ok (.if_icmp .ge 135, 3) := by decide +kernel
theorem dX11_run_123 : decode cX11_run 123 = .ok (.bipush 8, 2) := by decide +kernel
theorem dX11_run_125 : decode cX11_run 125 = .ok (.iload_n 1, 1) := by decide +kernel
theorem dX11_run_126 : decode cX11_run 126 = .ok (.imul, 1) := by decide +kernel
theorem dX11_run_127 : decode cX11_run 127 = .ok (.istore_n 2, 1) := by decide +kernel
theorem dX11_run_128 : decode cX11_run 128 = .ok (.aload_n 0, 1) := by decide +kernel
theorem dX11_run_129 : decode cX11_run 129 = .ok (.getfield 83, 3) := by decide +kernel
theorem dX11_run_132 : decode cX11_run 132 = .ok (.iload_n 2, 1) := by decide +kernel
theorem dX11_run_133 : decode cX11_run 133 = .ok (.aload_n 0, 1) := by decide +kernel
theorem dX11_run_134 : decode cX11_run 134 = .ok (.getfield 62, 3) := by decide +kernel
theorem dX11_run_137 : decode cX11_run 137 = .ok (.iload_n 1, 1) := by decide +kernel
theorem dX11_run_138 : decode cX11_run 138 = .ok (.iaload, 1) := by decide +kernel
theorem dX11_run_139 : decode cX11_run 139 = .ok (.iastore, 1) := by decide +kernel
theorem dX11_run_140 : decode cX11_run 140 = .ok (.aload_n 0, 1) := by decide +kernel
theorem dX11_run_141 : decode cX11_run 141 = .ok (.getfield 83, 3) := by decide +kernel
theorem dX11_run_144 : decode cX11_run 144 = .ok (.iload_n 2, 1) := by decide +kernel
theorem dX11_run_145 : decode cX11_run 145 = .ok (.iconst 1, 1) := by decide +kernel
theorem dX11_run_146 : decode cX11_run 146 = .ok (.iadd, 1) := by decide +kernel
theorem dX11_run_147 : decode cX11_run 147 = .ok (.aload_n 0, 1) := by decide +kernel
theorem dX11_run_148 : decode cX11_run 148 = .ok (.getfield 65, 3) := by decide +kernel
theorem dX11_run_151 : decode cX11_run 151 = .ok (.iload_n 1, 1) := by decide +kernel
theorem dX11_run_152 : decode cX11_run 152 = .ok (.iaload, 1) := by decide +kernel
theorem dX11_run_153 : decode cX11_run 153 = .ok (.iastore, 1) := by decide +kernel
theorem dX11_run_154 : decode cX11_run 154 = .ok (.aload_n 0, 1) := by decide +kernel
theorem dX11_run_155 : decode cX11_run 155 = .ok (.getfield 83, 3) := by decide +kernel
theorem dX11_run_158 : decode cX11_run 158 = .ok (.iload_n 2, 1) := by decide +kernel
theorem dX11_run_159 : decode cX11_run 159 = .ok (.iconst 2, 1) := by decide +kernel
theorem dX11_run_160 : decode cX11_run 160 = .ok (.iadd, 1) := by decide +kernel
theorem dX11_run_161 : decode cX11_run 161 = .ok (.aload_n 0, 1) := by decide +kernel
theorem dX11_run_162 : decode cX11_run 162 = .ok (.getfield 68, 3) := by decide +kernel
theorem dX11_run_165 : decode cX11_run 165 = .ok (.iload_n 1, 1) := by decide +kernel
theorem dX11_run_166 : decode cX11_run 166 = .ok (.iaload, 1) := by decide +kernel
theorem dX11_run_167 : decode cX11_run 167 = .ok (.iastore, 1) := by decide +kernel
theorem dX11_run_168 : decode cX11_run 168 = .ok (.aload_n 0, 1) := by decide +kernel
theorem dX11_run_169 : decode cX11_run 169 = .ok (.getfield 83, 3) := by decide +kernel
theorem dX11_run_172 : decode cX11_run 172 = .ok (.iload_n 2, 1) := by decide +kernel
theorem dX11_run_173 : decode cX11_run 173 = .ok (.iconst 3, 1) := by decide +kernel
theorem dX11_run_174 : decode cX11_run 174 = .ok (.iadd, 1) := by decide +kernel
theorem dX11_run_175 : decode cX11_run 175 = .ok (.aload_n 0, 1) := by decide +kernel
theorem dX11_run_176 : decode cX11_run 176 = .ok (.getfield 56, 3) := by decide +kernel
theorem dX11_run_179 : decode cX11_run 179 = .ok (.iload_n 1, 1) := by decide +kernel
theorem dX11_run_180 : decode cX11_run 180 = .ok (.iaload, 1) := by decide +kernel
theorem dX11_run_181 : decode cX11_run 181 = .ok (.iastore, 1) := by decide +kernel
theorem dX11_run_182 : decode cX11_run 182 = .ok (.aload_n 0, 1) := by decide +kernel
theorem dX11_run_183 : decode cX11_run 183 = .ok (.getfield 83, 3) := by decide +kernel
theorem dX11_run_186 : decode cX11_run 186 = .ok (.iload_n 2, 1) := by decide +kernel
theorem dX11_run_187 : decode cX11_run 187 = .ok (.iconst 4, 1) := by decide +kernel
theorem dX11_run_188 : decode cX11_run 188 = .ok (.iadd, 1) := by decide +kernel
theorem dX11_run_189 : decode cX11_run 189 = .ok (.aload_n 0, 1) := by decide +kernel
theorem dX11_run_190 : decode cX11_run 190 = .ok (.getfield 71, 3) := by decide +kernel
theorem dX11_run_193 : decode cX11_run 193 = .ok (.iload_n 1, 1) := by decide +kernel
theorem dX11_run_194 : decode cX11_run 194 = .ok (.iaload, 1) := by decide +kernel
theorem dX11_run_195 : decode cX11_run 195 = .ok (.iastore, 1) := by decide +kernel
theorem dX11_run_196 : decode cX11_run 196 = .ok (.aload_n 0, 1) := by decide +kernel
theorem dX11_run_197 : decode cX11_run 197 = .ok (.getfield 83, 3) := by decide +kernel
theorem dX11_run_200 : decode cX11_run 200 = .ok (.iload_n 2, 1) := by decide +kernel
theorem dX11_run_201 : decode cX11_run 201 = .ok (.iconst 5, 1) := by decide +kernel
theorem dX11_run_202 : decode cX11_run 202 = .ok (.iadd, 1) := by decide +kernel
theorem dX11_run_203 : decode cX11_run 203 = .ok (.aload_n 0, 1) := by decide +kernel
theorem dX11_run_204 : decode cX11_run 204 = .ok (.getfield 74, 3) := by decide +kernel
theorem dX11_run_207 : decode cX11_run 207 = .ok (.iload_n 1, 1) := by decide +kernel
theorem dX11_run_208 : decode cX11_run 208 = .ok (.iaload, 1) := by decide +kernel
theorem dX11_run_209 : decode cX11_run 209 = .ok (.iastore, 1) := by decide +kernel
theorem dX11_run_210 : decode cX11_run 210 = .ok (.aload_n 0, 1) := by decide +kernel
theorem dX11_run_211 : decode cX11_run 211 = .ok (.getfield 83, 3) := by decide +kernel
theorem dX11_run_214 : decode cX11_run 214 = .ok (.iload_n 2, 1) := by decide +kernel
theorem dX11_run_215 : decode cX11_run 215 = .ok (.bipush 6, 2) := by decide +kernel
theorem dX11_run_217 : decode cX11_run 217 = .ok (.iadd, 1) := by decide +kernel
theorem dX11_run_218 : decode cX11_run 218 = .ok (.aload_n 0, 1) := by decide +kernel
theorem dX11_run_219 : decode cX11_run 219 = .ok (.getfield 56, 3) := by decide +kernel
theorem dX11_run_222 : decode cX11_run 222 = .ok (.iload_n 1, 1) := by decide +kernel
theorem dX11_run_223 : decode cX11_run 223 = .ok (.iaload, 1) := by decide +kernel
theorem dX11_run_224 : decode cX11_run 224 = .ok (.aload_n 0, 1) := by decide +kernel
theorem dX11_run_225 : decode cX11_run 225 = .ok (.getfield 32, 3) := by decide +kernel
theorem dX11_run_228 : decode cX11_run 228 = .ok (.iload_n 1, 1) := by decide +kernel
theorem dX11_run_229 : decode cX11_run 229 = .ok (.iaload, 1) := by decide +kernel
theorem dX11_run_230 : decode cX11_run 230 = .ok (.if_icmp .ne 7, 3) := by decide +kernel
theorem dX11_run_233 : decode cX11_run 233 = .ok (.iconst 0, 1) := by decide +kernel
theorem dX11_run_234 : decode cX11_run 234 = .ok (.goto 4, 3) := by decide +kernel
theorem dX11_run_237 : decode cX11_run 237 = .ok (.iconst 1, 1) := by decide +kernel
theorem dX11_run_238 : decode cX11_run 238 = .ok (.iastore, 1) := by decide +kernel
theorem dX11_run_239 : decode cX11_run 239 = .ok (.aload_n 0, 1) := by decide +kernel
theorem dX11_run_240 : decode cX11_run 240 = .ok (.getfield 83, 3) := by decide +kernel
theorem dX11_run_243 : decode cX11_run 243 = .ok (.iload_n 2, 1) := by decide +kernel
theorem dX11_run_244 : decode cX11_run 244 = .ok (.bipush 7, 2) := by decide +kernel
theorem dX11_run_246 : decode cX11_run 246 = .ok (.iadd, 1) := by decide +kernel
theorem dX11_run_247 : decode cX11_run 247 = .ok (.iconst (-1), 1) := by decide +kernel
theorem dX11_run_248 : decode cX11_run 248 = .ok (.iastore, 1) := by decide +kernel
theorem dX11_run_249 : decode cX11_run 249 = .ok (.iinc 1 1, 3) := by decide +kernel
theorem dX11_run_252 : decode cX11_run 252 = .ok (.goto (-137), 3) := by decide +kernel
theorem dX11_run_255 : decode cX11_run 255 = .ok (.aload_n 0, 1) := by decide +kernel
theorem dX11_run_256 : decode cX11_run 256 = .ok (.invokevirtual 286, 3) := by decide +kernel
theorem dX11_run_259 : decode cX11_run 259 = .ok (.aload_n 0, 1) := by decide +kernel
theorem dX11_run_260 : decode cX11_run 260 = .ok (.getfield 260, 3) := by decide +kernel
theorem dX11_run_263 : decode cX11_run 263 = .ok (.ireturn, 1) := by decide +kernel
theorem dX11_ran_0 : decode cX11_ran 0 = .ok (.aload_n 0, 1) := by decide +kernel
theorem dX11_ran_1 : decode cX11_ran 1 = .ok (.getfield 200, 3) := by decide +kernel
theorem dX11_ran_4 : decode cX11_ran 4 = .ok (.ifCond .ne 6, 3) := by decide +kernel
theorem dX11_ran_7 : decode cX11_ran 7 = .ok (.ldc 244, 2) := by decide +kernel
theorem dX11_ran_9 : decode cX11_ran 9 = .ok (.ireturn, 1) := by decide +kernel
theorem dX11_ran_10 : decode cX11_ran 10 = .ok (.iload_n 1, 1) := by decide +kernel
theorem dX11_ran_11 : decode cX11_ran 11 = .ok (.iconst 0, 1) := by decide +kernel
theorem dX11_ran_12 : decode cX11_ran 12 = .ok (.iconst 5, 1) := by decide +kernel
theorem dX11_ran_13 : decode cX11_ran 13 = .ok (.invokestatic 181, 3) := by decide +kernel
theorem dX11_ran_16 : decode cX11_ran 16 = .ok (.ifCond .eq 10, 3) := by decide +kernel
theorem dX11_ran_19 : decode cX11_ran 19 = .ok (.aload_n 0, 1) := by decide +kernel
theorem dX11_ran_20 : decode cX11_ran 20 = .ok (.getfield 77, 3) := by decide +kernel
theorem dX11_ran_23 : decode cX11_ran 23 = .ok (.iload_n 1, 1) := by decide +kernel
theorem dX11_ran_24 : decode cX11_ran 24 = .ok (.iaload, 1) := by decide +kernel
theorem dX11_ran_25 : decode cX11_ran 25 = .ok (.ireturn, 1) := by decide +kernel
theorem dX11_ran_26 : decode cX11_ran 26 = .ok (.iload_n 1, 1) := by decide +kernel
theorem dX11_ran_27 : decode cX11_ran 27 = .ok (.bipush 100, 2) := by decide +kernel
theorem dX11_ran_29 : decode cX11_ran 29 = .ok (.if_icmp .lt 35, 3) := by decide +kernel
theorem dX11_ran_32 : decode cX11_ran 32 = .ok (.iload_n 1, 1) := by decide +kernel
theorem dX11_ran_33 : decode cX11_ran 33 = .ok (.sipush 200, 3) := by decide +kernel
theorem dX11_ran_36 : decode cX11_ran 36 = .ok (.if_icmp .ge 28, 3) := by decide +kernel
theorem dX11_ran_39 : decode cX11_ran 39 = .ok (.iload_n 1, 1) := by decide +kernel
theorem dX11_ran_40 : decode cX11_ran 40 = .ok (.bipush 100, 2) := by decide +kernel
theorem dX11_ran_42 : decode cX11_ran 42 = .ok (.isub, 1) := by decide +kernel
theorem dX11_ran_43 : decode cX11_ran 43 = .ok (.aload_n 0, 1) := by decide +kernel
theorem dX11_ran_44 : decode cX11_ran 44 = .ok (.getfield 77, 3) := by decide +kernel
theorem dX11_ran_47 : decode cX11_ran 47 = .ok (.iconst 3, 1) := by decide +kernel
theorem dX11_ran_48 : decode cX11_ran 48 = .ok (.iaload, 1) := by decide +kernel
theorem dX11_ran_49 : decode cX11_ran 49 = .ok (.if_icmp .ge 15, 3) := by decide +kernel
theorem dX11_ran_52 : decode cX11_ran 52 = .ok (.aload_n 0, 1) := by decide +kernel
theorem dX11_ran_53 : decode cX11_ran 53 = .ok (.getfield 80, 3) := by decide +kernel
theorem dX11_ran_56 : decode cX11_ran 56 = .ok (.iload_n 1, 1) := by decide +kernel
theorem dX11_ran_57 : decode cX11_ran 57 = .ok (.bipush 100, 2) := by decide +kernel
theorem dX11_ran_59 : decode cX11_ran 59 = .ok (.isub, 1) := by decide +kernel
theorem dX11_ran_60 : decode cX11_ran 60 = .ok (.iaload, 1) := by decide +kernel
theorem dX11_ran_61 : decode cX11_ran 61 = .ok (.goto 5, 3) := by decide +kernel
theorem dX11_ran_64 : decode cX11_ran 64 = .ok (.ldc 244, 2) := by decide +kernel
theorem dX11_ran_66 : decode cX11_ran 66 = .ok (.ireturn, 1) := by decide +kernel
theorem dX11_of_0 : decode cX11_of 0 = .ok (.aload_n 0, 1) := by decide +kernel
theorem dX11_of_1 : decode cX11_of 1 = .ok (.getfield 200, 3) := by decide +kernel
theorem dX11_of_4 : decode cX11_of 4 = .ok (.ifCond .eq 41, 3) := by decide +kernel
theorem dX11_of_7 : decode cX11_of 7 = .ok (.iload_n 1, 1) := by decide +kernel
theorem dX11_of_8 : decode cX11_of 8 = .ok (.iconst 0, 1) := by decide +kernel
theorem dX11_of_9 : decode cX11_of 9 = .ok (.aload_n 0, 1) := by decide +kernel
theorem dX11_of_10 : decode cX11_of 10 = .ok (.getfield 283, 3) := by decide +kernel
theorem dX11_of_13 : decode cX11_of 13 = .ok (.iconst 1, 1) := by decide +kernel
theorem dX11_of_14 : decode cX11_of 14 = .ok (.isub, 1) := by decide +kernel
theorem dX11_of_15 : decode cX11_of 15 = .ok (.invokestatic 181, 3) := by decide +kernel
theorem dX11_of_18 : decode cX11_of 18 = .ok (.ifCond .eq 27, 3) := by decide +kernel
theorem dX11_of_21 : decode cX11_of 21 = .ok (.iload_n 2, 1) := by decide +kernel
theorem dX11_of_22 : decode cX11_of 22 = .ok (.iconst 0, 1) := by decide +kernel
theorem dX11_of_23 : decode cX11_of 23 = .ok (.bipush 7, 2) := by decide +kernel
theorem dX11_of_25 : decode cX11_of 25 = .ok (.invokestatic 181, 3) := by decide +kernel
theorem dX11_of_28 : decode cX11_of 28 = .ok (.ifCond .eq 17, 3) := by decide +kernel
theorem dX11_of_31 : decode cX11_of 31 = .ok (.aload_n 0, 1) := by decide +kernel
theorem dX11_of_32 : decode cX11_of 32 = .ok (.getfield 83, 3) := by decide +kernel
theorem dX11_of_35 : decode cX11_of 35 = .ok (.bipush 8, 2) := by decide +kernel
theorem dX11_of_37 : decode cX11_of 37 = .ok (.iload_n 1, 1) := by decide +kernel
theorem dX11_of_38 : decode cX11_of 38 = .ok (.imul, 1) := by decide +kernel
theorem dX11_of_39 : decode cX11_of 39 = .ok (.iload_n 2, 1) := by decide +kernel
theorem dX11_of_40 : decode cX11_of 40 = .ok (.iadd, 1) := by decide +kernel
theorem dX11_of_41 : decode cX11_of 41 = .ok (.iaload, 1) := by decide +kernel
theorem dX11_of_42 : decode cX11_of 42 = .ok (.goto 5, 3) := by decide +kernel
theorem dX11_of_45 : decode cX11_of 45 = .ok (.ldc 244, 2) := by decide +kernel
theorem dX11_of_47 : decode cX11_of 47 = .ok (.ireturn, 1) := by decide +kernel
theorem dX11_meet_0 : decode cX11_meet 0 = .ok (.aload_n 0, 1) := by decide +kernel
theorem dX11_meet_1 : decode cX11_meet 1 = .ok (.getfield 83, 3) := by decide +kernel
theorem dX11_meet_4 : decode cX11_meet 4 = .ok (.bipush 8, 2) := by decide +kernel
theorem dX11_meet_6 : decode cX11_meet 6 = .ok (.iload_n 1, 1) := by decide +kernel
theorem dX11_meet_7 : decode cX11_meet 7 = .ok (.imul, 1) := by decide +kernel
theorem dX11_meet_8 : decode cX11_meet 8 = .ok (.iconst 4, 1) := by decide +kernel
theorem dX11_meet_9 : decode cX11_meet 9 = .ok (.iadd, 1) := by decide +kernel
theorem dX11_meet_10 : decode cX11_meet 10 = .ok (.iaload, 1) := by decide +kernel
theorem dX11_meet_11 : decode cX11_meet 11 = .ok (.aload_n 0, 1) := by decide +kernel
theorem dX11_meet_12 : decode cX11_meet 12 = .ok (.getfield 83, 3) := by decide +kernel
theorem dX11_meet_15 : decode cX11_meet 15 = .ok (.bipush 8, 2) := by decide +kernel
theorem dX11_meet_17 : decode cX11_meet 17 = .ok (.iload_n 2, 1) := by decide +kernel
theorem dX11_meet_18 : decode cX11_meet 18 = .ok (.imul, 1) := by decide +kernel
theorem dX11_meet_19 : decode cX11_meet 19 = .ok (.iconst 5, 1) := by decide +kernel
theorem dX11_meet_20 : decode cX11_meet 20 = .ok (.iadd, 1) := by decide +kernel
theorem dX11_meet_21 : decode cX11_meet 21 = .ok (.iaload, 1) := by decide +kernel
theorem dX11_meet_22 : decode cX11_meet 22 = .ok (.if_icmp .gt 32, 3) := by decide +kernel
theorem dX11_meet_25 : decode cX11_meet 25 = .ok (.aload_n 0, 1) := by decide +kernel
theorem dX11_meet_26 : decode cX11_meet 26 = .ok (.getfield 83, 3) := by decide +kernel
theorem dX11_meet_29 : decode cX11_meet 29 = .ok (.bipush 8, 2) := by decide +kernel
theorem dX11_meet_31 : decode cX11_meet 31 = .ok (.iload_n 2, 1) := by decide +kernel
theorem dX11_meet_32 : decode cX11_meet 32 = .ok (.imul, 1) := by decide +kernel
theorem dX11_meet_33 : decode cX11_meet 33 = .ok (.iconst 4, 1) := by decide +kernel
theorem dX11_meet_34 : decode cX11_meet 34 = .ok (.iadd, 1) := by decide +kernel
theorem dX11_meet_35 : decode cX11_meet 35 = .ok (.iaload, 1) := by decide +kernel
theorem dX11_meet_36 : decode cX11_meet 36 = .ok (.aload_n 0, 1) := by decide +kernel
theorem dX11_meet_37 : decode cX11_meet 37 = .ok (.getfield 83, 3) := by decide +kernel
theorem dX11_meet_40 : decode cX11_meet 40 = .ok (.bipush 8, 2) := by decide +kernel
theorem dX11_meet_42 : decode cX11_meet 42 = .ok (.iload_n 1, 1) := by decide +kernel
theorem dX11_meet_43 : decode cX11_meet 43 = .ok (.imul, 1) := by decide +kernel
theorem dX11_meet_44 : decode cX11_meet 44 = .ok (.iconst 5, 1) := by decide +kernel
theorem dX11_meet_45 : decode cX11_meet 45 = .ok (.iadd, 1) := by decide +kernel
theorem dX11_meet_46 : decode cX11_meet 46 = .ok (.iaload, 1) := by decide +kernel
theorem dX11_meet_47 : decode cX11_meet 47 = .ok (.if_icmp .gt 7, 3) := by decide +kernel
theorem dX11_meet_50 : decode cX11_meet 50 = .ok (.iconst 1, 1) := by decide +kernel
theorem dX11_meet_51 : decode cX11_meet 51 = .ok (.goto 4, 3) := by decide +kernel
theorem dX11_meet_54 : decode cX11_meet 54 = .ok (.iconst 0, 1) := by decide +kernel
theorem dX11_meet_55 : decode cX11_meet 55 = .ok (.ireturn, 1) := by decide +kernel
theorem dX11_share_0 : decode cX11_share 0 = .ok (.iconst 0, 1) := by decide +kernel
theorem dX11_share_1 : decode cX11_share 1 = .ok (.istore_n 1, 1) := by decide +kernel
theorem dX11_share_2 : decode cX11_share 2 = .ok (.iload_n 1, 1) := by decide +kernel
theorem dX11_share_3 : decode cX11_share 3 = .ok (.aload_n 0, 1) := by decide +kernel
theorem dX11_share_4 : decode cX11_share 4 = .ok (.getfield 283, 3) := by decide +kernel
theorem dX11_share_7 : decode cX11_share 7 = .ok (.if_icmp .ge 195, 3) := by decide +kernel
theorem dX11_share_10 : decode cX11_share 10 = .ok (.iconst (-1), 1) := by decide +kernel
theorem dX11_share_11 : decode cX11_share 11 = .ok (.istore_n 2, 1) := by decide +kernel
theorem dX11_share_12 : decode cX11_share 12 = .ok (.iconst 0, 1) := by decide +kernel
theorem dX11_share_13 : decode cX11_share 13 = .ok (.istore_n 3, 1) := by decide +kernel
theorem dX11_share_14 : decode cX11_share 14 = .ok (.iload_n 3, 1) := by decide +kernel
theorem dX11_share_15 : decode cX11_share 15 = .ok (.aload_n 0, 1) := by decide +kernel
theorem dX11_share_16 : decode cX11_share 16 = .ok (.getfield 283, 3) := by decide +kernel
theorem dX11_share_19 : decode cX11_share 19 = .ok (.if_icmp .ge 72, 3) := by decide +kernel
theorem dX11_share_22 : decode cX11_share 22 = .ok (.aload_n 0, 1) := by decide +kernel
theorem dX11_share_23 : decode cX11_share 23 = .ok (.getfield 83, 3) := by decide +kernel
theorem dX11_share_26 : decode cX11_share 26 = .ok (.bipush 8, 2) := by decide +kernel
theorem dX11_share_28 : decode cX11_share 28 = .ok (.iload_n 3, 1) := by decide +kernel
theorem dX11_share_29 : decode cX11_share 29 = .ok (.imul, 1) := by decide +kernel
theorem dX11_share_30 : decode cX11_share 30 = .ok (.bipush 7, 2) := by decide +kernel
theorem dX11_share_32 : decode cX11_share 32 = .ok (.iadd, 1) := by decide +kernel
theorem dX11_share_33 : decode cX11_share 33 = .ok (.iaload, 1) := by decide +kernel
theorem dX11_share_34 : decode cX11_share 34 = .ok (.iconst (-1), 1) := by decide +kernel
theorem dX11_share_35 : decode cX11_share 35 = .ok (.if_icmp .ne 50, 3) := by decide +kernel
theorem dX11_share_38 : decode cX11_share 38 = .ok (.aload_n 0, 1) := by decide +kernel
theorem dX11_share_39 : decode cX11_share 39 = .ok (.getfield 83, 3) := by decide +kernel
theorem dX11_share_42 : decode cX11_share 42 = .ok (.bipush 8, 2) := by decide +kernel
theorem dX11_share_44 : decode cX11_share 44 = .ok (.iload_n 3, 1) := by decide +kernel
theorem dX11_share_45 : decode cX11_share 45 = .ok (.imul, 1) := by decide +kernel
theorem dX11_share_46 : decode cX11_share 46 = .ok (.iconst 4, 1) := by decide +kernel
theorem dX11_share_47 : decode cX11_share 47 = .ok (.iadd, 1) := by decide +kernel
theorem dX11_share_48 : decode cX11_share 48 = .ok (.iaload, 1) := by decide +kernel
theorem dX11_share_49 : decode cX11_share 49 = .ok (.iconst (-1), 1) := by decide +kernel
theorem dX11_share_50 : decode cX11_share 50 = .ok (.if_icmp .eq 35, 3) := by decide +kernel
theorem dX11_share_53 : decode cX11_share 53 = .ok (.iload_n 2, 1) := by decide +kernel
theorem dX11_share_54 : decode cX11_share 54 = .ok (.iconst (-1), 1) := by decide +kernel
theorem dX11_share_55 : decode cX11_share 55 = .ok (.if_icmp .eq 28, 3) := by decide +kernel
theorem dX11_share_58 : decode cX11_share 58 = .ok (.aload_n 0, 1) := by decide +kernel
theorem dX11_share_59 : decode cX11_share 59 = .ok (.getfield 83, 3) := by decide +kernel
theorem dX11_share_62 : decode cX11_share 62 = .ok (.bipush 8, 2) := by decide +kernel
theorem dX11_share_64 : decode cX11_share 64 = .ok (.iload_n 3, 1) := by decide +kernel
theorem dX11_share_65 : decode cX11_share 65 = .ok (.imul, 1) := by decide +kernel
theorem dX11_share_66 : decode cX11_share 66 = .ok (.iconst 4, 1) := by decide +kernel
theorem dX11_share_67 : decode cX11_share 67 = .ok (.iadd, 1) := by decide +kernel
theorem dX11_share_68 : decode cX11_share 68 = .ok (.iaload, 1) := by decide +kernel
theorem dX11_share_69 : decode cX11_share 69 = .ok (.aload_n 0, 1) := by decide +kernel
theorem dX11_share_70 : decode cX11_share 70 = .ok (.getfield 83, 3) := by decide +kernel
theorem dX11_share_73 : decode cX11_share 73 = .ok (.bipush 8, 2) := by decide +kernel
theorem dX11_share_75 : decode cX11_share 75 = .ok (.iload_n 2, 1) := by decide +kernel
theorem dX11_share_76 : decode cX11_share 76 = .ok (.imul, 1) := by decide +kernel
theorem dX11_share_77 : decode cX11_share 77 = .ok (.iconst 4, 1) := by decide +kernel
theorem dX11_share_78 : decode cX11_share 78 = .ok (.iadd, 1) := by decide +kernel
theorem dX11_share_79 : decode cX11_share 79 = .ok (.iaload, 1) := by decide +kernel
theorem dX11_share_80 : decode cX11_share 80 = .ok (.if_icmp .ge 5, 3) := by decide +kernel
theorem dX11_share_83 : decode cX11_share 83 = .ok (.iload_n 3, 1) := by decide +kernel
theorem dX11_share_84 : decode cX11_share 84 = .ok (.istore_n 2, 1) := by decide +kernel
theorem dX11_share_85 : decode cX11_share 85 = .ok (.iinc 3 1, 3) := by decide +kernel
theorem dX11_share_88 : decode cX11_share 88 = .ok (.goto (-74), 3) := by decide +kernel
theorem dX11_share_91 : decode cX11_share 91 = .ok (.iload_n 2, 1) := by decide +kernel
theorem dX11_share_92 : decode cX11_share 92 = .ok (.iconst (-1), 1) := by decide +kernel
theorem dX11_share_93 : decode cX11_share 93 = .ok (.if_icmp .ne 4, 3) := by decide +kernel
theorem dX11_share_96 : decode cX11_share 96 = .ok (.return_, 1) := by decide +kernel
theorem dX11_share_97 : decode cX11_share 97 = .ok (.lconst 0, 1) := by decide +kernel
theorem dX11_share_98 : decode cX11_share 98 = .ok (.lstore_n 3, 1) := by decide +kernel
theorem dX11_share_99 : decode cX11_share 99 = .ok (.iconst 0, 1) := by decide +kernel
theorem dX11_share_100 : decode cX11_share 100 = .ok (.istore 5, 2) := by decide +kernel
theorem dX11_share_102 : decode cX11_share 102 = .ok (.iload 5, 2) := by decide +kernel
theorem dX11_share_104 : decode cX11_share 104 = .ok (.aload_n 0, 1) := by decide +kernel
theorem dX11_share_105 : decode cX11_share 105 = .ok (.getfield 283, 3) := by decide +kernel
theorem dX11_share_108 : decode cX11_share 108 = .ok (.if_icmp .ge 54, 3) := by decide +kernel
theorem dX11_share_111 : decode cX11_share 111 = .ok (.aload_n 0, 1) := by decide +kernel
theorem dX11_share_112 : decode cX11_share 112 = .ok (.getfield 83, 3) := by decide +kernel
theorem dX11_share_115 : decode cX11_share 115 = .ok (.bipush 8, 2) := by decide +kernel
theorem dX11_share_117 : decode cX11_share 117 = .ok (.iload 5, 2) := by decide +kernel
theorem dX11_share_119 : decode cX11_share 119 = .ok (.imul, 1) := by decide +kernel
theorem dX11_share_120 : decode cX11_share 120 = .ok (.bipush 7, 2) := by decide +kernel
theorem dX11_share_122 : decode cX11_share 122 = .ok (.iadd, 1) := by decide +kernel
theorem dX11_share_123 : decode cX11_share 123 = .ok (.iaload, 1) := by decide +kernel
theorem dX11_share_124 : decode cX11_share 124 = .ok (.iconst (-1), 1) := by decide +kernel
theorem dX11_share_125 : decode cX11_share 125 = .ok (.if_icmp .eq 31, 3) := by decide +kernel
theorem dX11_share_128 : decode cX11_share 128 = .ok (.aload_n 0, 1) := by decide +kernel
theorem dX11_share_129 : decode cX11_share 129 = .ok (.iload_n 2, 1) := by decide +kernel
theorem dX11_share_130 : decode cX11_share 130 = .ok (.iload 5, 2) := by decide +kernel
theorem dX11_share_132 : decode cX11_share 132 = .ok (.invokevirtual 289, 3) := by decide +kernel
theorem dX11_share_135 : decode cX11_share 135 = .ok (.ifCond .eq 21, 3) := by decide +kernel
theorem dX11_share_138 : decode cX11_share 138 = .ok (.lload_n 3, 1) := by decide +kernel
theorem dX11_share_139 : decode cX11_share 139 = .ok (.lconst 1, 1) := by decide +kernel
theorem dX11_share_140 : decode cX11_share 140 = .ok (.aload_n 0, 1) := by decide +kernel
theorem dX11_share_141 : decode cX11_share 141 = .ok (.getfield 83, 3) := by decide +kernel
theorem dX11_share_144 : decode cX11_share 144 = .ok (.bipush 8, 2) := by decide +kernel
theorem dX11_share_146 : decode cX11_share 146 = .ok (.iload 5, 2) := by decide +kernel
theorem dX11_share_148 : decode cX11_share 148 = .ok (.imul, 1) := by decide +kernel
theorem dX11_share_149 : decode cX11_share 149 = .ok (.bipush 7, 2) := by decide +kernel
theorem dX11_share_151 : decode cX11_share 151 = .ok (.iadd, 1) := by decide +kernel
theorem dX11_share_152 : decode cX11_share 152 = .ok (.iaload, 1) := by decide +kernel
theorem dX11_share_153 : decode cX11_share 153 = .ok (.lshl, 1) := by decide +kernel
theorem dX11_share_154 : decode cX11_share 154 = .ok (.lor, 1) := by decide +kernel
theorem dX11_share_155 : decode cX11_share 155 = .ok (.lstore_n 3, 1) := by decide +kernel
theorem dX11_share_156 : decode cX11_share 156 = .ok (.iinc 5 1, 3) := by decide +kernel
theorem dX11_share_159 : decode cX11_share 159 = .ok (.goto (-57), 3) := by decide +kernel
theorem dX11_share_162 : decode cX11_share 162 = .ok (.iconst 0, 1) := by decide +kernel
theorem dX11_share_163 : decode cX11_share 163 = .ok (.istore 5, 2) := by decide +kernel
theorem dX11_share_165 : decode cX11_share 165 = .ok (.lload_n 3, 1) := by decide +kernel
theorem dX11_share_166 : decode cX11_share 166 = .ok (.iload 5, 2) := by decide +kernel
theorem dX11_share_168 : decode cX11_share 168 = .ok (.lshr, 1) := by decide +kernel
theorem dX11_share_169 : decode cX11_share 169 = .ok (.lconst 1, 1) := by decide +kernel
theorem dX11_share_170 : decode cX11_share 170 = .ok (.land, 1) := by decide +kernel
theorem dX11_share_171 : decode cX11_share 171 = .ok (.lconst 1, 1) := by decide +kernel
theorem dX11_share_172 : decode cX11_share 172 = .ok (.lcmp, 1) := by decide +kernel
theorem dX11_share_173 : decode cX11_share 173 = .ok (.ifCond .ne 9, 3) := by decide +kernel
theorem dX11_share_176 : decode cX11_share 176 = .ok (.iinc 5 1, 3) := by decide +kernel
theorem dX11_share_179 : decode cX11_share 179 = .ok (.goto (-14), 3) := by decide +kernel
theorem dX11_share_182 : decode cX11_share 182 = .ok (.aload_n 0, 1) := by decide +kernel
theorem dX11_share_183 : decode cX11_share 183 = .ok (.getfield 83, 3) := by decide +kernel
theorem dX11_share_186 : decode cX11_share 186 = .ok (.bipush 8, 2) := by decide +kernel
theorem dX11_share_188 : decode cX11_share 188 = .ok (.iload_n 2, 1) := by decide +kernel
theorem dX11_share_189 : decode cX11_share 189 = .ok (.imul, 1) := by decide +kernel
theorem dX11_share_190 : decode cX11_share 190 = .ok (.bipush 7, 2) := by decide +kernel
theorem dX11_share_192 : decode cX11_share 192 = .ok (.iadd, 1) := by decide +kernel
theorem dX11_share_193 : decode cX11_share 193 = .ok (.iload 5, 2) := by decide +kernel
theorem dX11_share_195 : decode cX11_share 195 = .ok (.iastore, 1) := by decide +kernel
theorem dX11_share_196 : decode cX11_share 196 = .ok (.iinc 1 1, 3) := by decide +kernel
theorem dX11_share_199 : decode cX11_share 199 = .ok (.goto (-197), 3) := by decide +kernel
theorem dX11_share_202 : decode cX11_share 202 = .ok (.return_, 1) := by decide +kernel
theorem dX11_needed_0 : decode cX11_needed 0 = .ok (.iconst 0, 1) := by decide +kernel
theorem dX11_needed_1 : decode cX11_needed 1 = .ok (.istore_n 1, 1) := by decide +kernel
theorem dX11_needed_2 : decode cX11_needed 2 = .ok (.iconst 0, 1) := by decide +kernel
theorem dX11_needed_3 : decode cX11_needed 3 = .ok (.istore_n 2, 1) := by decide +kernel
theorem dX11_needed_4 : decode cX11_needed 4 = .ok (.iload_n 2, 1) := by decide +kernel
theorem dX11_needed_5 : decode cX11_needed 5 = .ok (.aload_n 0, 1) := by decide +kernel
theorem dX11_needed_6 : decode cX11_needed 6 = .ok (.getfield 283, 3) := by decide +kernel
theorem dX11_needed_9 : decode cX11_needed 9 = .ok (.if_icmp .ge 141, 3) := by decide +kernel
theorem dX11_needed_12 : decode cX11_needed 12 = .ok (.aload_n 0, 1) := by decide +kernel
theorem dX11_needed_13 : decode cX11_needed 13 = .ok (.getfield 200, 3) := by decide +kernel
theorem dX11_needed_16 : decode cX11_needed 16 = .ok (.ifCond .eq 134, 3) := by decide +kernel
theorem dX11_needed_19 : decode cX11_needed 19 = .ok (.aload_n 0, 1) := by decide +kernel
theorem dX11_needed_20 : decode cX11_needed 20 = .ok (.getfield 83, 3) := by decide +kernel
theorem dX11_needed_23 : decode cX11_needed 23 = .ok (.bipush 8, 2) := by decide +kernel
theorem dX11_needed_25 : decode cX11_needed 25 = .ok (.iload_n 2, 1) := by decide +kernel
theorem dX11_needed_26 : decode cX11_needed 26 = .ok (.imul, 1) := by decide +kernel
theorem dX11_needed_27 : decode cX11_needed 27 = .ok (.iconst 4, 1) := by decide +kernel
theorem dX11_needed_28 : decode cX11_needed 28 = .ok (.iadd, 1) := by decide +kernel
theorem dX11_needed_29 : decode cX11_needed 29 = .ok (.iaload, 1) := by decide +kernel
theorem dX11_needed_30 : decode cX11_needed 30 = .ok (.iconst (-1), 1) := by decide +kernel
theorem dX11_needed_31 : decode cX11_needed 31 = .ok (.if_icmp .ne 6, 3) := by decide +kernel
theorem dX11_needed_34 : decode cX11_needed 34 = .ok (.goto 110, 3) := by decide +kernel
theorem dX11_needed_37 : decode cX11_needed 37 = .ok (.iconst 0, 1) := by decide +kernel
theorem dX11_needed_38 : decode cX11_needed 38 = .ok (.istore_n 3, 1) := by decide +kernel
theorem dX11_needed_39 : decode cX11_needed 39 = .ok (.iconst 0, 1) := by decide +kernel
theorem dX11_needed_40 : decode cX11_needed 40 = .ok (.istore 4, 2) := by decide +kernel
theorem dX11_needed_42 : decode cX11_needed 42 = .ok (.iload 4, 2) := by decide +kernel
theorem dX11_needed_44 : decode cX11_needed 44 = .ok (.aload_n 0, 1) := by decide +kernel
theorem dX11_needed_45 : decode cX11_needed 45 = .ok (.getfield 283, 3) := by decide +kernel
theorem dX11_needed_48 : decode cX11_needed 48 = .ok (.if_icmp .ge 85, 3) := by decide +kernel
theorem dX11_needed_51 : decode cX11_needed 51 = .ok (.iload_n 3, 1) := by decide +kernel
theorem dX11_needed_52 : decode cX11_needed 52 = .ok (.aload_n 0, 1) := by decide +kernel
theorem dX11_needed_53 : decode cX11_needed 53 = .ok (.getfield 83, 3) := by decide +kernel
theorem dX11_needed_56 : decode cX11_needed 56 = .ok (.bipush 8, 2) := by decide +kernel
theorem dX11_needed_58 : decode cX11_needed 58 = .ok (.iload 4, 2) := by decide +kernel
theorem dX11_needed_60 : decode cX11_needed 60 = .ok (.imul, 1) := by decide +kernel
theorem dX11_needed_61 : decode cX11_needed 61 = .ok (.iconst 4, 1) := by decide +kernel
theorem dX11_needed_62 : decode cX11_needed 62 = .ok (.iadd, 1) := by decide +kernel
theorem dX11_needed_63 : decode cX11_needed 63 = .ok (.iaload, 1) := by decide +kernel
theorem dX11_needed_64 : decode cX11_needed 64 = .ok (.iconst (-1), 1) := by decide +kernel
theorem dX11_needed_65 : decode cX11_needed 65 = .ok (.if_icmp .eq 59, 3) := by decide +kernel
theorem dX11_needed_68 : decode cX11_needed 68 = .ok (.aload_n 0, 1) := by decide +kernel
theorem dX11_needed_69 : decode cX11_needed 69 = .ok (.getfield 83, 3) := by decide +kernel
theorem dX11_needed_72 : decode cX11_needed 72 = .ok (.bipush 8, 2) := by decide +kernel
theorem dX11_needed_74 : decode cX11_needed 74 = .ok (.iload 4, 2) := by decide +kernel
theorem dX11_needed_76 : decode cX11_needed 76 = .ok (.imul, 1) := by decide +kernel
theorem dX11_needed_77 : decode cX11_needed 77 = .ok (.iconst 4, 1) := by decide +kernel
theorem dX11_needed_78 : decode cX11_needed 78 = .ok (.iadd, 1) := by decide +kernel
theorem dX11_needed_79 : decode cX11_needed 79 = .ok (.iaload, 1) := by decide +kernel
theorem dX11_needed_80 : decode cX11_needed 80 = .ok (.aload_n 0, 1) := by decide +kernel
theorem dX11_needed_81 : decode cX11_needed 81 = .ok (.getfield 83, 3) := by decide +kernel
theorem dX11_needed_84 : decode cX11_needed 84 = .ok (.bipush 8, 2) := by decide +kernel
theorem dX11_needed_86 : decode cX11_needed 86 = .ok (.iload_n 2, 1) := by decide +kernel
theorem dX11_needed_87 : decode cX11_needed 87 = .ok (.imul, 1) := by decide +kernel
theorem dX11_needed_88 : decode cX11_needed 88 = .ok (.iconst 4, 1) := by decide +kernel
theorem dX11_needed_89 : decode cX11_needed 89 = .ok (.iadd, 1) := by decide +kernel
theorem dX11_needed_90 : decode cX11_needed 90 = .ok (.iaload, 1) := by decide +kernel
theorem dX11_needed_91 : decode cX11_needed 91 = .ok (.if_icmp .gt 33, 3) := by decide +kernel
theorem dX11_needed_94 : decode cX11_needed 94 = .ok (.aload_n 0, 1) := by decide +kernel
theorem dX11_needed_95 : decode cX11_needed 95 = .ok (.getfield 83, 3) := by decide +kernel
theorem dX11_needed_98 : decode cX11_needed 98 = .ok (.bipush 8, 2) := by decide +kernel
theorem dX11_needed_100 : decode cX11_needed 100 = .ok (.iload 4, 2) := by decide +kernel
theorem dX11_needed_102 : decode cX11_needed 102 = .ok (.imul, 1) := by decide +kernel
theorem dX11_needed_103 : decode cX11_needed 103 = .ok (.iconst 5, 1) := by decide +kernel
theorem dX11_needed_104 : decode cX11_needed 104 = .ok (.iadd, 1) := by decide +kernel
theorem dX11_needed_105 : decode cX11_needed 105 = .ok (.iaload, 1) := by decide +kernel
theorem dX11_needed_106 : decode cX11_needed 106 = .ok (.aload_n 0, 1) := by decide +kernel
theorem dX11_needed_107 : decode cX11_needed 107 = .ok (.getfield 83, 3) := by decide +kernel
theorem dX11_needed_110 : decode cX11_needed 110 = .ok (.bipush 8, 2) := by decide +kernel
theorem dX11_needed_112 : decode cX11_needed 112 = .ok (.iload_n 2, 1) := by decide +kernel
theorem dX11_needed_113 : decode cX11_needed 113 = .ok (.imul, 1) := by decide +kernel
theorem dX11_needed_114 : decode cX11_needed 114 = .ok (.iconst 4, 1) := by decide +kernel
theorem dX11_needed_115 : decode cX11_needed 115 = .ok (.iadd, 1) := by decide +kernel
theorem dX11_needed_116 : decode cX11_needed 116 = .ok (.iaload, 1) := by decide +kernel
theorem dX11_needed_117 : decode cX11_needed 117 = .ok (.if_icmp .lt 7, 3) := by decide +kernel
theorem dX11_needed_120 : decode cX11_needed 120 = .ok (.iconst 1, 1) := by decide +kernel
theorem dX11_needed_121 : decode cX11_needed 121 = .ok (.goto 4, 3) := by decide +kernel
theorem dX11_needed_124 : decode cX11_needed 124 = .ok (.iconst 0, 1) := by decide +kernel
theorem dX11_needed_125 : decode cX11_needed 125 = .ok (.iadd, 1) := by decide +kernel
theorem dX11_needed_126 : decode cX11_needed 126 = .ok (.istore_n 3, 1) := by decide +kernel
theorem dX11_needed_127 : decode cX11_needed 127 = .ok (.iinc 4 1, 3) := by decide +kernel
theorem dX11_needed_130 : decode cX11_needed 130 = .ok (.goto (-88), 3) := by decide +kernel
theorem dX11_needed_133 : decode cX11_needed 133 = .ok (.iload_n 3, 1) := by decide +kernel
theorem dX11_needed_134 : decode cX11_needed 134 = .ok (.iload_n 1, 1) := by decide +kernel
theorem dX11_needed_135 : decode cX11_needed 135 = .ok (.if_icmp .le 7, 3) := by decide +kernel
theorem dX11_needed_138 : decode cX11_needed 138 = .ok (.iload_n 3, 1) := by decide +kernel
theorem dX11_needed_139 : decode cX11_needed 139 = .ok (.goto 4, 3) := by decide +kernel
theorem dX11_needed_142 : decode cX11_needed 142 = .ok (.iload_n 1, 1) := by decide +kernel
theorem dX11_needed_143 : decode cX11_needed 143 = .ok (.istore_n 1, 1) := by decide +kernel
theorem dX11_needed_144 : decode cX11_needed 144 = .ok (.iinc 2 1, 3) := by decide +kernel
theorem dX11_needed_147 : decode cX11_needed 147 = .ok (.goto (-143), 3) := by decide +kernel
theorem dX11_needed_150 : decode cX11_needed 150 = .ok (.iload_n 1, 1) := by decide +kernel
theorem dX11_needed_151 : decode cX11_needed 151 = .ok (.ireturn, 1) := by decide +kernel
theorem dX11_liesOn_0 : decode cX11_liesOn 0 = .ok (.iconst 0, 1) := by decide +kernel
theorem dX11_liesOn_1 : decode cX11_liesOn 1 = .ok (.istore_n 2, 1) := by decide +kernel
theorem dX11_liesOn_2 : decode cX11_liesOn 2 = .ok (.iload_n 2, 1) := by decide +kernel
theorem dX11_liesOn_3 : decode cX11_liesOn 3 = .ok (.aload_n 0, 1) := by decide +kernel
theorem dX11_liesOn_4 : decode cX11_liesOn 4 = .ok (.getfield 194, 3) := by decide +kernel
theorem dX11_liesOn_7 : decode cX11_liesOn 7 = .ok (.if_icmp .ge 21, 3) := by decide +kernel
theorem dX11_liesOn_10 : decode cX11_liesOn 10 = .ok (.aload_n 0, 1) := by decide +kernel
theorem dX11_liesOn_11 : decode cX11_liesOn 11 = .ok (.getfield 35, 3) := by decide +kernel
theorem dX11_liesOn_14 : decode cX11_liesOn 14 = .ok (.iload_n 2, 1) := by decide +kernel
theorem dX11_liesOn_15 : decode cX11_liesOn 15 = .ok (.iaload, 1) := by decide +kernel
theorem dX11_liesOn_16 : decode cX11_liesOn 16 = .ok (.iload_n 1, 1) := by decide +kernel
theorem dX11_liesOn_17 : decode cX11_liesOn 17 = .ok (.if_icmp .ne 5, 3) := by decide +kernel
theorem dX11_liesOn_20 : decode cX11_liesOn 20 = .ok (.iload_n 2, 1) := by decide +kernel
theorem dX11_liesOn_21 : decode cX11_liesOn 21 = .ok (.ireturn, 1) := by decide +kernel
theorem dX11_liesOn_22 : decode cX11_liesOn 22 = .ok (.iinc 2 1, 3) := by decide +kernel
theorem dX11_liesOn_25 : decode cX11_liesOn 25 = .ok (.goto (-23), 3) := by decide +kernel
theorem dX11_liesOn_28 : decode cX11_liesOn 28 = .ok (.iconst (-1), 1) := by decide +kernel
theorem dX11_liesOn_29 : decode cX11_liesOn 29 = .ok (.ireturn, 1) := by decide +kernel
theorem dX11_spot_0 : decode cX11_spot 0 = .ok (.aload_n 0, 1) := by decide +kernel
theorem dX11_spot_1 : decode cX11_spot 1 = .ok (.iload_n 1, 1) := by decide +kernel
theorem dX11_spot_2 : decode cX11_spot 2 = .ok (.invokevirtual 241, 3) := by decide +kernel
theorem dX11_spot_5 : decode cX11_spot 5 = .ok (.ifCond .eq 12, 3) := by decide +kernel
theorem dX11_spot_8 : decode cX11_spot 8 = .ok (.aload_n 0, 1) := by decide +kernel
theorem dX11_spot_9 : decode cX11_spot 9 = .ok (.getfield 35, 3) := by decide +kernel
theorem dX11_spot_12 : decode cX11_spot 12 = .ok (.iload_n 1, 1) := by decide +kernel
theorem dX11_spot_13 : decode cX11_spot 13 = .ok (.iaload, 1) := by decide +kernel
theorem dX11_spot_14 : decode cX11_spot 14 = .ok (.goto 5, 3) := by decide +kernel
theorem dX11_spot_17 : decode cX11_spot 17 = .ok (.bipush (-2), 2) := by decide +kernel
theorem dX11_spot_19 : decode cX11_spot 19 = .ok (.ireturn, 1) := by decide +kernel
theorem dX11_lay_0 : decode cX11_lay 0 = .ok (.aload_n 0, 1) := by decide +kernel
theorem dX11_lay_1 : decode cX11_lay 1 = .ok (.iload_n 1, 1) := by decide +kernel
theorem dX11_lay_2 : decode cX11_lay 2 = .ok (.invokevirtual 241, 3) := by decide +kernel
theorem dX11_lay_5 : decode cX11_lay 5 = .ok (.ifCond .eq 11, 3) := by decide +kernel
theorem dX11_lay_8 : decode cX11_lay 8 = .ok (.aload_n 0, 1) := by decide +kernel
theorem dX11_lay_9 : decode cX11_lay 9 = .ok (.iload_n 2, 1) := by decide +kernel
theorem dX11_lay_10 : decode cX11_lay 10 = .ok (.invokevirtual 197, 3) := by decide +kernel
theorem dX11_lay_13 : decode cX11_lay 13 = .ok (.ifCond .ne 6, 3) := by decide +kernel
theorem dX11_lay_16 : decode cX11_lay 16 = .ok (.bipush (-2), 2) := by decide +kernel
theorem dX11_lay_18 : decode cX11_lay 18 = .ok (.ireturn, 1) := by decide +kernel
theorem dX11_lay_19 : decode cX11_lay 19 = .ok (.aload_n 0, 1) := by decide +kernel
theorem dX11_lay_20 : decode cX11_lay 20 = .ok (.getfield 24, 3) := by decide +kernel
theorem dX11_lay_23 : decode cX11_lay 23 = .ok (.iload_n 2, 1) := by decide +kernel
theorem dX11_lay_24 : decode cX11_lay 24 = .ok (.baload, 1) := by decide +kernel
theorem dX11_lay_25 : decode cX11_lay 25 = .ok (.ifCond .ne 21, 3) := by decide +kernel
theorem dX11_lay_28 : decode cX11_lay 28 = .ok (.aload_n 0, 1) := by decide +kernel
theorem dX11_lay_29 : decode cX11_lay 29 = .ok (.iload_n 2, 1) := by decide +kernel
theorem dX11_lay_30 : decode cX11_lay 30 = .ok (.invokevirtual 293, 3) := by decide +kernel
theorem dX11_lay_33 : decode cX11_lay 33 = .ok (.iconst (-1), 1) := by decide +kernel
theorem dX11_lay_34 : decode cX11_lay 34 = .ok (.if_icmp .eq 15, 3) := by decide +kernel
theorem dX11_lay_37 : decode cX11_lay 37 = .ok (.aload_n 0, 1) := by decide +kernel
theorem dX11_lay_38 : decode cX11_lay 38 = .ok (.iload_n 2, 1) := by decide +kernel
theorem dX11_lay_39 : decode cX11_lay 39 = .ok (.invokevirtual 293, 3) := by decide +kernel
theorem dX11_lay_42 : decode cX11_lay 42 = .ok (.iload_n 1, 1) := by decide +kernel
theorem dX11_lay_43 : decode cX11_lay 43 = .ok (.if_icmp .eq 6, 3) := by decide +kernel
theorem dX11_lay_46 : decode cX11_lay 46 = .ok (.bipush (-4), 2) := by decide +kernel
theorem dX11_lay_48 : decode cX11_lay 48 = .ok (.ireturn, 1) := by decide +kernel
theorem dX11_lay_49 : decode cX11_lay 49 = .ok (.aload_n 0, 1) := by decide +kernel
theorem dX11_lay_50 : decode cX11_lay 50 = .ok (.getfield 35, 3) := by decide +kernel
theorem dX11_lay_53 : decode cX11_lay 53 = .ok (.iload_n 1, 1) := by decide +kernel
theorem dX11_lay_54 : decode cX11_lay 54 = .ok (.iaload, 1) := by decide +kernel
theorem dX11_lay_55 : decode cX11_lay 55 = .ok (.istore_n 3, 1) := by decide +kernel
theorem dX11_lay_56 : decode cX11_lay 56 = .ok (.aload_n 0, 1) := by decide +kernel
theorem dX11_lay_57 : decode cX11_lay 57 = .ok (.getfield 35, 3) := by decide +kernel
theorem dX11_lay_60 : decode cX11_lay 60 = .ok (.iload_n 1, 1) := by decide +kernel
theorem dX11_lay_61 : decode cX11_lay 61 = .ok (.iload_n 2, 1) := by decide +kernel
theorem dX11_lay_62 : decode cX11_lay 62 = .ok (.iastore, 1) := by decide +kernel
theorem dX11_lay_63 : decode cX11_lay 63 = .ok (.iload_n 3, 1) := by decide +kernel
theorem dX11_lay_64 : decode cX11_lay 64 = .ok (.ireturn, 1) := by decide +kernel
theorem dX11_spoil_0 : decode cX11_spoil 0 = .ok (.aload_n 0, 1) := by decide +kernel
theorem dX11_spoil_1 : decode cX11_spoil 1 = .ok (.iload_n 1, 1) := by decide +kernel
theorem dX11_spoil_2 : decode cX11_spoil 2 = .ok (.invokevirtual 197, 3) := by decide +kernel
theorem dX11_spoil_5 : decode cX11_spoil 5 = .ok (.ifCond .ne 6, 3) := by decide +kernel
theorem dX11_spoil_8 : decode cX11_spoil 8 = .ok (.bipush (-2), 2) := by decide +kernel
theorem dX11_spoil_10 : decode cX11_spoil 10 = .ok (.ireturn, 1) := by decide +kernel
theorem dX11_spoil_11 : decode cX11_spoil 11 = .ok (.aload_n 0, 1) := by decide +kernel
theorem dX11_spoil_12 : decode cX11_spoil 12 = .ok (.getfield 24, 3) := by decide +kernel
theorem dX11_spoil_15 : decode cX11_spoil 15 = .ok (.iload_n 1, 1) := by decide +kernel
theorem dX11_spoil_16 : decode cX11_spoil 16 = .ok (.baload, 1) := by decide +kernel
theorem dX11_spoil_17 : decode cX11_spoil 17 = .ok (.ifCond .eq 6, 3) := by decide +kernel
theorem dX11_spoil_20 : decode cX11_spoil 20 = .ok (.bipush (-4), 2) := by decide +kernel
theorem dX11_spoil_22 : decode cX11_spoil 22 = .ok (.ireturn, 1) := by decide +kernel
theorem dX11_spoil_23 : decode cX11_spoil 23 = .ok (.aload_n 0, 1) := by decide +kernel
theorem dX11_spoil_24 : decode cX11_spoil 24 = .ok (.getfield 24, 3) := by decide +kernel
theorem dX11_spoil_27 : decode cX11_spoil 27 = .ok (.iload_n 1, 1) := by decide +kernel
theorem dX11_spoil_28 : decode cX11_spoil 28 = .ok (.iconst 1, 1) := by decide +kernel
theorem dX11_spoil_29 : decode cX11_spoil 29 = .ok (.bastore, 1) := by decide +kernel
theorem dX11_spoil_30 : decode cX11_spoil 30 = .ok (.aload_n 0, 1) := by decide +kernel
theorem dX11_spoil_31 : decode cX11_spoil 31 = .ok (.iload_n 1, 1) := by decide +kernel
theorem dX11_spoil_32 : decode cX11_spoil 32 = .ok (.invokevirtual 293, 3) := by decide +kernel
theorem dX11_spoil_35 : decode cX11_spoil 35 = .ok (.ireturn, 1) := by decide +kernel
theorem dX11_time_0 : decode cX11_time 0 = .ok (.aload_n 0, 1) := by decide +kernel
theorem dX11_time_1 : decode cX11_time 1 = .ok (.getfield 194, 3) := by decide +kernel
theorem dX11_time_4 : decode cX11_time 4 = .ok (.ifCond .ne 8, 3) := by decide +kernel
theorem dX11_time_7 : decode cX11_time 7 = .ok (.bipush (-4), 2) := by decide +kernel
theorem dX11_time_9 : decode cX11_time 9 = .ok (.goto 7, 3) := by decide +kernel
theorem dX11_time_12 : decode cX11_time 12 = .ok (.aload_n 0, 1) := by decide +kernel
theorem dX11_time_13 : decode cX11_time 13 = .ok (.invokevirtual 296, 3) := by decide +kernel
theorem dX11_time_16 : decode cX11_time 16 = .ok (.ireturn, 1) := by decide +kernel
theorem dX11_place_0 : decode cX11_place 0 = .ok (.aload_n 0, 1) := by decide +kernel
theorem dX11_place_1 : decode cX11_place 1 = .ok (.iload_n 1, 1) := by decide +kernel
theorem dX11_place_2 : decode cX11_place 2 = .ok (.invokevirtual 241, 3) := by decide +kernel
theorem dX11_place_5 : decode cX11_place 5 = .ok (.ifCond .ne 6, 3) := by decide +kernel
theorem dX11_place_8 : decode cX11_place 8 = .ok (.bipush (-2), 2) := by decide +kernel
theorem dX11_place_10 : decode cX11_place 10 = .ok (.ireturn, 1) := by decide +kernel
theorem dX11_place_11 : decode cX11_place 11 = .ok (.aload_n 0, 1) := by decide +kernel
theorem dX11_place_12 : decode cX11_place 12 = .ok (.getfield 35, 3) := by decide +kernel
theorem dX11_place_15 : decode cX11_place 15 = .ok (.iload_n 1, 1) := by decide +kernel
theorem dX11_place_16 : decode cX11_place 16 = .ok (.iaload, 1) := by decide +kernel
theorem dX11_place_17 : decode cX11_place 17 = .ok (.istore_n 2, 1) := by decide +kernel
theorem dX11_place_18 : decode cX11_place 18 = .ok (.iconst (-1), 1) := by decide +kernel
theorem dX11_place_19 : decode cX11_place 19 = .ok (.istore_n 3, 1) := by decide +kernel
theorem dX11_place_20 : decode cX11_place 20 = .ok (.iconst 0, 1) := by decide +kernel
theorem dX11_place_21 : decode cX11_place 21 = .ok (.istore 4, 2) := by decide +kernel
theorem dX11_place_23 : decode cX11_place 23 = .ok (.iconst 0, 1) := by decide +kernel
theorem dX11_place_24 : decode cX11_place 24 = .ok (.istore 5, 2) := by decide +kernel
theorem dX11_place_26 : decode cX11_place 26 = .ok (.iload 5, 2) := by decide +kernel
theorem dX11_place_28 : decode cX11_place 28 = .ok (.aload_n 0, 1) := by decide +kernel
theorem dX11_place_29 : decode cX11_place 29 = .ok (.getfield 116, 3) := by decide +kernel
theorem dX11_place_32 : decode cX11_place 32 = .ok (.aload_n 0, 1) := by decide +kernel
theorem dX11_place_33 : decode cX11_place 33 = .ok (.getfield 113, 3) := by decide +kernel
theorem dX11_place_36 : decode cX11_place 36 = .ok (.imul, 1) := by decide +kernel
theorem dX11_place_37 : decode cX11_place 37 = .ok (.if_icmp .ge 90, 3) := by decide +kernel
theorem dX11_place_40 : decode cX11_place 40 = .ok (.aload_n 0, 1) := by decide +kernel
theorem dX11_place_41 : decode cX11_place 41 = .ok (.getfield 35, 3) := by decide +kernel
theorem dX11_place_44 : decode cX11_place 44 = .ok (.iload_n 1, 1) := by decide +kernel
theorem dX11_place_45 : decode cX11_place 45 = .ok (.iload_n 2, 1) := by decide +kernel
theorem dX11_place_46 : decode cX11_place 46 = .ok (.iastore, 1) := by decide +kernel
theorem dX11_place_47 : decode cX11_place 47 = .ok (.aload_n 0, 1) := by decide +kernel
theorem dX11_place_48 : decode cX11_place 48 = .ok (.iload 5, 2) := by decide +kernel
theorem dX11_place_50 : decode cX11_place 50 = .ok (.invokevirtual 197, 3) := by decide +kernel
theorem dX11_place_53 : decode cX11_place 53 = .ok (.ifCond .eq 68, 3) := by decide +kernel
theorem dX11_place_56 : decode cX11_place 56 = .ok (.aload_n 0, 1) := by decide +kernel
theorem dX11_place_57 : decode cX11_place 57 = .ok (.getfield 24, 3) := by decide +kernel
theorem dX11_place_60 : decode cX11_place 60 = .ok (.iload 5, 2) := by decide +kernel
theorem dX11_place_62 : decode cX11_place 62 = .ok (.baload, 1) := by decide +kernel
theorem dX11_place_63 : decode cX11_place 63 = .ok (.ifCond .ne 58, 3) := by decide +kernel
theorem dX11_place_66 : decode cX11_place 66 = .ok (.iload 5, 2) := by decide +kernel
theorem dX11_place_68 : decode cX11_place 68 = .ok (.iload_n 2, 1) := by decide +kernel
theorem dX11_place_69 : decode cX11_place 69 = .ok (.if_icmp .eq 16, 3) := by decide +kernel
theorem dX11_place_72 : decode cX11_place 72 = .ok (.aload_n 0, 1) := by decide +kernel
theorem dX11_place_73 : decode cX11_place 73 = .ok (.iload 5, 2) := by decide +kernel
theorem dX11_place_75 : decode cX11_place 75 = .ok (.invokevirtual 293, 3) := by decide +kernel
theorem dX11_place_78 : decode cX11_place 78 = .ok (.iconst (-1), 1) := by decide +kernel
theorem dX11_place_79 : decode cX11_place 79 = .ok (.if_icmp .eq 6, 3) := by decide +kernel
theorem dX11_place_82 : decode cX11_place 82 = .ok (.goto 39, 3) := by decide +kernel
theorem dX11_place_85 : decode cX11_place 85 = .ok (.aload_n 0, 1) := by decide +kernel
theorem dX11_place_86 : decode cX11_place 86 = .ok (.getfield 35, 3) := by decide +kernel
theorem dX11_place_89 : decode cX11_place 89 = .ok (.iload_n 1, 1) := by decide +kernel
theorem dX11_place_90 : decode cX11_place 90 = .ok (.iload 5, 2) := by decide +kernel
theorem dX11_place_92 : decode cX11_place 92 = .ok (.iastore, 1) := by decide +kernel
theorem dX11_place_93 : decode cX11_place 93 = .ok (.aload_n 0, 1) := by decide +kernel
theorem dX11_place_94 : decode cX11_place 94 = .ok (.invokevirtual 296, 3) := by decide +kernel
theorem dX11_place_97 : decode cX11_place 97 = .ok (.istore 6, 2) := by decide +kernel
theorem dX11_place_99 : decode cX11_place 99 = .ok (.iload_n 3, 1) := by decide +kernel
theorem dX11_place_100 : decode cX11_place 100 = .ok (.iconst (-1), 1) := by decide +kernel
theorem dX11_place_101 : decode cX11_place 101 = .ok (.if_icmp .eq 13, 3) := by decide +kernel
theorem dX11_place_104 : decode cX11_place 104 = .ok (.iload 6, 2) := by decide +kernel
theorem dX11_place_106 : decode cX11_place 106 = .ok (.iload 4, 2) := by decide +kernel
theorem dX11_place_108 : decode cX11_place 108 = .ok (.if_icmp .lt 6, 3) := by decide +kernel
theorem dX11_place_111 : decode cX11_place 111 = .ok (.goto 10, 3) := by decide +kernel
theorem dX11_place_114 : decode cX11_place 114 = .ok (.iload 5, 2) := by decide +kernel
theorem dX11_place_116 : decode cX11_place 116 = .ok (.istore_n 3, 1) := by decide +kernel
theorem dX11_place_117 : decode cX11_place 117 = .ok (.iload 6, 2) := by decide +kernel
theorem dX11_place_119 : decode cX11_place 119 = .ok (.istore 4, 2) := by decide +kernel
theorem dX11_place_121 : decode cX11_place 121 = .ok (.iinc 5 1, 3) := by decide +kernel
theorem dX11_place_124 : decode cX11_place 124 = .ok (.goto (-98), 3) := by decide +kernel
theorem dX11_place_127 : decode cX11_place 127 = .ok (.aload_n 0, 1) := by decide +kernel
theorem dX11_place_128 : decode cX11_place 128 = .ok (.getfield 35, 3) := by decide +kernel
theorem dX11_place_131 : decode cX11_place 131 = .ok (.iload_n 1, 1) := by decide +kernel
theorem dX11_place_132 : decode cX11_place 132 = .ok (.iload_n 2, 1) := by decide +kernel
theorem dX11_place_133 : decode cX11_place 133 = .ok (.iastore, 1) := by decide +kernel
theorem dX11_place_134 : decode cX11_place 134 = .ok (.iload_n 3, 1) := by decide +kernel
theorem dX11_place_135 : decode cX11_place 135 = .ok (.ireturn, 1) := by decide +kernel
theorem dX11_mend_0 : decode cX11_mend 0 = .ok (.aload_n 0, 1) := by decide +kernel
theorem dX11_mend_1 : decode cX11_mend 1 = .ok (.getfield 194, 3) := by decide +kernel
theorem dX11_mend_4 : decode cX11_mend 4 = .ok (.ifCond .ne 6, 3) := by decide +kernel
theorem dX11_mend_7 : decode cX11_mend 7 = .ok (.bipush (-4), 2) := by decide +kernel
theorem dX11_mend_9 : decode cX11_mend 9 = .ok (.ireturn, 1) := by decide +kernel
theorem dX11_mend_10 : decode cX11_mend 10 = .ok (.iconst 0, 1) := by decide +kernel
theorem dX11_mend_11 : decode cX11_mend 11 = .ok (.istore_n 1, 1) := by decide +kernel
theorem dX11_mend_12 : decode cX11_mend 12 = .ok (.iconst 0, 1) := by decide +kernel
theorem dX11_mend_13 : decode cX11_mend 13 = .ok (.istore_n 2, 1) := by decide +kernel
theorem dX11_mend_14 : decode cX11_mend 14 = .ok (.iload_n 2, 1) := by decide +kernel
theorem dX11_mend_15 : decode cX11_mend 15 = .ok (.aload_n 0, 1) := by decide +kernel
theorem dX11_mend_16 : decode cX11_mend 16 = .ok (.getfield 194, 3) := by decide +kernel
theorem dX11_mend_19 : decode cX11_mend 19 = .ok (.if_icmp .ge 50, 3) := by decide +kernel
theorem dX11_mend_22 : decode cX11_mend 22 = .ok (.aload_n 0, 1) := by decide +kernel
theorem dX11_mend_23 : decode cX11_mend 23 = .ok (.getfield 24, 3) := by decide +kernel
theorem dX11_mend_26 : decode cX11_mend 26 = .ok (.aload_n 0, 1) := by decide +kernel
theorem dX11_mend_27 : decode cX11_mend 27 = .ok (.getfield 35, 3) := by decide +kernel
theorem dX11_mend_30 : decode cX11_mend 30 = .ok (.iload_n 2, 1) := by decide +kernel
theorem dX11_mend_31 : decode cX11_mend 31 = .ok (.iaload, 1) := by decide +kernel
theorem dX11_mend_32 : decode cX11_mend 32 = .ok (.baload, 1) := by decide +kernel
theorem dX11_mend_33 : decode cX11_mend 33 = .ok (.ifCond .ne 6, 3) := by decide +kernel
theorem dX11_mend_36 : decode cX11_mend 36 = .ok (.goto 27, 3) := by decide +kernel
theorem dX11_mend_39 : decode cX11_mend 39 = .ok (.aload_n 0, 1) := by decide +kernel
theorem dX11_mend_40 : decode cX11_mend 40 = .ok (.iload_n 2, 1) := by decide +kernel
theorem dX11_mend_41 : decode cX11_mend 41 = .ok (.invokevirtual 299, 3) := by decide +kernel
theorem dX11_mend_44 : decode cX11_mend 44 = .ok (.istore_n 3, 1) := by decide +kernel
theorem dX11_mend_45 : decode cX11_mend 45 = .ok (.iload_n 3, 1) := by decide +kernel
theorem dX11_mend_46 : decode cX11_mend 46 = .ok (.iconst (-1), 1) := by decide +kernel
theorem dX11_mend_47 : decode cX11_mend 47 = .ok (.if_icmp .ne 6, 3) := by decide +kernel
theorem dX11_mend_50 : decode cX11_mend 50 = .ok (.goto 13, 3) := by decide +kernel
theorem dX11_mend_53 : decode cX11_mend 53 = .ok (.aload_n 0, 1) := by decide +kernel
theorem dX11_mend_54 : decode cX11_mend 54 = .ok (.getfield 35, 3) := by decide +kernel
theorem dX11_mend_57 : decode cX11_mend 57 = .ok (.iload_n 2, 1) := by decide +kernel
theorem dX11_mend_58 : decode cX11_mend 58 = .ok (.iload_n 3, 1) := by decide +kernel
theorem dX11_mend_59 : decode cX11_mend 59 = .ok (.iastore, 1) := by decide +kernel
theorem dX11_mend_60 : decode cX11_mend 60 = .ok (.iinc 1 1, 3) := by decide +kernel
theorem dX11_mend_63 : decode cX11_mend 63 = .ok (.iinc 2 1, 3) := by decide +kernel
theorem dX11_mend_66 : decode cX11_mend 66 = .ok (.goto (-52), 3) := by decide +kernel
theorem dX11_mend_69 : decode cX11_mend 69 = .ok (.iload_n 1, 1) := by decide +kernel
theorem dX11_mend_70 : decode cX11_mend 70 = .ok (.ireturn, 1) := by decide +kernel
theorem dX11_swap_0 : decode cX11_swap 0 = .ok (.aload_n 0, 1) := by decide +kernel
theorem dX11_swap_1 : decode cX11_swap 1 = .ok (.getfield 35, 3) := by decide +kernel
theorem dX11_swap_4 : decode cX11_swap 4 = .ok (.iload_n 1, 1) := by decide +kernel
theorem dX11_swap_5 : decode cX11_swap 5 = .ok (.iaload, 1) := by decide +kernel
theorem dX11_swap_6 : decode cX11_swap 6 = .ok (.istore_n 3, 1) := by decide +kernel
theorem dX11_swap_7 : decode cX11_swap 7 = .ok (.aload_n 0, 1) := by decide +kernel
theorem dX11_swap_8 : decode cX11_swap 8 = .ok (.getfield 35, 3) := by decide +kernel
theorem dX11_swap_11 : decode cX11_swap 11 = .ok (.iload_n 1, 1) := by decide +kernel
theorem dX11_swap_12 : decode cX11_swap 12 = .ok (.aload_n 0, 1) := by decide +kernel
theorem dX11_swap_13 : decode cX11_swap 13 = .ok (.getfield 35, 3) := by decide +kernel
theorem dX11_swap_16 : decode cX11_swap 16 = .ok (.iload_n 2, 1) := by decide +kernel
theorem dX11_swap_17 : decode cX11_swap 17 = .ok (.iaload, 1) := by decide +kernel
theorem dX11_swap_18 : decode cX11_swap 18 = .ok (.iastore, 1) := by decide +kernel
theorem dX11_swap_19 : decode cX11_swap 19 = .ok (.aload_n 0, 1) := by decide +kernel
theorem dX11_swap_20 : decode cX11_swap 20 = .ok (.getfield 35, 3) := by decide +kernel
theorem dX11_swap_23 : decode cX11_swap 23 = .ok (.iload_n 2, 1) := by decide +kernel
theorem dX11_swap_24 : decode cX11_swap 24 = .ok (.iload_n 3, 1) := by decide +kernel
theorem dX11_swap_25 : decode cX11_swap 25 = .ok (.iastore, 1) := by decide +kernel
theorem dX11_swap_26 : decode cX11_swap 26 = .ok (.return_, 1) := by decide +kernel
theorem dX11_exchange_0 : decode cX11_exchange 0 = .ok (.aload_n 0, 1) := by decide +kernel
theorem dX11_exchange_1 : decode cX11_exchange 1 = .ok (.getfield 194, 3) := by decide +kernel
theorem dX11_exchange_4 : decode cX11_exchange 4 = .ok (.ifCond .ne 6, 3) := by decide +kernel
theorem dX11_exchange_7 : decode cX11_exchange 7 = .ok (.bipush (-4), 2) := by decide +kernel
theorem dX11_exchange_9 : decode cX11_exchange 9 = .ok (.ireturn, 1) := by decide +kernel
theorem dX11_exchange_10 : decode cX11_exchange 10 = .ok (.aload_n 0, 1) := by decide +kernel
theorem dX11_exchange_11 : decode cX11_exchange 11 = .ok (.invokevirtual 296, 3) := by decide +kernel
theorem dX11_exchange_14 : decode cX11_exchange 14 = .ok (.istore_n 1, 1) := by decide +kernel
theorem dX11_exchange_15 : decode cX11_exchange 15 = .ok (.iconst 1, 1) := by decide +kernel
theorem dX11_exchange_16 : decode cX11_exchange 16 = .ok (.istore_n 2, 1) := by decide +kernel
theorem dX11_exchange_17 : decode cX11_exchange 17 = .ok (.iconst 0, 1) := by decide +kernel
theorem dX11_exchange_18 : decode cX11_exchange 18 = .ok (.istore_n 3, 1) := by decide +kernel
theorem dX11_exchange_19 : decode cX11_exchange 19 = .ok (.iload_n 3, 1) := by decide +kernel
theorem dX11_exchange_20 : decode cX11_exchange 20 = .ok (.bipush 20, 2) := by decide +kernel
theorem dX11_exchange_22 : decode cX11_exchange 22 = .ok (.if_icmp .ge 123, 3) := by decide +kernel
theorem dX11_exchange_25 : decode cX11_exchange 25 = .ok (.iload_n 2, 1) := by decide +kernel
theorem dX11_exchange_26 : decode cX11_exchange 26 = .ok (.ifCond .eq 119, 3) := by decide +kernel
theorem dX11_exchange_29 : decode cX11_exchange 29 = .ok (.iconst 0, 1) := by decide +kernel
theorem dX11_exchange_30 : decode cX11_exchange 30 = .ok (.istore_n 2, 1) := by decide +kernel
theorem dX11_exchange_31 : decode cX11_exchange 31 = .ok (.iconst 0, 1) := by decide +kernel
theorem dX11_exchange_32 : decode cX11_exchange 32 = .ok (.istore 4, 2) := by decide +kernel
theorem dX11_exchange_34 : decode cX11_exchange 34 = .ok (.iload 4, 2) := by decide +kernel
theorem dX11_exchange_36 : decode cX11_exchange 36 = .ok (.aload_n 0, 1) := by decide +kernel
theorem dX11_exchange_37 : decode cX11_exchange 37 = .ok (.getfield 194, 3) := by decide +kernel
theorem dX11_exchange_40 : decode cX11_exchange 40 = .ok (.if_icmp .ge 99, 3) := by decide +kernel
theorem dX11_exchange_43 : decode cX11_exchange 43 = .ok (.iload 4, 2) := by decide +kernel
theorem dX11_exchange_45 : decode cX11_exchange 45 = .ok (.iconst 1, 1) := by decide +kernel
theorem dX11_exchange_46 : decode cX11_exchange 46 = .ok (.iadd, 1) := by decide +kernel
theorem dX11_exchange_47 : decode cX11_exchange 47 = .ok (.istore 5, 2) := by decide +kernel
theorem dX11_exchange_49 : decode cX11_exchange 49 = .ok (.iload 5, 2) := by decide +kernel
theorem dX11_exchange_51 : decode cX11_exchange 51 = .ok (.aload_n 0, 1) := by decide +kernel
theorem dX11_exchange_52 : decode cX11_exchange 52 = .ok (.getfield 194, 3) := by decide +kernel
theorem dX11_exchange_55 : decode cX11_exchange 55 = .ok (.if_icmp .ge 78, 3) := by decide +kernel
theorem dX11_exchange_58 : decode cX11_exchange 58 = .ok (.aload_n 0, 1) := by decide +kernel
theorem dX11_exchange_59 : decode cX11_exchange 59 = .ok (.getfield 24, 3) := by decide +kernel
theorem dX11_exchange_62 : decode cX11_exchange 62 = .ok (.aload_n 0, 1) := by decide +kernel
theorem dX11_exchange_63 : decode cX11_exchange 63 = .ok (.getfield 35, 3) := by decide +kernel
theorem dX11_exchange_66 : decode cX11_exchange 66 = .ok (.iload 4, 2) := by decide +kernel
theorem dX11_exchange_68 : decode cX11_exchange 68 = .ok (.iaload, 1) := by decide +kernel
theorem dX11_exchange_69 : decode cX11_exchange 69 = .ok (.baload, 1) := by decide +kernel
theorem dX11_exchange_70 : decode cX11_exchange 70 = .ok (.ifCond .ne 57, 3) := by decide +kernel
theorem dX11_exchange_73 : decode cX11_exchange 73 = .ok (.aload_n 0, 1) := by decide +kernel
theorem dX11_exchange_74 : decode cX11_exchange 74 = .ok (.getfield 24, 3) := by decide +kernel
theorem dX11_exchange_77 : decode cX11_exchange 77 = .ok (.aload_n 0, 1) := by decide +kernel
theorem dX11_exchange_78 : decode cX11_exchange 78 = .ok (.getfield 35, 3) := by decide +kernel
theorem dX11_exchange_81 : decode cX11_exchange 81 = .ok (.iload 5, 2) := by decide +kernel
theorem dX11_exchange_83 : decode cX11_exchange 83 = .ok (.iaload, 1) := by decide +kernel
theorem dX11_exchange_84 : decode cX11_exchange 84 = .ok (.baload, 1) := by decide +kernel
theorem dX11_exchange_85 : decode cX11_exchange 85 = .ok (.ifCond .eq 6, 3) := by decide +kernel
theorem dX11_exchange_88 : decode cX11_exchange 88 = .ok (.goto 39, 3) := by decide +kernel
theorem dX11_exchange_91 : decode cX11_exchange 91 = .ok (.aload_n 0, 1) := by decide +kernel
theorem dX11_exchange_92 : decode cX11_exchange 92 = .ok (.iload 4, 2) := by decide +kernel
theorem dX11_exchange_94 : decode cX11_exchange 94 = .ok (.iload 5, 2) := by decide +kernel
theorem dX11_exchange_96 : decode cX11_exchange 96 = .ok (.invokevirtual 302, 3) := by decide +kernel
theorem dX11_exchange_99 : decode cX11_exchange 99 = .ok (.aload_n 0, 1) := by decide +kernel
theorem dX11_exchange_100 : decode cX11_exchange 100 = .ok (.invokevirtual 296, 3) := by decide +kernel
theorem dX11_exchange_103 : decode cX11_exchange 103 = .ok (.istore 6, 2) := by decide +kernel
theorem dX11_exchange_105 : decode cX11_exchange 105 = .ok (.iload 6, 2) := by decide +kernel
theorem dX11_exchange_107 : decode cX11_exchange 107 = .ok (.iload_n 1, 1) := by decide +kernel
theorem dX11_exchange_108 : decode cX11_exchange 108 = .ok (.if_icmp .ge 11, 3) := by decide +kernel
theorem dX11_exchange_111 : decode cX11_exchange 111 = .ok (.iload 6, 2) := by decide +kernel
theorem dX11_exchange_113 : decode cX11_exchange 113 = .ok (.istore_n 1, 1) := by decide +kernel
theorem dX11_exchange_114 : decode cX11_exchange 114 = .ok (.iconst 1, 1) := by decide +kernel
theorem dX11_exchange_115 : decode cX11_exchange 115 = .ok (.istore_n 2, 1) := by decide +kernel
theorem dX11_exchange_116 : decode cX11_exchange 116 = .ok (.goto 11, 3) := by decide +kernel
theorem dX11_exchange_119 : decode cX11_exchange 119 = .ok (.aload_n 0, 1) := by decide +kernel
theorem dX11_exchange_120 : decode cX11_exchange 120 = .ok (.iload 4, 2) := by decide +kernel
theorem dX11_exchange_122 : decode cX11_exchange 122 = .ok (.iload 5, 2) := by decide +kernel
theorem dX11_exchange_124 : decode cX11_exchange 124 = .ok (.invokevirtual 302, 3) := by decide +kernel
theorem dX11_exchange_127 : decode cX11_exchange 127 = .ok (.iinc 5 1, 3) := by decide +kernel
theorem dX11_exchange_130 : decode cX11_exchange 130 = .ok (.goto (-81), 3) := by decide +kernel
theorem dX11_exchange_133 : decode cX11_exchange 133 = .ok (.iinc 4 1, 3) := by decide +kernel
theorem dX11_exchange_136 : decode cX11_exchange 136 = .ok (.goto (-102), 3) := by decide +kernel
theorem dX11_exchange_139 : decode cX11_exchange 139 = .ok (.iinc 3 1, 3) := by decide +kernel
theorem dX11_exchange_142 : decode cX11_exchange 142 = .ok (.goto (-123), 3) := by decide +kernel
theorem dX11_exchange_145 : decode cX11_exchange 145 = .ok (.iload_n 1, 1) := by decide +kernel
theorem dX11_exchange_146 : decode cX11_exchange 146 = .ok (.ireturn, 1) := by decide +kernel
theorem dX11_best_0 : decode cX11_best 0 = .ok (.iconst 0, 1) := by decide +kernel
theorem dX11_best_1 : decode cX11_best 1 = .ok (.istore_n 3, 1) := by decide +kernel
theorem dX11_best_2 : decode cX11_best 2 = .ok (.iconst 0, 1) := by decide +kernel
theorem dX11_best_3 : decode cX11_best 3 = .ok (.istore 4, 2) := by decide +kernel
theorem dX11_best_5 : decode cX11_best 5 = .ok (.iload 4, 2) := by decide +kernel
theorem dX11_best_7 : decode cX11_best 7 = .ok (.bipush 64, 2) := by decide +kernel
theorem dX11_best_9 : decode cX11_best 9 = .ok (.if_icmp .ge 52, 3) := by decide +kernel
theorem dX11_best_12 : decode cX11_best 12 = .ok (.lload_n 1, 1) := by decide +kernel
theorem dX11_best_13 : decode cX11_best 13 = .ok (.iload 4, 2) := by decide +kernel
theorem dX11_best_15 : decode cX11_best 15 = .ok (.lshr, 1) := by decide +kernel
theorem dX11_best_16 : decode cX11_best 16 = .ok (.lconst 1, 1) := by decide +kernel
theorem dX11_best_17 : decode cX11_best 17 = .ok (.land, 1) := by decide +kernel
theorem dX11_best_18 : decode cX11_best 18 = .ok (.lconst 0, 1) := by decide +kernel
theorem dX11_best_19 : decode cX11_best 19 = .ok (.lcmp, 1) := by decide +kernel
theorem dX11_best_20 : decode cX11_best 20 = .ok (.ifCond .ne 6, 3) := by decide +kernel
theorem dX11_best_23 : decode cX11_best 23 = .ok (.goto 32, 3) := by decide +kernel
theorem dX11_best_26 : decode cX11_best 26 = .ok (.iload 4, 2) := by decide +kernel
theorem dX11_best_28 : decode cX11_best 28 = .ok (.aload_n 0, 1) := by decide +kernel
theorem dX11_best_29 : decode cX11_best 29 = .ok (.getfield 194, 3) := by decide +kernel
theorem dX11_best_32 : decode cX11_best 32 = .ok (.if_icmp .ge 9, 3) := by decide +kernel
theorem dX11_best_35 : decode cX11_best 35 = .ok (.iload_n 3, 1) := by decide +kernel
theorem dX11_best_36 : decode cX11_best 36 = .ok (.bipush 6, 2) := by decide +kernel
theorem dX11_best_38 : decode cX11_best 38 = .ok (.if_icmp .ne 6, 3) := by decide +kernel
theorem dX11_best_41 : decode cX11_best 41 = .ok (.bipush (-2), 2) := by decide +kernel
theorem dX11_best_43 : decode cX11_best 43 = .ok (.ireturn, 1) := by decide +kernel
theorem dX11_best_44 : decode cX11_best 44 = .ok (.aload_n 0, 1) := by decide +kernel
theorem dX11_best_45 : decode cX11_best 45 = .ok (.getfield 86, 3) := by decide +kernel
theorem dX11_best_48 : decode cX11_best 48 = .ok (.iload_n 3, 1) := by decide +kernel
theorem dX11_best_49 : decode cX11_best 49 = .ok (.iload 4, 2) := by decide +kernel
theorem dX11_best_51 : decode cX11_best 51 = .ok (.iastore, 1) := by decide +kernel
theorem dX11_best_52 : decode cX11_best 52 = .ok (.iinc 3 1, 3) := by decide +kernel
theorem dX11_best_55 : decode cX11_best 55 = .ok (.iinc 4 1, 3) := by decide +kernel
theorem dX11_best_58 : decode cX11_best 58 = .ok (.goto (-53), 3) := by decide +kernel
theorem dX11_best_61 : decode cX11_best 61 = .ok (.iload_n 3, 1) := by decide +kernel
theorem dX11_best_62 : decode cX11_best 62 = .ok (.ifCond .ne 6, 3) := by decide +kernel
theorem dX11_best_65 : decode cX11_best 65 = .ok (.bipush (-2), 2) := by decide +kernel
theorem dX11_best_67 : decode cX11_best 67 = .ok (.ireturn, 1) := by decide +kernel
theorem dX11_best_68 : decode cX11_best 68 = .ok (.iconst 0, 1) := by decide +kernel
theorem dX11_best_69 : decode cX11_best 69 = .ok (.istore 4, 2) := by decide +kernel
theorem dX11_best_71 : decode cX11_best 71 = .ok (.iload 4, 2) := by decide +kernel
theorem dX11_best_73 : decode cX11_best 73 = .ok (.iload_n 3, 1) := by decide +kernel
theorem dX11_best_74 : decode cX11_best 74 = .ok (.if_icmp .ge 32, 3) := by decide +kernel
theorem dX11_best_77 : decode cX11_best 77 = .ok (.aload_n 0, 1) := by decide +kernel
theorem dX11_best_78 : decode cX11_best 78 = .ok (.getfield 24, 3) := by decide +kernel
theorem dX11_best_81 : decode cX11_best 81 = .ok (.aload_n 0, 1) := by decide +kernel
theorem dX11_best_82 : decode cX11_best 82 = .ok (.getfield 35, 3) := by decide +kernel
theorem dX11_best_85 : decode cX11_best 85 = .ok (.aload_n 0, 1) := by decide +kernel
theorem dX11_best_86 : decode cX11_best 86 = .ok (.getfield 86, 3) := by decide +kernel
theorem dX11_best_89 : decode cX11_best 89 = .ok (.iload 4, 2) := by decide +kernel
theorem dX11_best_91 : decode cX11_best 91 = .ok (.iaload, 1) := by decide +kernel
theorem dX11_best_92 : decode cX11_best 92 = .ok (.iaload, 1) := by decide +kernel
theorem dX11_best_93 : decode cX11_best 93 = .ok (.baload, 1) := by decide +kernel
theorem dX11_best_94 : decode cX11_best 94 = .ok (.ifCond .eq 6, 3) := by decide +kernel
theorem dX11_best_97 : decode cX11_best 97 = .ok (.bipush (-4), 2) := by decide +kernel
theorem dX11_best_99 : decode cX11_best 99 = .ok (.ireturn, 1) := by decide +kernel
theorem dX11_best_100 : decode cX11_best 100 = .ok (.iinc 4 1, 3) := by decide +kernel
theorem dX11_best_103 : decode cX11_best 103 = .ok (.goto (-32), 3) := by decide +kernel
theorem dX11_best_106 : decode cX11_best 106 = .ok (.iconst 0, 1) := by decide +kernel
theorem dX11_best_107 : decode cX11_best 107 = .ok (.istore 4, 2) := by decide +kernel
theorem dX11_best_109 : decode cX11_best 109 = .ok (.iload 4, 2) := by decide +kernel
theorem dX11_best_111 : decode cX11_best 111 = .ok (.iload_n 3, 1) := by decide +kernel
theorem dX11_best_112 : decode cX11_best 112 = .ok (.if_icmp .ge 77, 3) := by decide +kernel
theorem dX11_best_115 : decode cX11_best 115 = .ok (.aload_n 0, 1) := by decide +kernel
theorem dX11_best_116 : decode cX11_best 116 = .ok (.getfield 35, 3) := by decide +kernel
theorem dX11_best_119 : decode cX11_best 119 = .ok (.aload_n 0, 1) := by decide +kernel
theorem dX11_best_120 : decode cX11_best 120 = .ok (.getfield 86, 3) := by decide +kernel
theorem dX11_best_123 : decode cX11_best 123 = .ok (.iload 4, 2) := by decide +kernel
theorem dX11_best_125 : decode cX11_best 125 = .ok (.iaload, 1) := by decide +kernel
theorem dX11_best_126 : decode cX11_best 126 = .ok (.iaload, 1) := by decide +kernel
theorem dX11_best_127 : decode cX11_best 127 = .ok (.istore 5, 2) := by decide +kernel
theorem dX11_best_129 : decode cX11_best 129 = .ok (.iload 4, 2) := by decide +kernel
theorem dX11_best_131 : decode cX11_best 131 = .ok (.istore 6, 2) := by decide +kernel
theorem dX11_best_133 : decode cX11_best 133 = .ok (.iload 6, 2) := by decide +kernel
theorem dX11_best_135 : decode cX11_best 135 = .ok (.ifCond .le 39, 3) := by decide +kernel
theorem dX11_best_138 : decode cX11_best 138 = .ok (.aload_n 0, 1) := by decide +kernel
theorem dX11_best_139 : decode cX11_best 139 = .ok (.getfield 89, 3) := by decide +kernel
theorem dX11_best_142 : decode cX11_best 142 = .ok (.iload 6, 2) := by decide +kernel
theorem dX11_best_144 : decode cX11_best 144 = .ok (.iconst 1, 1) := by decide +kernel
theorem dX11_best_145 : decode cX11_best 145 = .ok (.isub, 1) := by decide +kernel
theorem dX11_best_146 : decode cX11_best 146 = .ok (.iaload, 1) := by decide +kernel
theorem dX11_best_147 : decode cX11_best 147 = .ok (.iload 5, 2) := by decide +kernel
theorem dX11_best_149 : decode cX11_best 149 = .ok (.if_icmp .le 25, 3) := by decide +kernel
theorem dX11_best_152 : decode cX11_best 152 = .ok (.aload_n 0, 1) := by decide +kernel
theorem dX11_best_153 : decode cX11_best 153 = .ok (.getfield 89, 3) := by decide +kernel
theorem dX11_best_156 : decode cX11_best 156 = .ok (.iload 6, 2) := by decide +kernel
theorem dX11_best_158 : decode cX11_best 158 = .ok (.aload_n 0, 1) := by decide +kernel
theorem dX11_best_159 : decode cX11_best 159 = .ok (.getfield 89, 3) := by decide +kernel
theorem dX11_best_162 : decode cX11_best 162 = .ok (.iload 6, 2) := by decide +kernel
theorem dX11_best_164 : decode cX11_best 164 = .ok (.iconst 1, 1) := by decide +kernel
theorem dX11_best_165 : decode cX11_best 165 = .ok (.isub, 1) := by decide +kernel
theorem dX11_best_166 : decode cX11_best 166 = .ok (.iaload, 1) := by decide +kernel
theorem dX11_best_167 : decode cX11_best 167 = .ok (.iastore, 1) := by decide +kernel
theorem dX11_best_168 : decode cX11_best 168 = .ok (.iinc 6 (-1), 3) := by decide +kernel
theorem dX11_best_171 : decode cX11_best 171 = .ok (.goto (-38), 3) := by decide +kernel
theorem dX11_best_174 : decode cX11_best 174 = .ok (.aload_n 0, 1) := by decide +kernel
theorem dX11_best_175 : decode cX11_best 175 = .ok (.getfield 89, 3) := by decide +kernel
theorem dX11_best_178 : decode cX11_best 178 = .ok (.iload 6, 2) := by decide +kernel
theorem dX11_best_180 : decode cX11_best 180 = .ok (.iload 5, 2) := by decide +kernel
theorem dX11_best_182 : decode cX11_best 182 = .ok (.iastore, 1) := by decide +kernel
theorem dX11_best_183 : decode cX11_best 183 = .ok (.iinc 4 1, 3) := by decide +kernel
theorem dX11_best_186 : decode cX11_best 186 = .ok (.goto (-77), 3) := by decide +kernel
theorem dX11_best_189 : decode cX11_best 189 = .ok (.iconst 1, 1) := by decide +kernel
theorem dX11_best_190 : decode cX11_best 190 = .ok (.istore 4, 2) := by decide +kernel
theorem dX11_best_192 : decode cX11_best 192 = .ok (.iconst 2, 1) := by decide +kernel
theorem dX11_best_193 : decode cX11_best 193 = .ok (.istore 5, 2) := by decide +kernel
theorem dX11_best_195 : decode cX11_best 195 = .ok (.iload 5, 2) := by decide +kernel
theorem dX11_best_197 : decode cX11_best 197 = .ok (.iload_n 3, 1) := by decide +kernel
theorem dX11_best_198 : decode cX11_best 198 = .ok (.if_icmp .gt 16, 3) := by decide +kernel
theorem dX11_best_201 : decode cX11_best 201 = .ok (.iload 4, 2) := by decide +kernel
theorem dX11_best_203 : decode cX11_best 203 = .ok (.iload 5, 2) := by decide +kernel
theorem dX11_best_205 : decode cX11_best 205 = .ok (.imul, 1) := by decide +kernel
theorem dX11_best_206 : decode cX11_best 206 = .ok (.istore 4, 2) := by decide +kernel
theorem dX11_best_208 : decode cX11_best 208 = .ok (.iinc 5 1, 3) := by decide +kernel
theorem dX11_best_211 : decode cX11_best 211 = .ok (.goto (-16), 3) := by decide +kernel
theorem dX11_best_214 : decode cX11_best 214 = .ok (.iconst (-1), 1) := by decide +kernel
theorem dX11_best_215 : decode cX11_best 215 = .ok (.istore 5, 2) := by decide +kernel
theorem dX11_best_217 : decode cX11_best 217 = .ok (.iconst 0, 1) := by decide +kernel
theorem dX11_best_218 : decode cX11_best 218 = .ok (.istore 6, 2) := by decide +kernel
theorem dX11_best_220 : decode cX11_best 220 = .ok (.iload 6, 2) := by decide +kernel
theorem dX11_best_222 : decode cX11_best 222 = .ok (.iload 4, 2) := by decide +kernel
theorem dX11_best_224 : decode cX11_best 224 = .ok (.if_icmp .ge 78, 3) := by decide +kernel
theorem dX11_best_227 : decode cX11_best 227 = .ok (.aload_n 0, 1) := by decide +kernel
theorem dX11_best_228 : decode cX11_best 228 = .ok (.iload 6, 2) := by decide +kernel
theorem dX11_best_230 : decode cX11_best 230 = .ok (.iload_n 3, 1) := by decide +kernel
theorem dX11_best_231 : decode cX11_best 231 = .ok (.iload 4, 2) := by decide +kernel
theorem dX11_best_233 : decode cX11_best 233 = .ok (.invokevirtual 305, 3) := by decide +kernel
theorem dX11_best_236 : decode cX11_best 236 = .ok (.aload_n 0, 1) := by decide +kernel
theorem dX11_best_237 : decode cX11_best 237 = .ok (.invokevirtual 296, 3) := by decide +kernel
theorem dX11_best_240 : decode cX11_best 240 = .ok (.istore 7, 2) := by decide +kernel
theorem dX11_best_242 : decode cX11_best 242 = .ok (.iload 5, 2) := by decide +kernel
theorem dX11_best_244 : decode cX11_best 244 = .ok (.iconst (-1), 1) := by decide +kernel
theorem dX11_best_245 : decode cX11_best 245 = .ok (.if_icmp .eq 13, 3) := by decide +kernel
theorem dX11_best_248 : decode cX11_best 248 = .ok (.iload 7, 2) := by decide +kernel
theorem dX11_best_250 : decode cX11_best 250 = .ok (.iload 5, 2) := by decide +kernel
theorem dX11_best_252 : decode cX11_best 252 = .ok (.if_icmp .lt 6, 3) := by decide +kernel
theorem dX11_best_255 : decode cX11_best 255 = .ok (.goto 41, 3) := by decide +kernel
theorem dX11_best_258 : decode cX11_best 258 = .ok (.iload 7, 2) := by decide +kernel
theorem dX11_best_260 : decode cX11_best 260 = .ok (.istore 5, 2) := by decide +kernel
theorem dX11_best_262 : decode cX11_best 262 = .ok (.iconst 0, 1) := by decide +kernel
theorem dX11_best_263 : decode cX11_best 263 = .ok (.istore 8, 2) := by decide +kernel
theorem dX11_best_265 : decode cX11_best 265 = .ok (.iload 8, 2) := by decide +kernel
theorem dX11_best_267 : decode cX11_best 267 = .ok (.iload_n 3, 1) := by decide +kernel
theorem dX11_best_268 : decode cX11_best 268 = .ok (.if_icmp .ge 28, 3) := by decide +kernel
theorem dX11_best_271 : decode cX11_best 271 = .ok (.aload_n 0, 1) := by decide +kernel
theorem dX11_best_272 : decode cX11_best 272 = .ok (.getfield 92, 3) := by decide +kernel
theorem dX11_best_275 : decode cX11_best 275 = .ok (.iload 8, 2) := by decide +kernel
theorem dX11_best_277 : decode cX11_best 277 = .ok (.aload_n 0, 1) := by decide +kernel
theorem dX11_best_278 : decode cX11_best 278 = .ok (.getfield 35, 3) := by decide +kernel
theorem dX11_best_281 : decode cX11_best 281 = .ok (.aload_n 0, 1) := by decide +kernel
theorem dX11_best_282 : decode cX11_best 282 = .ok (.getfield 86, 3) := by decide +kernel
theorem dX11_best_285 : decode cX11_best 285 = .ok (.iload 8, 2) := by decide +kernel
theorem dX11_best_287 : decode cX11_best 287 = .ok (.iaload, 1) := by decide +kernel
theorem dX11_best_288 : decode cX11_best 288 = .ok (.iaload, 1) := by decide +kernel
theorem dX11_best_289 : decode cX11_best 289 = .ok (.iastore, 1) := by decide +kernel
theorem dX11_best_290 : decode cX11_best 290 = .ok (.iinc 8 1, 3) := by decide +kernel
theorem dX11_best_293 : decode cX11_best 293 = .ok (.goto (-28), 3) := by decide +kernel
theorem dX11_best_296 : decode cX11_best 296 = .ok (.iinc 6 1, 3) := by decide +kernel
theorem dX11_best_299 : decode cX11_best 299 = .ok (.goto (-79), 3) := by decide +kernel
theorem dX11_best_302 : decode cX11_best 302 = .ok (.iconst 0, 1) := by decide +kernel
theorem dX11_best_303 : decode cX11_best 303 = .ok (.istore 6, 2) := by decide +kernel
theorem dX11_best_305 : decode cX11_best 305 = .ok (.iload 6, 2) := by decide +kernel
theorem dX11_best_307 : decode cX11_best 307 = .ok (.iload_n 3, 1) := by decide +kernel
theorem dX11_best_308 : decode cX11_best 308 = .ok (.if_icmp .ge 28, 3) := by decide +kernel
theorem dX11_best_311 : decode cX11_best 311 = .ok (.aload_n 0, 1) := by decide +kernel
theorem dX11_best_312 : decode cX11_best 312 = .ok (.getfield 35, 3) := by decide +kernel
theorem dX11_best_315 : decode cX11_best 315 = .ok (.aload_n 0, 1) := by decide +kernel
theorem dX11_best_316 : decode cX11_best 316 = .ok (.getfield 86, 3) := by decide +kernel
theorem dX11_best_319 : decode cX11_best 319 = .ok (.iload 6, 2) := by decide +kernel
theorem dX11_best_321 : decode cX11_best 321 = .ok (.iaload, 1) := by decide +kernel
theorem dX11_best_322 : decode cX11_best 322 = .ok (.aload_n 0, 1) := by decide +kernel
theorem dX11_best_323 : decode cX11_best 323 = .ok (.getfield 92, 3) := by decide +kernel
theorem dX11_best_326 : decode cX11_best 326 = .ok (.iload 6, 2) := by decide +kernel
theorem dX11_best_328 : decode cX11_best 328 = .ok (.iaload, 1) := by decide +kernel
theorem dX11_best_329 : decode cX11_best 329 = .ok (.iastore, 1) := by decide +kernel
theorem dX11_best_330 : decode cX11_best 330 = .ok (.iinc 6 1, 3) := by decide +kernel
theorem dX11_best_333 : decode cX11_best 333 = .ok (.goto (-28), 3) := by decide +kernel
theorem dX11_best_336 : decode cX11_best 336 = .ok (.iload 5, 2) := by decide +kernel
theorem dX11_best_338 : decode cX11_best 338 = .ok (.ireturn, 1) := by decide +kernel
theorem dX11_rowOf_0 : decode cX11_rowOf 0 = .ok (.iload_n 1, 1) := by decide +kernel
theorem dX11_rowOf_1 : decode cX11_rowOf 1 = .ok (.istore 4, 2) := by decide +kernel
theorem dX11_rowOf_3 : decode cX11_rowOf 3 = .ok (.iload_n 3, 1) := by decide +kernel
theorem dX11_rowOf_4 : decode cX11_rowOf 4 = .ok (.istore 5, 2) := by decide +kernel
theorem dX11_rowOf_6 : decode cX11_rowOf 6 = .ok (.iconst 0, 1) := by decide +kernel
theorem dX11_rowOf_7 : decode cX11_rowOf 7 = .ok (.istore 6, 2) := by decide +kernel
theorem dX11_rowOf_9 : decode cX11_rowOf 9 = .ok (.iconst 0, 1) := by decide +kernel
theorem dX11_rowOf_10 : decode cX11_rowOf 10 = .ok (.istore 7, 2) := by decide +kernel
theorem dX11_rowOf_12 : decode cX11_rowOf 12 = .ok (.iload 7, 2) := by decide +kernel
theorem dX11_rowOf_14 : decode cX11_rowOf 14 = .ok (.iload_n 2, 1) := by decide +kernel
theorem dX11_rowOf_15 : decode cX11_rowOf 15 = .ok (.if_icmp .ge 98, 3) := by decide +kernel
theorem dX11_rowOf_18 : decode cX11_rowOf 18 = .ok (.iload 5, 2) := by decide +kernel
theorem dX11_rowOf_20 : decode cX11_rowOf 20 = .ok (.iload_n 2, 1) := by decide +kernel
theorem dX11_rowOf_21 : decode cX11_rowOf 21 = .ok (.iload 7, 2) := by decide +kernel
theorem dX11_rowOf_23 : decode cX11_rowOf 23 = .ok (.isub, 1) := by decide +kernel
theorem dX11_rowOf_24 : decode cX11_rowOf 24 = .ok (.idiv, 1) := by decide +kernel
theorem dX11_rowOf_25 : decode cX11_rowOf 25 = .ok (.istore 5, 2) := by decide +kernel
theorem dX11_rowOf_27 : decode cX11_rowOf 27 = .ok (.iload 4, 2) := by decide +kernel
theorem dX11_rowOf_29 : decode cX11_rowOf 29 = .ok (.iload 5, 2) := by decide +kernel
theorem dX11_rowOf_31 : decode cX11_rowOf 31 = .ok (.idiv, 1) := by decide +kernel
theorem dX11_rowOf_32 : decode cX11_rowOf 32 = .ok (.istore 8, 2) := by decide +kernel
theorem dX11_rowOf_34 : decode cX11_rowOf 34 = .ok (.iload 4, 2) := by decide +kernel
theorem dX11_rowOf_36 : decode cX11_rowOf 36 = .ok (.iload 5, 2) := by decide +kernel
theorem dX11_rowOf_38 : decode cX11_rowOf 38 = .ok (.irem, 1) := by decide +kernel
theorem dX11_rowOf_39 : decode cX11_rowOf 39 = .ok (.istore 4, 2) := by decide +kernel
theorem dX11_rowOf_41 : decode cX11_rowOf 41 = .ok (.iconst 0, 1) := by decide +kernel
theorem dX11_rowOf_42 : decode cX11_rowOf 42 = .ok (.istore 9, 2) := by decide +kernel
theorem dX11_rowOf_44 : decode cX11_rowOf 44 = .ok (.iload 6, 2) := by decide +kernel
theorem dX11_rowOf_46 : decode cX11_rowOf 46 = .ok (.iload 9, 2) := by decide +kernel
theorem dX11_rowOf_48 : decode cX11_rowOf 48 = .ok (.ishr, 1) := by decide +kernel
theorem dX11_rowOf_49 : decode cX11_rowOf 49 = .ok (.iconst 1, 1) := by decide +kernel
theorem dX11_rowOf_50 : decode cX11_rowOf 50 = .ok (.iand, 1) := by decide +kernel
theorem dX11_rowOf_51 : decode cX11_rowOf 51 = .ok (.iconst 1, 1) := by decide +kernel
theorem dX11_rowOf_52 : decode cX11_rowOf 52 = .ok (.if_icmp .eq 8, 3) := by decide +kernel
theorem dX11_rowOf_55 : decode cX11_rowOf 55 = .ok (.iload 8, 2) := by decide +kernel
theorem dX11_rowOf_57 : decode cX11_rowOf 57 = .ok (.ifCond .le 22, 3) := by decide +kernel
theorem dX11_rowOf_60 : decode cX11_rowOf 60 = .ok (.iload 6, 2) := by decide +kernel
theorem dX11_rowOf_62 : decode cX11_rowOf 62 = .ok (.iload 9, 2) := by decide +kernel
theorem dX11_rowOf_64 : decode cX11_rowOf 64 = .ok (.ishr, 1) := by decide +kernel
theorem dX11_rowOf_65 : decode cX11_rowOf 65 = .ok (.iconst 1, 1) := by decide +kernel
theorem dX11_rowOf_66 : decode cX11_rowOf 66 = .ok (.iand, 1) := by decide +kernel
theorem dX11_rowOf_67 : decode cX11_rowOf 67 = .ok (.ifCond .ne 6, 3) := by decide +kernel
theorem dX11_rowOf_70 : decode cX11_rowOf 70 = .ok (.iinc 8 (-1), 3) := by decide +kernel
theorem dX11_rowOf_73 : decode cX11_rowOf 73 = .ok (.iinc 9 1, 3) := by decide +kernel
theorem dX11_rowOf_76 : decode cX11_rowOf 76 = .ok (.goto (-32), 3) := by decide +kernel
theorem dX11_rowOf_79 : decode cX11_rowOf 79 = .ok (.iload 6, 2) := by decide +kernel
theorem dX11_rowOf_81 : decode cX11_rowOf 81 = .ok (.iconst 1, 1) := by decide +kernel
theorem dX11_rowOf_82 : decode cX11_rowOf 82 = .ok (.iload 9, 2) := by decide +kernel
theorem dX11_rowOf_84 : decode cX11_rowOf 84 = .ok (.ishl, 1) := by decide +kernel
theorem dX11_rowOf_85 : decode cX11_rowOf 85 = .ok (.ior, 1) := by decide +kernel
theorem dX11_rowOf_86 : decode cX11_rowOf 86 = .ok (.istore 6, 2) := by decide +kernel
theorem dX11_rowOf_88 : decode cX11_rowOf 88 = .ok (.aload_n 0, 1) := by decide +kernel
theorem dX11_rowOf_89 : decode cX11_rowOf 89 = .ok (.getfield 35, 3) := by decide +kernel
theorem dX11_rowOf_92 : decode cX11_rowOf 92 = .ok (.aload_n 0, 1) := by decide +kernel
theorem dX11_rowOf_93 : decode cX11_rowOf 93 = .ok (.getfield 86, 3) := by decide +kernel
theorem dX11_rowOf_96 : decode cX11_rowOf 96 = .ok (.iload 7, 2) := by decide +kernel
theorem dX11_rowOf_98 : decode cX11_rowOf 98 = .ok (.iaload, 1) := by decide +kernel
theorem dX11_rowOf_99 : decode cX11_rowOf 99 = .ok (.aload_n 0, 1) := by decide +kernel
theorem dX11_rowOf_100 : decode cX11_rowOf 100 = .ok (.getfield 89, 3) := by decide +kernel
theorem dX11_rowOf_103 : decode cX11_rowOf 103 = .ok (.iload 9, 2) := by decide +kernel
theorem dX11_rowOf_105 : decode cX11_rowOf 105 = .ok (.iaload, 1) := by decide +kernel
theorem dX11_rowOf_106 : decode cX11_rowOf 106 = .ok (.iastore, 1) := by decide +kernel
theorem dX11_rowOf_107 : decode cX11_rowOf 107 = .ok (.iinc 7 1, 3) := by decide +kernel
theorem dX11_rowOf_110 : decode cX11_rowOf 110 = .ok (.goto (-98), 3) := by decide +kernel
theorem dX11_rowOf_113 : decode cX11_rowOf 113 = .ok (.return_, 1) := by decide +kernel
theorem dX11_keep_0 : decode cX11_keep 0 = .ok (.iload_n 1, 1) := by decide +kernel
theorem dX11_keep_1 : decode cX11_keep 1 = .ok (.iconst 0, 1) := by decide +kernel
theorem dX11_keep_2 : decode cX11_keep 2 = .ok (.iconst 3, 1) := by decide +kernel
theorem dX11_keep_3 : decode cX11_keep 3 = .ok (.invokestatic 181, 3) := by decide +kernel
theorem dX11_keep_6 : decode cX11_keep 6 = .ok (.ifCond .ne 6, 3) := by decide +kernel
theorem dX11_keep_9 : decode cX11_keep 9 = .ok (.bipush (-2), 2) := by decide +kernel
theorem dX11_keep_11 : decode cX11_keep 11 = .ok (.ireturn, 1) := by decide +kernel
theorem dX11_keep_12 : decode cX11_keep 12 = .ok (.aload_n 0, 1) := by decide +kernel
theorem dX11_keep_13 : decode cX11_keep 13 = .ok (.getfield 194, 3) := by decide +kernel
theorem dX11_keep_16 : decode cX11_keep 16 = .ok (.ifCond .ne 6, 3) := by decide +kernel
theorem dX11_keep_19 : decode cX11_keep 19 = .ok (.bipush (-4), 2) := by decide +kernel
theorem dX11_keep_21 : decode cX11_keep 21 = .ok (.ireturn, 1) := by decide +kernel
theorem dX11_keep_22 : decode cX11_keep 22 = .ok (.aload_n 0, 1) := by decide +kernel
theorem dX11_keep_23 : decode cX11_keep 23 = .ok (.getfield 95, 3) := by decide +kernel
theorem dX11_keep_26 : decode cX11_keep 26 = .ok (.iload_n 1, 1) := by decide +kernel
theorem dX11_keep_27 : decode cX11_keep 27 = .ok (.iconst 1, 1) := by decide +kernel
theorem dX11_keep_28 : decode cX11_keep 28 = .ok (.bastore, 1) := by decide +kernel
theorem dX11_keep_29 : decode cX11_keep 29 = .ok (.iconst 0, 1) := by decide +kernel
theorem dX11_keep_30 : decode cX11_keep 30 = .ok (.istore_n 2, 1) := by decide +kernel
theorem dX11_keep_31 : decode cX11_keep 31 = .ok (.iload_n 2, 1) := by decide +kernel
theorem dX11_keep_32 : decode cX11_keep 32 = .ok (.aload_n 0, 1) := by decide +kernel
theorem dX11_keep_33 : decode cX11_keep 33 = .ok (.getfield 194, 3) := by decide +kernel
theorem dX11_keep_36 : decode cX11_keep 36 = .ok (.if_icmp .ge 26, 3) := by decide +kernel
theorem dX11_keep_39 : decode cX11_keep 39 = .ok (.aload_n 0, 1) := by decide +kernel
theorem dX11_keep_40 : decode cX11_keep 40 = .ok (.getfield 98, 3) := by decide +kernel
theorem dX11_keep_43 : decode cX11_keep 43 = .ok (.bipush 40, 2) := by decide +kernel
theorem dX11_keep_45 : decode cX11_keep 45 = .ok (.iload_n 1, 1) := by decide +kernel
theorem dX11_keep_46 : decode cX11_keep 46 = .ok (.imul, 1) := by decide +kernel
theorem dX11_keep_47 : decode cX11_keep 47 = .ok (.iload_n 2, 1) := by decide +kernel
theorem dX11_keep_48 : decode cX11_keep 48 = .ok (.iadd, 1) := by decide +kernel
theorem dX11_keep_49 : decode cX11_keep 49 = .ok (.aload_n 0, 1) := by decide +kernel
theorem dX11_keep_50 : decode cX11_keep 50 = .ok (.getfield 35, 3) := by decide +kernel
theorem dX11_keep_53 : decode cX11_keep 53 = .ok (.iload_n 2, 1) := by decide +kernel
theorem dX11_keep_54 : decode cX11_keep 54 = .ok (.iaload, 1) := by decide +kernel
theorem dX11_keep_55 : decode cX11_keep 55 = .ok (.iastore, 1) := by decide +kernel
theorem dX11_keep_56 : decode cX11_keep 56 = .ok (.iinc 2 1, 3) := by decide +kernel
theorem dX11_keep_59 : decode cX11_keep 59 = .ok (.goto (-28), 3) := by decide +kernel
theorem dX11_keep_62 : decode cX11_keep 62 = .ok (.iconst 1, 1) := by decide +kernel
theorem dX11_keep_63 : decode cX11_keep 63 = .ok (.ireturn, 1) := by decide +kernel
theorem dX11_take__0 : decode cX11_take_ 0 = .ok (.iload_n 1, 1) := by decide +kernel
theorem dX11_take__1 : decode cX11_take_ 1 = .ok (.iconst 0, 1) := by decide +kernel
theorem dX11_take__2 : decode cX11_take_ 2 = .ok (.iconst 3, 1) := by decide +kernel
theorem dX11_take__3 : decode cX11_take_ 3 = .ok (.invokestatic 181, 3) := by decide +kernel
theorem dX11_take__6 : decode cX11_take_ 6 = .ok (.ifCond .ne 6, 3) := by decide +kernel
theorem dX11_take__9 : decode cX11_take_ 9 = .ok (.bipush (-2), 2) := by decide +kernel
theorem dX11_take__11 : decode cX11_take_ 11 = .ok (.ireturn, 1) := by decide +kernel
theorem dX11_take__12 : decode cX11_take_ 12 = .ok (.aload_n 0, 1) := by decide +kernel
theorem dX11_take__13 : decode cX11_take_ 13 = .ok (.getfield 95, 3) := by decide +kernel
theorem dX11_take__16 : decode cX11_take_ 16 = .ok (.iload_n 1, 1) := by decide +kernel
theorem dX11_take__17 : decode cX11_take_ 17 = .ok (.baload, 1) := by decide +kernel
theorem dX11_take__18 : decode cX11_take_ 18 = .ok (.ifCond .ne 6, 3) := by decide +kernel
theorem dX11_take__21 : decode cX11_take_ 21 = .ok (.bipush (-4), 2) := by decide +kernel
theorem dX11_take__23 : decode cX11_take_ 23 = .ok (.ireturn, 1) := by decide +kernel
theorem dX11_take__24 : decode cX11_take_ 24 = .ok (.iconst 0, 1) := by decide +kernel
theorem dX11_take__25 : decode cX11_take_ 25 = .ok (.istore_n 2, 1) := by decide +kernel
theorem dX11_take__26 : decode cX11_take_ 26 = .ok (.iload_n 2, 1) := by decide +kernel
theorem dX11_take__27 : decode cX11_take_ 27 = .ok (.aload_n 0, 1) := by decide +kernel
theorem dX11_take__28 : decode cX11_take_ 28 = .ok (.getfield 194, 3) := by decide +kernel
theorem dX11_take__31 : decode cX11_take_ 31 = .ok (.if_icmp .ge 31, 3) := by decide +kernel
theorem dX11_take__34 : decode cX11_take_ 34 = .ok (.aload_n 0, 1) := by decide +kernel
theorem dX11_take__35 : decode cX11_take_ 35 = .ok (.getfield 24, 3) := by decide +kernel
theorem dX11_take__38 : decode cX11_take_ 38 = .ok (.aload_n 0, 1) := by decide +kernel
theorem dX11_take__39 : decode cX11_take_ 39 = .ok (.getfield 98, 3) := by decide +kernel
theorem dX11_take__42 : decode cX11_take_ 42 = .ok (.bipush 40, 2) := by decide +kernel
theorem dX11_take__44 : decode cX11_take_ 44 = .ok (.iload_n 1, 1) := by decide +kernel
theorem dX11_take__45 : decode cX11_take_ 45 = .ok (.imul, 1) := by decide +kernel
theorem dX11_take__46 : decode cX11_take_ 46 = .ok (.iload_n 2, 1) := by decide +kernel
theorem dX11_take__47 : decode cX11_take_ 47 = .ok (.iadd, 1) := by decide +kernel
theorem dX11_take__48 : decode cX11_take_ 48 = .ok (.iaload, 1) := by decide +kernel
theorem dX11_take__49 : decode cX11_take_ 49 = .ok (.baload, 1) := by decide +kernel
theorem dX11_take__50 : decode cX11_take_ 50 = .ok (.ifCond .eq 6, 3) := by decide +kernel
theorem dX11_take__53 : decode cX11_take_ 53 = .ok (.bipush (-4), 2) := by decide +kernel
theorem dX11_take__55 : decode cX11_take_ 55 = .ok (.ireturn, 1) := by decide +kernel
theorem dX11_take__56 : decode cX11_take_ 56 = .ok (.iinc 2 1, 3) := by decide +kernel
theorem dX11_take__59 : decode cX11_take_ 59 = .ok (.goto (-33), 3) := by decide +kernel
theorem dX11_take__62 : decode cX11_take_ 62 = .ok (.iconst 0, 1) := by decide +kernel
theorem dX11_take__63 : decode cX11_take_ 63 = .ok (.istore_n 2, 1) := by decide +kernel
theorem dX11_take__64 : decode cX11_take_ 64 = .ok (.iload_n 2, 1) := by decide +kernel
theorem dX11_take__65 : decode cX11_take_ 65 = .ok (.aload_n 0, 1) := by decide +kernel
theorem dX11_take__66 : decode cX11_take_ 66 = .ok (.getfield 194, 3) := by decide +kernel
theorem dX11_take__69 : decode cX11_take_ 69 = .ok (.if_icmp .ge 26, 3) := by decide +kernel
theorem dX11_take__72 : decode cX11_take_ 72 = .ok (.aload_n 0, 1) := by decide +kernel
theorem dX11_take__73 : decode cX11_take_ 73 = .ok (.getfield 35, 3) := by decide +kernel
theorem dX11_take__76 : decode cX11_take_ 76 = .ok (.iload_n 2, 1) := by decide +kernel
theorem dX11_take__77 : decode cX11_take_ 77 = .ok (.aload_n 0, 1) := by decide +kernel
theorem dX11_take__78 : decode cX11_take_ 78 = .ok (.getfield 98, 3) := by decide +kernel
theorem dX11_take__81 : decode cX11_take_ 81 = .ok (.bipush 40, 2) := by decide +kernel
theorem dX11_take__83 : decode cX11_take_ 83 = .ok (.iload_n 1, 1) := by decide +kernel
theorem dX11_take__84 : decode cX11_take_ 84 = .ok (.imul, 1) := by decide +kernel
theorem dX11_take__85 : decode cX11_take_ 85 = .ok (.iload_n 2, 1) := by decide +kernel
theorem dX11_take__86 : decode cX11_take_ 86 = .ok (.iadd, 1) := by decide +kernel
theorem dX11_take__87 : decode cX11_take_ 87 = .ok (.iaload, 1) := by decide +kernel
theorem dX11_take__88 : decode cX11_take_ 88 = .ok (.iastore, 1) := by decide +kernel
theorem dX11_take__89 : decode cX11_take_ 89 = .ok (.iinc 2 1, 3) := by decide +kernel
theorem dX11_take__92 : decode cX11_take_ 92 = .ok (.goto (-28), 3) := by decide +kernel
theorem dX11_take__95 : decode cX11_take_ 95 = .ok (.aload_n 0, 1) := by decide +kernel
theorem dX11_take__96 : decode cX11_take_ 96 = .ok (.invokevirtual 296, 3) := by decide +kernel
theorem dX11_take__99 : decode cX11_take_ 99 = .ok (.ireturn, 1) := by decide +kernel
theorem dX11_longest_0 : decode cX11_longest 0 = .ok (.aload_n 0, 1) := by decide +kernel
theorem dX11_longest_1 : decode cX11_longest 1 = .ok (.iload_n 1, 1) := by decide +kernel
theorem dX11_longest_2 : decode cX11_longest 2 = .ok (.invokevirtual 241, 3) := by decide +kernel
theorem dX11_longest_5 : decode cX11_longest 5 = .ok (.ifCond .eq 20, 3) := by decide +kernel
theorem dX11_longest_8 : decode cX11_longest 8 = .ok (.iload_n 3, 1) := by decide +kernel
theorem dX11_longest_9 : decode cX11_longest 9 = .ok (.iload_n 2, 1) := by decide +kernel
theorem dX11_longest_10 : decode cX11_longest 10 = .ok (.if_icmp .lt 15, 3) := by decide +kernel
theorem dX11_longest_13 : decode cX11_longest 13 = .ok (.iload_n 3, 1) := by decide +kernel
theorem dX11_longest_14 : decode cX11_longest 14 = .ok (.i2l, 1) := by decide +kernel
theorem dX11_longest_15 : decode cX11_longest 15 = .ok (.iload_n 2, 1) := by decide +kernel
theorem dX11_longest_16 : decode cX11_longest 16 = .ok (.i2l, 1) := by decide +kernel
theorem dX11_longest_17 : decode cX11_longest 17 = .ok (.lsub, 1) := by decide +kernel
theorem dX11_longest_18 : decode cX11_longest 18 = .ok (.ldc2_w 309, 3) := by decide +kernel
theorem dX11_longest_21 : decode cX11_longest 21 = .ok (.lcmp, 1) := by decide +kernel
theorem dX11_longest_22 : decode cX11_longest 22 = .ok (.ifCond .le 6, 3) := by decide +kernel
theorem dX11_longest_25 : decode cX11_longest 25 = .ok (.bipush (-2), 2) := by decide +kernel
theorem dX11_longest_27 : decode cX11_longest 27 = .ok (.ireturn, 1) := by decide +kernel
theorem dX11_longest_28 : decode cX11_longest 28 = .ok (.iload 4, 2) := by decide +kernel
theorem dX11_longest_30 : decode cX11_longest 30 = .ok (.iconst 0, 1) := by decide +kernel
theorem dX11_longest_31 : decode cX11_longest 31 = .ok (.iconst 1, 1) := by decide +kernel
theorem dX11_longest_32 : decode cX11_longest 32 = .ok (.invokestatic 181, 3) := by decide +kernel
theorem dX11_longest_35 : decode cX11_longest 35 = .ok (.ifCond .ne 5, 3) := by decide +kernel
theorem dX11_longest_38 : decode cX11_longest 38 = .ok (.iconst (-1), 1) := by decide +kernel
theorem dX11_longest_39 : decode cX11_longest 39 = .ok (.ireturn, 1) := by decide +kernel
theorem dX11_longest_40 : decode cX11_longest 40 = .ok (.aload_n 0, 1) := by decide +kernel
theorem dX11_longest_41 : decode cX11_longest 41 = .ok (.getfield 32, 3) := by decide +kernel
theorem dX11_longest_44 : decode cX11_longest 44 = .ok (.iload_n 1, 1) := by decide +kernel
theorem dX11_longest_45 : decode cX11_longest 45 = .ok (.iaload, 1) := by decide +kernel
theorem dX11_longest_46 : decode cX11_longest 46 = .ok (.istore 5, 2) := by decide +kernel
theorem dX11_longest_48 : decode cX11_longest 48 = .ok (.iconst (-1), 1) := by decide +kernel
theorem dX11_longest_49 : decode cX11_longest 49 = .ok (.istore 6, 2) := by decide +kernel
theorem dX11_longest_51 : decode cX11_longest 51 = .ok (.iconst 0, 1) := by decide +kernel
theorem dX11_longest_52 : decode cX11_longest 52 = .ok (.istore 7, 2) := by decide +kernel
theorem dX11_longest_54 : decode cX11_longest 54 = .ok (.iload_n 2, 1) := by decide +kernel
theorem dX11_longest_55 : decode cX11_longest 55 = .ok (.i2l, 1) := by decide +kernel
theorem dX11_longest_56 : decode cX11_longest 56 = .ok (.lstore 8, 2) := by decide +kernel
theorem dX11_longest_58 : decode cX11_longest 58 = .ok (.lload 8, 2) := by decide +kernel
theorem dX11_longest_60 : decode cX11_longest 60 = .ok (.iload_n 3, 1) := by decide +kernel
theorem dX11_longest_61 : decode cX11_longest 61 = .ok (.i2l, 1) := by decide +kernel
theorem dX11_longest_62 : decode cX11_longest 62 = .ok (.lcmp, 1) := by decide +kernel
theorem dX11_longest_63 : decode cX11_longest 63 = .ok (.ifCond .gt 55, 3) := by decide +kernel
theorem dX11_longest_66 : decode cX11_longest 66 = .ok (.aload_n 0, 1) := by decide +kernel
theorem dX11_longest_67 : decode cX11_longest 67 = .ok (.getfield 32, 3) := by decide +kernel
theorem dX11_longest_70 : decode cX11_longest 70 = .ok (.iload_n 1, 1) := by decide +kernel
theorem dX11_longest_71 : decode cX11_longest 71 = .ok (.lload 8, 2) := by decide +kernel
theorem dX11_longest_73 : decode cX11_longest 73 = .ok (.l2i, 1) := by decide +kernel
theorem dX11_longest_74 : decode cX11_longest 74 = .ok (.iastore, 1) := by decide +kernel
theorem dX11_longest_75 : decode cX11_longest 75 = .ok (.aload_n 0, 1) := by decide +kernel
theorem dX11_longest_76 : decode cX11_longest 76 = .ok (.invokevirtual 280, 3) := by decide +kernel
theorem dX11_longest_79 : decode cX11_longest 79 = .ok (.aload_n 0, 1) := by decide +kernel
theorem dX11_longest_80 : decode cX11_longest 80 = .ok (.getfield 263, 3) := by decide +kernel
theorem dX11_longest_83 : decode cX11_longest 83 = .ok (.ifCond .ne 26, 3) := by decide +kernel
theorem dX11_longest_86 : decode cX11_longest 86 = .ok (.aload_n 0, 1) := by decide +kernel
theorem dX11_longest_87 : decode cX11_longest 87 = .ok (.getfield 254, 3) := by decide +kernel
theorem dX11_longest_90 : decode cX11_longest 90 = .ok (.iload 6, 2) := by decide +kernel
theorem dX11_longest_92 : decode cX11_longest 92 = .ok (.if_icmp .gt 6, 3) := by decide +kernel
theorem dX11_longest_95 : decode cX11_longest 95 = .ok (.goto 14, 3) := by decide +kernel
theorem dX11_longest_98 : decode cX11_longest 98 = .ok (.aload_n 0, 1) := by decide +kernel
theorem dX11_longest_99 : decode cX11_longest 99 = .ok (.getfield 254, 3) := by decide +kernel
theorem dX11_longest_102 : decode cX11_longest 102 = .ok (.istore 6, 2) := by decide +kernel
theorem dX11_longest_104 : decode cX11_longest 104 = .ok (.lload 8, 2) := by decide +kernel
theorem dX11_longest_106 : decode cX11_longest 106 = .ok (.l2i, 1) := by decide +kernel
theorem dX11_longest_107 : decode cX11_longest 107 = .ok (.istore 7, 2) := by decide +kernel
theorem dX11_longest_109 : decode cX11_longest 109 = .ok (.lload 8, 2) := by decide +kernel
theorem dX11_longest_111 : decode cX11_longest 111 = .ok (.lconst 1, 1) := by decide +kernel
theorem dX11_longest_112 : decode cX11_longest 112 = .ok (.ladd, 1) := by decide +kernel
theorem dX11_longest_113 : decode cX11_longest 113 = .ok (.lstore 8, 2) := by decide +kernel
theorem dX11_longest_115 : decode cX11_longest 115 = .ok (.goto (-57), 3) := by decide +kernel
theorem dX11_longest_118 : decode cX11_longest 118 = .ok (.aload_n 0, 1) := by decide +kernel
theorem dX11_longest_119 : decode cX11_longest 119 = .ok (.getfield 32, 3) := by decide +kernel
theorem dX11_longest_122 : decode cX11_longest 122 = .ok (.iload_n 1, 1) := by decide +kernel
theorem dX11_longest_123 : decode cX11_longest 123 = .ok (.iload 5, 2) := by decide +kernel
theorem dX11_longest_125 : decode cX11_longest 125 = .ok (.iastore, 1) := by decide +kernel
theorem dX11_longest_126 : decode cX11_longest 126 = .ok (.iload 6, 2) := by decide +kernel
theorem dX11_longest_128 : decode cX11_longest 128 = .ok (.iconst (-1), 1) := by decide +kernel
theorem dX11_longest_129 : decode cX11_longest 129 = .ok (.if_icmp .ne 8, 3) := by decide +kernel
theorem dX11_longest_132 : decode cX11_longest 132 = .ok (.bipush (-4), 2) := by decide +kernel
theorem dX11_longest_134 : decode cX11_longest 134 = .ok (.goto 15, 3) := by decide +kernel
theorem dX11_longest_137 : decode cX11_longest 137 = .ok (.iload 4, 2) := by decide +kernel
theorem dX11_longest_139 : decode cX11_longest 139 = .ok (.ifCond .ne 8, 3) := by decide +kernel
theorem dX11_longest_142 : decode cX11_longest 142 = .ok (.iload 6, 2) := by decide +kernel
theorem dX11_longest_144 : decode cX11_longest 144 = .ok (.goto 5, 3) := by decide +kernel
theorem dX11_longest_147 : decode cX11_longest 147 = .ok (.iload 7, 2) := by decide +kernel
theorem dX11_longest_149 : decode cX11_longest 149 = .ok (.ireturn, 1) := by decide +kernel
theorem dX11_step_0 : decode cX11_step 0 = .ok (.iload_n 1, 1) := by decide +kernel
theorem dX11_step_1 : decode cX11_step 1 = .ok (.iconst 2, 1) := by decide +kernel
theorem dX11_step_2 : decode cX11_step 2 = .ok (.bipush 32, 2) := by decide +kernel
theorem dX11_step_4 : decode cX11_step 4 = .ok (.invokestatic 181, 3) := by decide +kernel
theorem dX11_step_7 : decode cX11_step 7 = .ok (.ifCond .eq 14, 3) := by decide +kernel
theorem dX11_step_10 : decode cX11_step 10 = .ok (.iload_n 2, 1) := by decide +kernel
theorem dX11_step_11 : decode cX11_step 11 = .ok (.iconst 1, 1) := by decide +kernel
theorem dX11_step_12 : decode cX11_step 12 = .ok (.sipush 1000, 3) := by decide +kernel
theorem dX11_step_15 : decode cX11_step 15 = .ok (.invokestatic 181, 3) := by decide +kernel
theorem dX11_step_18 : decode cX11_step 18 = .ok (.ifCond .ne 6, 3) := by decide +kernel
theorem dX11_step_21 : decode cX11_step 21 = .ok (.bipush (-2), 2) := by decide +kernel
theorem dX11_step_23 : decode cX11_step 23 = .ok (.ireturn, 1) := by decide +kernel
theorem dX11_step_24 : decode cX11_step 24 = .ok (.iconst (-1), 1) := by decide +kernel
theorem dX11_step_25 : decode cX11_step 25 = .ok (.istore_n 3, 1) := by decide +kernel
theorem dX11_step_26 : decode cX11_step 26 = .ok (.iconst 0, 1) := by decide +kernel
theorem dX11_step_27 : decode cX11_step 27 = .ok (.istore 4, 2) := by decide +kernel
theorem dX11_step_29 : decode cX11_step 29 = .ok (.iconst 1, 1) := by decide +kernel
theorem dX11_step_30 : decode cX11_step 30 = .ok (.istore 5, 2) := by decide +kernel
theorem dX11_step_32 : decode cX11_step 32 = .ok (.iload 5, 2) := by decide +kernel
theorem dX11_step_34 : decode cX11_step 34 = .ok (.aload_n 0, 1) := by decide +kernel
theorem dX11_step_35 : decode cX11_step 35 = .ok (.getfield 113, 3) := by decide +kernel
theorem dX11_step_38 : decode cX11_step 38 = .ok (.if_icmp .ge 127, 3) := by decide +kernel
theorem dX11_step_41 : decode cX11_step 41 = .ok (.lconst 0, 1) := by decide +kernel
theorem dX11_step_42 : decode cX11_step 42 = .ok (.lstore 6, 2) := by decide +kernel
theorem dX11_step_44 : decode cX11_step 44 = .ok (.iconst 1, 1) := by decide +kernel
theorem dX11_step_45 : decode cX11_step 45 = .ok (.istore 8, 2) := by decide +kernel
theorem dX11_step_47 : decode cX11_step 47 = .ok (.iconst 0, 1) := by decide +kernel
theorem dX11_step_48 : decode cX11_step 48 = .ok (.istore 9, 2) := by decide +kernel
theorem dX11_step_50 : decode cX11_step 50 = .ok (.iload 9, 2) := by decide +kernel
theorem dX11_step_52 : decode cX11_step 52 = .ok (.iload_n 1, 1) := by decide +kernel
theorem dX11_step_53 : decode cX11_step 53 = .ok (.if_icmp .ge 58, 3) := by decide +kernel
theorem dX11_step_56 : decode cX11_step 56 = .ok (.iload 8, 2) := by decide +kernel
theorem dX11_step_58 : decode cX11_step 58 = .ok (.ifCond .eq 53, 3) := by decide +kernel
theorem dX11_step_61 : decode cX11_step 61 = .ok (.lload 6, 2) := by decide +kernel
theorem dX11_step_63 : decode cX11_step 63 = .ok (.iload 9, 2) := by decide +kernel
theorem dX11_step_65 : decode cX11_step 65 = .ok (.iload 5, 2) := by decide +kernel
theorem dX11_step_67 : decode cX11_step 67 = .ok (.imul, 1) := by decide +kernel
theorem dX11_step_68 : decode cX11_step 68 = .ok (.aload_n 0, 1) := by decide +kernel
theorem dX11_step_69 : decode cX11_step 69 = .ok (.getfield 113, 3) := by decide +kernel
theorem dX11_step_72 : decode cX11_step 72 = .ok (.irem, 1) := by decide +kernel
theorem dX11_step_73 : decode cX11_step 73 = .ok (.lshr, 1) := by decide +kernel
theorem dX11_step_74 : decode cX11_step 74 = .ok (.lconst 1, 1) := by decide +kernel
theorem dX11_step_75 : decode cX11_step 75 = .ok (.land, 1) := by decide +kernel
theorem dX11_step_76 : decode cX11_step 76 = .ok (.lconst 0, 1) := by decide +kernel
theorem dX11_step_77 : decode cX11_step 77 = .ok (.lcmp, 1) := by decide +kernel
theorem dX11_step_78 : decode cX11_step 78 = .ok (.ifCond .ne 7, 3) := by decide +kernel
theorem dX11_step_81 : decode cX11_step 81 = .ok (.iconst 1, 1) := by decide +kernel
theorem dX11_step_82 : decode cX11_step 82 = .ok (.goto 4, 3) := by decide +kernel
theorem dX11_step_85 : decode cX11_step 85 = .ok (.iconst 0, 1) := by decide +kernel
theorem dX11_step_86 : decode cX11_step 86 = .ok (.istore 8, 2) := by decide +kernel
theorem dX11_step_88 : decode cX11_step 88 = .ok (.lload 6, 2) := by decide +kernel
theorem dX11_step_90 : decode cX11_step 90 = .ok (.lconst 1, 1) := by decide +kernel
theorem dX11_step_91 : decode cX11_step 91 = .ok (.iload 9, 2) := by decide +kernel
theorem dX11_step_93 : decode cX11_step 93 = .ok (.iload 5, 2) := by decide +kernel
theorem dX11_step_95 : decode cX11_step 95 = .ok (.imul, 1) := by decide +kernel
theorem dX11_step_96 : decode cX11_step 96 = .ok (.aload_n 0, 1) := by decide +kernel
theorem dX11_step_97 : decode cX11_step 97 = .ok (.getfield 113, 3) := by decide +kernel
theorem dX11_step_100 : decode cX11_step 100 = .ok (.irem, 1) := by decide +kernel
theorem dX11_step_101 : decode cX11_step 101 = .ok (.lshl, 1) := by decide +kernel
theorem dX11_step_102 : decode cX11_step 102 = .ok (.lor, 1) := by decide +kernel
theorem dX11_step_103 : decode cX11_step 103 = .ok (.lstore 6, 2) := by decide +kernel
theorem dX11_step_105 : decode cX11_step 105 = .ok (.iinc 9 1, 3) := by decide +kernel
theorem dX11_step_108 : decode cX11_step 108 = .ok (.goto (-58), 3) := by decide +kernel
theorem dX11_step_111 : decode cX11_step 111 = .ok (.iload 5, 2) := by decide +kernel
theorem dX11_step_113 : decode cX11_step 113 = .ok (.iload_n 2, 1) := by decide +kernel
theorem dX11_step_114 : decode cX11_step 114 = .ok (.aload_n 0, 1) := by decide +kernel
theorem dX11_step_115 : decode cX11_step 115 = .ok (.getfield 113, 3) := by decide +kernel
theorem dX11_step_118 : decode cX11_step 118 = .ok (.irem, 1) := by decide +kernel
theorem dX11_step_119 : decode cX11_step 119 = .ok (.isub, 1) := by decide +kernel
theorem dX11_step_120 : decode cX11_step 120 = .ok (.aload_n 0, 1) := by decide +kernel
theorem dX11_step_121 : decode cX11_step 121 = .ok (.getfield 113, 3) := by decide +kernel
theorem dX11_step_124 : decode cX11_step 124 = .ok (.iadd, 1) := by decide +kernel
theorem dX11_step_125 : decode cX11_step 125 = .ok (.aload_n 0, 1) := by decide +kernel
theorem dX11_step_126 : decode cX11_step 126 = .ok (.getfield 113, 3) := by decide +kernel
theorem dX11_step_129 : decode cX11_step 129 = .ok (.irem, 1) := by decide +kernel
theorem dX11_step_130 : decode cX11_step 130 = .ok (.istore 9, 2) := by decide +kernel
theorem dX11_step_132 : decode cX11_step 132 = .ok (.iload 8, 2) := by decide +kernel
theorem dX11_step_134 : decode cX11_step 134 = .ok (.ifCond .eq 25, 3) := by decide +kernel
theorem dX11_step_137 : decode cX11_step 137 = .ok (.iload_n 3, 1) := by decide +kernel
theorem dX11_step_138 : decode cX11_step 138 = .ok (.iconst (-1), 1) := by decide +kernel
theorem dX11_step_139 : decode cX11_step 139 = .ok (.if_icmp .eq 13, 3) := by decide +kernel
theorem dX11_step_142 : decode cX11_step 142 = .ok (.iload 9, 2) := by decide +kernel
theorem dX11_step_144 : decode cX11_step 144 = .ok (.iload 4, 2) := by decide +kernel
theorem dX11_step_146 : decode cX11_step 146 = .ok (.if_icmp .lt 6, 3) := by decide +kernel
theorem dX11_step_149 : decode cX11_step 149 = .ok (.goto 10, 3) := by decide +kernel
theorem dX11_step_152 : decode cX11_step 152 = .ok (.iload 5, 2) := by decide +kernel
theorem dX11_step_154 : decode cX11_step 154 = .ok (.istore_n 3, 1) := by decide +kernel
theorem dX11_step_155 : decode cX11_step 155 = .ok (.iload 9, 2) := by decide +kernel
theorem dX11_step_157 : decode cX11_step 157 = .ok (.istore 4, 2) := by decide +kernel
theorem dX11_step_159 : decode cX11_step 159 = .ok (.iinc 5 1, 3) := by decide +kernel
theorem dX11_step_162 : decode cX11_step 162 = .ok (.goto (-130), 3) := by decide +kernel
theorem dX11_step_165 : decode cX11_step 165 = .ok (.iload_n 3, 1) := by decide +kernel
theorem dX11_step_166 : decode cX11_step 166 = .ok (.ireturn, 1) := by decide +kernel
theorem dX11_reach_0 : decode cX11_reach 0 = .ok (.aload_n 0, 1) := by decide +kernel
theorem dX11_reach_1 : decode cX11_reach 1 = .ok (.getfield 101, 3) := by decide +kernel
theorem dX11_reach_4 : decode cX11_reach 4 = .ok (.iload_n 1, 1) := by decide +kernel
theorem dX11_reach_5 : decode cX11_reach 5 = .ok (.iaload, 1) := by decide +kernel
theorem dX11_reach_6 : decode cX11_reach 6 = .ok (.iconst 1, 1) := by decide +kernel
theorem dX11_reach_7 : decode cX11_reach 7 = .ok (.iand, 1) := by decide +kernel
theorem dX11_reach_8 : decode cX11_reach 8 = .ok (.iconst 1, 1) := by decide +kernel
theorem dX11_reach_9 : decode cX11_reach 9 = .ok (.if_icmp .eq 16, 3) := by decide +kernel
theorem dX11_reach_12 : decode cX11_reach 12 = .ok (.aload_n 0, 1) := by decide +kernel
theorem dX11_reach_13 : decode cX11_reach 13 = .ok (.aload_n 0, 1) := by decide +kernel
theorem dX11_reach_14 : decode cX11_reach 14 = .ok (.getfield 32, 3) := by decide +kernel
theorem dX11_reach_17 : decode cX11_reach 17 = .ok (.iload_n 1, 1) := by decide +kernel
theorem dX11_reach_18 : decode cX11_reach 18 = .ok (.iaload, 1) := by decide +kernel
theorem dX11_reach_19 : decode cX11_reach 19 = .ok (.invokevirtual 274, 3) := by decide +kernel
theorem dX11_reach_22 : decode cX11_reach 22 = .ok (.ifCond .eq 5, 3) := by decide +kernel
theorem dX11_reach_25 : decode cX11_reach 25 = .ok (.iload_n 2, 1) := by decide +kernel
theorem dX11_reach_26 : decode cX11_reach 26 = .ok (.ireturn, 1) := by decide +kernel
theorem dX11_reach_27 : decode cX11_reach 27 = .ok (.aload_n 0, 1) := by decide +kernel
theorem dX11_reach_28 : decode cX11_reach 28 = .ok (.getfield 101, 3) := by decide +kernel
theorem dX11_reach_31 : decode cX11_reach 31 = .ok (.iload_n 1, 1) := by decide +kernel
theorem dX11_reach_32 : decode cX11_reach 32 = .ok (.dup2, 1) := by decide +kernel
theorem dX11_reach_33 : decode cX11_reach 33 = .ok (.iaload, 1) := by decide +kernel
theorem dX11_reach_34 : decode cX11_reach 34 = .ok (.iconst 1, 1) := by decide +kernel
theorem dX11_reach_35 : decode cX11_reach 35 = .ok (.ior, 1) := by decide +kernel
theorem dX11_reach_36 : decode cX11_reach 36 = .ok (.iastore, 1) := by decide +kernel
theorem dX11_reach_37 : decode cX11_reach 37 = .ok (.aload_n 0, 1) := by decide +kernel
theorem dX11_reach_38 : decode cX11_reach 38 = .ok (.getfield 104, 3) := by decide +kernel
theorem dX11_reach_41 : decode cX11_reach 41 = .ok (.iload_n 2, 1) := by decide +kernel
theorem dX11_reach_42 : decode cX11_reach 42 = .ok (.iload_n 1, 1) := by decide +kernel
theorem dX11_reach_43 : decode cX11_reach 43 = .ok (.iastore, 1) := by decide +kernel
theorem dX11_reach_44 : decode cX11_reach 44 = .ok (.iload_n 2, 1) := by decide +kernel
theorem dX11_reach_45 : decode cX11_reach 45 = .ok (.iconst 1, 1) := by decide +kernel
theorem dX11_reach_46 : decode cX11_reach 46 = .ok (.iadd, 1) := by decide +kernel
theorem dX11_reach_47 : decode cX11_reach 47 = .ok (.ireturn, 1) := by decide +kernel
theorem dX11_known_0 : decode cX11_known 0 = .ok (.aload_n 0, 1) := by decide +kernel
theorem dX11_known_1 : decode cX11_known 1 = .ok (.iload_n 1, 1) := by decide +kernel
theorem dX11_known_2 : decode cX11_known 2 = .ok (.invokevirtual 241, 3) := by decide +kernel
theorem dX11_known_5 : decode cX11_known 5 = .ok (.ifCond .ne 6, 3) := by decide +kernel
theorem dX11_known_8 : decode cX11_known 8 = .ok (.bipush (-2), 2) := by decide +kernel
theorem dX11_known_10 : decode cX11_known 10 = .ok (.ireturn, 1) := by decide +kernel
theorem dX11_known_11 : decode cX11_known 11 = .ok (.iconst 0, 1) := by decide +kernel
theorem dX11_known_12 : decode cX11_known 12 = .ok (.istore_n 2, 1) := by decide +kernel
theorem dX11_known_13 : decode cX11_known 13 = .ok (.iload_n 2, 1) := by decide +kernel
theorem dX11_known_14 : decode cX11_known 14 = .ok (.aload_n 0, 1) := by decide +kernel
theorem dX11_known_15 : decode cX11_known 15 = .ok (.getfield 194, 3) := by decide +kernel
theorem dX11_known_18 : decode cX11_known 18 = .ok (.if_icmp .ge 16, 3) := by decide +kernel
theorem dX11_known_21 : decode cX11_known 21 = .ok (.aload_n 0, 1) := by decide +kernel
theorem dX11_known_22 : decode cX11_known 22 = .ok (.getfield 101, 3) := by decide +kernel
theorem dX11_known_25 : decode cX11_known 25 = .ok (.iload_n 2, 1) := by decide +kernel
theorem dX11_known_26 : decode cX11_known 26 = .ok (.iconst 0, 1) := by decide +kernel
theorem dX11_known_27 : decode cX11_known 27 = .ok (.iastore, 1) := by decide +kernel
theorem dX11_known_28 : decode cX11_known 28 = .ok (.iinc 2 1, 3) := by decide +kernel
theorem dX11_known_31 : decode cX11_known 31 = .ok (.goto (-18), 3) := by decide +kernel
theorem dX11_known_34 : decode cX11_known 34 = .ok (.aload_n 0, 1) := by decide +kernel
theorem dX11_known_35 : decode cX11_known 35 = .ok (.aload_n 0, 1) := by decide +kernel
theorem dX11_known_36 : decode cX11_known 36 = .ok (.getfield 214, 3) := by decide +kernel
theorem dX11_known_39 : decode cX11_known 39 = .ok (.iconst 0, 1) := by decide +kernel
theorem dX11_known_40 : decode cX11_known 40 = .ok (.invokevirtual 311, 3) := by decide +kernel
theorem dX11_known_43 : decode cX11_known 43 = .ok (.istore_n 2, 1) := by decide +kernel
theorem dX11_known_44 : decode cX11_known 44 = .ok (.iconst 0, 1) := by decide +kernel
theorem dX11_known_45 : decode cX11_known 45 = .ok (.istore_n 3, 1) := by decide +kernel
theorem dX11_known_46 : decode cX11_known 46 = .ok (.iload_n 3, 1) := by decide +kernel
theorem dX11_known_47 : decode cX11_known 47 = .ok (.iload_n 2, 1) := by decide +kernel
theorem dX11_known_48 : decode cX11_known 48 = .ok (.if_icmp .ge 100, 3) := by decide +kernel
theorem dX11_known_51 : decode cX11_known 51 = .ok (.aload_n 0, 1) := by decide +kernel
theorem dX11_known_52 : decode cX11_known 52 = .ok (.getfield 32, 3) := by decide +kernel
theorem dX11_known_55 : decode cX11_known 55 = .ok (.aload_n 0, 1) := by decide +kernel
theorem dX11_known_56 : decode cX11_known 56 = .ok (.getfield 104, 3) := by decide +kernel
theorem dX11_known_59 : decode cX11_known 59 = .ok (.iload_n 3, 1) := by decide +kernel
theorem dX11_known_60 : decode cX11_known 60 = .ok (.iaload, 1) := by decide +kernel
theorem dX11_known_61 : decode cX11_known 61 = .ok (.iaload, 1) := by decide +kernel
theorem dX11_known_62 : decode cX11_known 62 = .ok (.istore 4, 2) := by decide +kernel
theorem dX11_known_64 : decode cX11_known 64 = .ok (.iload 4, 2) := by decide +kernel
theorem dX11_known_66 : decode cX11_known 66 = .ok (.sipush 10000, 3) := by decide +kernel
theorem dX11_known_69 : decode cX11_known 69 = .ok (.idiv, 1) := by decide +kernel
theorem dX11_known_70 : decode cX11_known 70 = .ok (.istore 5, 2) := by decide +kernel
theorem dX11_known_72 : decode cX11_known 72 = .ok (.iload 4, 2) := by decide +kernel
theorem dX11_known_74 : decode cX11_known 74 = .ok (.bipush 100, 2) := by decide +kernel
theorem dX11_known_76 : decode cX11_known 76 = .ok (.idiv, 1) := by decide +kernel
theorem dX11_known_77 : decode cX11_known 77 = .ok (.bipush 100, 2) := by decide +kernel
theorem dX11_known_79 : decode cX11_known 79 = .ok (.irem, 1) := by decide +kernel
theorem dX11_known_80 : decode cX11_known 80 = .ok (.istore 6, 2) := by decide +kernel
theorem dX11_known_82 : decode cX11_known 82 = .ok (.iload 5, 2) := by decide +kernel
theorem dX11_known_84 : decode cX11_known 84 = .ok (.invokestatic 277, 3) := by decide +kernel
theorem dX11_known_87 : decode cX11_known 87 = .ok (.ifCond .eq 14, 3) := by decide +kernel
theorem dX11_known_90 : decode cX11_known 90 = .ok (.aload_n 0, 1) := by decide +kernel
theorem dX11_known_91 : decode cX11_known 91 = .ok (.getfield 101, 3) := by decide +kernel
theorem dX11_known_94 : decode cX11_known 94 = .ok (.iload 6, 2) := by decide +kernel
theorem dX11_known_96 : decode cX11_known 96 = .ok (.dup2, 1) := by decide +kernel
theorem dX11_known_97 : decode cX11_known 97 = .ok (.iaload, 1) := by decide +kernel
theorem dX11_known_98 : decode cX11_known 98 = .ok (.iconst 2, 1) := by decide +kernel
theorem dX11_known_99 : decode cX11_known 99 = .ok (.ior, 1) := by decide +kernel
theorem dX11_known_100 : decode cX11_known 100 = .ok (.iastore, 1) := by decide +kernel
theorem dX11_known_101 : decode cX11_known 101 = .ok (.iload 5, 2) := by decide +kernel
theorem dX11_known_103 : decode cX11_known 103 = .ok (.ifCond .ne 6, 3) := by decide +kernel
theorem dX11_known_106 : decode cX11_known 106 = .ok (.goto 36, 3) := by decide +kernel
theorem dX11_known_109 : decode cX11_known 109 = .ok (.aload_n 0, 1) := by decide +kernel
theorem dX11_known_110 : decode cX11_known 110 = .ok (.iload 4, 2) := by decide +kernel
theorem dX11_known_112 : decode cX11_known 112 = .ok (.bipush 100, 2) := by decide +kernel
theorem dX11_known_114 : decode cX11_known 114 = .ok (.irem, 1) := by decide +kernel
theorem dX11_known_115 : decode cX11_known 115 = .ok (.iload_n 2, 1) := by decide +kernel
theorem dX11_known_116 : decode cX11_known 116 = .ok (.invokevirtual 311, 3) := by decide +kernel
theorem dX11_known_119 : decode cX11_known 119 = .ok (.istore_n 2, 1) := by decide +kernel
theorem dX11_known_120 : decode cX11_known 120 = .ok (.iload 5, 2) := by decide +kernel
theorem dX11_known_122 : decode cX11_known 122 = .ok (.bipush 6, 2) := by decide +kernel
theorem dX11_known_124 : decode cX11_known 124 = .ok (.if_icmp .eq 10, 3) := by decide +kernel
theorem dX11_known_127 : decode cX11_known 127 = .ok (.iload 5, 2) := by decide +kernel
theorem dX11_known_129 : decode cX11_known 129 = .ok (.bipush 7, 2) := by decide +kernel
theorem dX11_known_131 : decode cX11_known 131 = .ok (.if_icmp .ne 11, 3) := by decide +kernel
theorem dX11_known_134 : decode cX11_known 134 = .ok (.aload_n 0, 1) := by decide +kernel
theorem dX11_known_135 : decode cX11_known 135 = .ok (.iload 6, 2) := by decide +kernel
theorem dX11_known_137 : decode cX11_known 137 = .ok (.iload_n 2, 1) := by decide +kernel
theorem dX11_known_138 : decode cX11_known 138 = .ok (.invokevirtual 311, 3) := by decide +kernel
theorem dX11_known_141 : decode cX11_known 141 = .ok (.istore_n 2, 1) := by decide +kernel
theorem dX11_known_142 : decode cX11_known 142 = .ok (.iinc 3 1, 3) := by decide +kernel
theorem dX11_known_145 : decode cX11_known 145 = .ok (.goto (-99), 3) := by decide +kernel
theorem dX11_known_148 : decode cX11_known 148 = .ok (.aload_n 0, 1) := by decide +kernel
theorem dX11_known_149 : decode cX11_known 149 = .ok (.getfield 101, 3) := by decide +kernel
theorem dX11_known_152 : decode cX11_known 152 = .ok (.iload_n 1, 1) := by decide +kernel
theorem dX11_known_153 : decode cX11_known 153 = .ok (.iaload, 1) := by decide +kernel
theorem dX11_known_154 : decode cX11_known 154 = .ok (.ireturn, 1) := by decide +kernel
theorem dX11_job_0 : decode cX11_job 0 = .ok (.iload_n 1, 1) := by decide +kernel
theorem dX11_job_1 : decode cX11_job 1 = .ok (.iconst 1, 1) := by decide +kernel
theorem dX11_job_2 : decode cX11_job 2 = .ok (.sipush 9999, 3) := by decide +kernel
theorem dX11_job_5 : decode cX11_job 5 = .ok (.invokestatic 181, 3) := by decide +kernel
theorem dX11_job_8 : decode cX11_job 8 = .ok (.ifCond .eq 14, 3) := by decide +kernel
theorem dX11_job_11 : decode cX11_job 11 = .ok (.iload_n 2, 1) := by decide +kernel
theorem dX11_job_12 : decode cX11_job 12 = .ok (.iconst 1, 1) := by decide +kernel
theorem dX11_job_13 : decode cX11_job 13 = .ok (.ldc_w 314, 3) := by decide +kernel
theorem dX11_job_16 : decode cX11_job 16 = .ok (.invokestatic 181, 3) := by decide +kernel
theorem dX11_job_19 : decode cX11_job 19 = .ok (.ifCond .ne 6, 3) := by decide +kernel
theorem dX11_job_22 : decode cX11_job 22 = .ok (.bipush (-2), 2) := by decide +kernel
theorem dX11_job_24 : decode cX11_job 24 = .ok (.ireturn, 1) := by decide +kernel
theorem dX11_job_25 : decode cX11_job 25 = .ok (.aload_n 0, 1) := by decide +kernel
theorem dX11_job_26 : decode cX11_job 26 = .ok (.getfield 238, 3) := by decide +kernel
theorem dX11_job_29 : decode cX11_job 29 = .ok (.bipush 8, 2) := by decide +kernel
theorem dX11_job_31 : decode cX11_job 31 = .ok (.if_icmp .ne 6, 3) := by decide +kernel
theorem dX11_job_34 : decode cX11_job 34 = .ok (.bipush (-3), 2) := by decide +kernel
theorem dX11_job_36 : decode cX11_job 36 = .ok (.ireturn, 1) := by decide +kernel
theorem dX11_job_37 : decode cX11_job 37 = .ok (.aload_n 0, 1) := by decide +kernel
theorem dX11_job_38 : decode cX11_job 38 = .ok (.getfield 107, 3) := by decide +kernel
theorem dX11_job_41 : decode cX11_job 41 = .ok (.aload_n 0, 1) := by decide +kernel
theorem dX11_job_42 : decode cX11_job 42 = .ok (.getfield 238, 3) := by decide +kernel
theorem dX11_job_45 : decode cX11_job 45 = .ok (.iload_n 1, 1) := by decide +kernel
theorem dX11_job_46 : decode cX11_job 46 = .ok (.iastore, 1) := by decide +kernel
theorem dX11_job_47 : decode cX11_job 47 = .ok (.aload_n 0, 1) := by decide +kernel
theorem dX11_job_48 : decode cX11_job 48 = .ok (.getfield 110, 3) := by decide +kernel
theorem dX11_job_51 : decode cX11_job 51 = .ok (.aload_n 0, 1) := by decide +kernel
theorem dX11_job_52 : decode cX11_job 52 = .ok (.getfield 238, 3) := by decide +kernel
theorem dX11_job_55 : decode cX11_job 55 = .ok (.iload_n 2, 1) := by decide +kernel
theorem dX11_job_56 : decode cX11_job 56 = .ok (.iastore, 1) := by decide +kernel
theorem dX11_job_57 : decode cX11_job 57 = .ok (.aload_n 0, 1) := by decide +kernel
theorem dX11_job_58 : decode cX11_job 58 = .ok (.dup, 1) := by decide +kernel
theorem dX11_job_59 : decode cX11_job 59 = .ok (.getfield 238, 3) := by decide +kernel
theorem dX11_job_62 : decode cX11_job 62 = .ok (.iconst 1, 1) := by decide +kernel
theorem dX11_job_63 : decode cX11_job 63 = .ok (.iadd, 1) := by decide +kernel
theorem dX11_job_64 : decode cX11_job 64 = .ok (.putfield 238, 3) := by decide +kernel
theorem dX11_job_67 : decode cX11_job 67 = .ok (.aload_n 0, 1) := by decide +kernel
theorem dX11_job_68 : decode cX11_job 68 = .ok (.getfield 238, 3) := by decide +kernel
theorem dX11_job_71 : decode cX11_job 71 = .ok (.iconst 1, 1) := by decide +kernel
theorem dX11_job_72 : decode cX11_job 72 = .ok (.isub, 1) := by decide +kernel
theorem dX11_job_73 : decode cX11_job 73 = .ok (.ireturn, 1) := by decide +kernel
theorem dX11_timeOf_0 : decode cX11_timeOf 0 = .ok (.iconst 0, 1) := by decide +kernel
theorem dX11_timeOf_1 : decode cX11_timeOf 1 = .ok (.istore_n 2, 1) := by decide +kernel
theorem dX11_timeOf_2 : decode cX11_timeOf 2 = .ok (.iconst 0, 1) := by decide +kernel
theorem dX11_timeOf_3 : decode cX11_timeOf 3 = .ok (.istore_n 3, 1) := by decide +kernel
theorem dX11_timeOf_4 : decode cX11_timeOf 4 = .ok (.iload_n 3, 1) := by decide +kernel
theorem dX11_timeOf_5 : decode cX11_timeOf 5 = .ok (.iload_n 1, 1) := by decide +kernel
theorem dX11_timeOf_6 : decode cX11_timeOf 6 = .ok (.if_icmp .eq 103, 3) := by decide +kernel
theorem dX11_timeOf_9 : decode cX11_timeOf 9 = .ok (.iconst (-1), 1) := by decide +kernel
theorem dX11_timeOf_10 : decode cX11_timeOf 10 = .ok (.istore 4, 2) := by decide +kernel
theorem dX11_timeOf_12 : decode cX11_timeOf 12 = .ok (.iconst 0, 1) := by decide +kernel
theorem dX11_timeOf_13 : decode cX11_timeOf 13 = .ok (.istore 5, 2) := by decide +kernel
theorem dX11_timeOf_15 : decode cX11_timeOf 15 = .ok (.iload 5, 2) := by decide +kernel
theorem dX11_timeOf_17 : decode cX11_timeOf 17 = .ok (.aload_n 0, 1) := by decide +kernel
theorem dX11_timeOf_18 : decode cX11_timeOf 18 = .ok (.getfield 238, 3) := by decide +kernel
theorem dX11_timeOf_21 : decode cX11_timeOf 21 = .ok (.if_icmp .ge 55, 3) := by decide +kernel
theorem dX11_timeOf_24 : decode cX11_timeOf 24 = .ok (.iload_n 1, 1) := by decide +kernel
theorem dX11_timeOf_25 : decode cX11_timeOf 25 = .ok (.iload 5, 2) := by decide +kernel
theorem dX11_timeOf_27 : decode cX11_timeOf 27 = .ok (.ishr, 1) := by decide +kernel
theorem dX11_timeOf_28 : decode cX11_timeOf 28 = .ok (.iconst 1, 1) := by decide +kernel
theorem dX11_timeOf_29 : decode cX11_timeOf 29 = .ok (.iand, 1) := by decide +kernel
theorem dX11_timeOf_30 : decode cX11_timeOf 30 = .ok (.iconst 1, 1) := by decide +kernel
theorem dX11_timeOf_31 : decode cX11_timeOf 31 = .ok (.if_icmp .ne 39, 3) := by decide +kernel
theorem dX11_timeOf_34 : decode cX11_timeOf 34 = .ok (.iload_n 3, 1) := by decide +kernel
theorem dX11_timeOf_35 : decode cX11_timeOf 35 = .ok (.iload 5, 2) := by decide +kernel
theorem dX11_timeOf_37 : decode cX11_timeOf 37 = .ok (.ishr, 1) := by decide +kernel
theorem dX11_timeOf_38 : decode cX11_timeOf 38 = .ok (.iconst 1, 1) := by decide +kernel
theorem dX11_timeOf_39 : decode cX11_timeOf 39 = .ok (.iand, 1) := by decide +kernel
theorem dX11_timeOf_40 : decode cX11_timeOf 40 = .ok (.ifCond .ne 30, 3) := by decide +kernel
theorem dX11_timeOf_43 : decode cX11_timeOf 43 = .ok (.iload 4, 2) := by decide +kernel
theorem dX11_timeOf_45 : decode cX11_timeOf 45 = .ok (.iconst (-1), 1) := by decide +kernel
theorem dX11_timeOf_46 : decode cX11_timeOf 46 = .ok (.if_icmp .eq 20, 3) := by decide +kernel
theorem dX11_timeOf_49 : decode cX11_timeOf 49 = .ok (.aload_n 0, 1) := by decide +kernel
theorem dX11_timeOf_50 : decode cX11_timeOf 50 = .ok (.getfield 110, 3) := by decide +kernel
theorem dX11_timeOf_53 : decode cX11_timeOf 53 = .ok (.iload 5, 2) := by decide +kernel
theorem dX11_timeOf_55 : decode cX11_timeOf 55 = .ok (.iaload, 1) := by decide +kernel
theorem dX11_timeOf_56 : decode cX11_timeOf 56 = .ok (.aload_n 0, 1) := by decide +kernel
theorem dX11_timeOf_57 : decode cX11_timeOf 57 = .ok (.getfield 110, 3) := by decide +kernel
theorem dX11_timeOf_60 : decode cX11_timeOf 60 = .ok (.iload 4, 2) := by decide +kernel
theorem dX11_timeOf_62 : decode cX11_timeOf 62 = .ok (.iaload, 1) := by decide +kernel
theorem dX11_timeOf_63 : decode cX11_timeOf 63 = .ok (.if_icmp .ge 7, 3) := by decide +kernel
theorem dX11_timeOf_66 : decode cX11_timeOf 66 = .ok (.iload 5, 2) := by decide +kernel
theorem dX11_timeOf_68 : decode cX11_timeOf 68 = .ok (.istore 4, 2) := by decide +kernel
theorem dX11_timeOf_70 : decode cX11_timeOf 70 = .ok (.iinc 5 1, 3) := by decide +kernel
theorem dX11_timeOf_73 : decode cX11_timeOf 73 = .ok (.goto (-58), 3) := by decide +kernel
theorem dX11_timeOf_76 : decode cX11_timeOf 76 = .ok (.iload_n 2, 1) := by decide +kernel
theorem dX11_timeOf_77 : decode cX11_timeOf 77 = .ok (.aload_n 0, 1) := by decide +kernel
theorem dX11_timeOf_78 : decode cX11_timeOf 78 = .ok (.getfield 107, 3) := by decide +kernel
theorem dX11_timeOf_81 : decode cX11_timeOf 81 = .ok (.iload 4, 2) := by decide +kernel
theorem dX11_timeOf_83 : decode cX11_timeOf 83 = .ok (.iaload, 1) := by decide +kernel
theorem dX11_timeOf_84 : decode cX11_timeOf 84 = .ok (.iadd, 1) := by decide +kernel
theorem dX11_timeOf_85 : decode cX11_timeOf 85 = .ok (.istore_n 2, 1) := by decide +kernel
theorem dX11_timeOf_86 : decode cX11_timeOf 86 = .ok (.iload_n 2, 1) := by decide +kernel
theorem dX11_timeOf_87 : decode cX11_timeOf 87 = .ok (.aload_n 0, 1) := by decide +kernel
theorem dX11_timeOf_88 : decode cX11_timeOf 88 = .ok (.getfield 110, 3) := by decide +kernel
theorem dX11_timeOf_91 : decode cX11_timeOf 91 = .ok (.iload 4, 2) := by decide +kernel
theorem dX11_timeOf_93 : decode cX11_timeOf 93 = .ok (.iaload, 1) := by decide +kernel
theorem dX11_timeOf_94 : decode cX11_timeOf 94 = .ok (.if_icmp .le 5, 3) := by decide +kernel
theorem dX11_timeOf_97 : decode cX11_timeOf 97 = .ok (.iconst (-1), 1) := by decide +kernel
theorem dX11_timeOf_98 : decode cX11_timeOf 98 = .ok (.ireturn, 1) := by decide +kernel
theorem dX11_timeOf_99 : decode cX11_timeOf 99 = .ok (.iload_n 3, 1) := by decide +kernel
theorem dX11_timeOf_100 : decode cX11_timeOf 100 = .ok (.iconst 1, 1) := by decide +kernel
theorem dX11_timeOf_101 : decode cX11_timeOf 101 = .ok (.iload 4, 2) := by decide +kernel
theorem dX11_timeOf_103 : decode cX11_timeOf 103 = .ok (.ishl, 1) := by decide +kernel
theorem dX11_timeOf_104 : decode cX11_timeOf 104 = .ok (.ior, 1) := by decide +kernel
theorem dX11_timeOf_105 : decode cX11_timeOf 105 = .ok (.istore_n 3, 1) := by decide +kernel
theorem dX11_timeOf_106 : decode cX11_timeOf 106 = .ok (.goto (-102), 3) := by decide +kernel
theorem dX11_timeOf_109 : decode cX11_timeOf 109 = .ok (.iload_n 2, 1) := by decide +kernel
theorem dX11_timeOf_110 : decode cX11_timeOf 110 = .ok (.ireturn, 1) := by decide +kernel
theorem dX11_night_0 : decode cX11_night 0 = .ok (.iconst 0, 1) := by decide +kernel
theorem dX11_night_1 : decode cX11_night 1 = .ok (.istore_n 1, 1) := by decide +kernel
theorem dX11_night_2 : decode cX11_night 2 = .ok (.iconst 0, 1) := by decide +kernel
theorem dX11_night_3 : decode cX11_night 3 = .ok (.istore_n 2, 1) := by decide +kernel
theorem dX11_night_4 : decode cX11_night 4 = .ok (.iconst 0, 1) := by decide +kernel
theorem dX11_night_5 : decode cX11_night 5 = .ok (.istore_n 3, 1) := by decide +kernel
theorem dX11_night_6 : decode cX11_night 6 = .ok (.iconst 1, 1) := by decide +kernel
theorem dX11_night_7 : decode cX11_night 7 = .ok (.istore 4, 2) := by decide +kernel
theorem dX11_night_9 : decode cX11_night 9 = .ok (.iload 4, 2) := by decide +kernel
theorem dX11_night_11 : decode cX11_night 11 = .ok (.iconst 1, 1) := by decide +kernel
theorem dX11_night_12 : decode cX11_night 12 = .ok (.aload_n 0, 1) := by decide +kernel
theorem dX11_night_13 : decode cX11_night 13 = .ok (.getfield 238, 3) := by decide +kernel
theorem dX11_night_16 : decode cX11_night 16 = .ok (.ishl, 1) := by decide +kernel
theorem dX11_night_17 : decode cX11_night 17 = .ok (.if_icmp .ge 86, 3) := by decide +kernel
theorem dX11_night_20 : decode cX11_night 20 = .ok (.aload_n 0, 1) := by decide +kernel
theorem dX11_night_21 : decode cX11_night 21 = .ok (.iload 4, 2) := by decide +kernel
theorem dX11_night_23 : decode cX11_night 23 = .ok (.invokevirtual 315, 3) := by decide +kernel
theorem dX11_night_26 : decode cX11_night 26 = .ok (.istore 5, 2) := by decide +kernel
theorem dX11_night_28 : decode cX11_night 28 = .ok (.iconst 0, 1) := by decide +kernel
theorem dX11_night_29 : decode cX11_night 29 = .ok (.istore 6, 2) := by decide +kernel
theorem dX11_night_31 : decode cX11_night 31 = .ok (.iconst 0, 1) := by decide +kernel
theorem dX11_night_32 : decode cX11_night 32 = .ok (.istore 7, 2) := by decide +kernel
theorem dX11_night_34 : decode cX11_night 34 = .ok (.iload 7, 2) := by decide +kernel
theorem dX11_night_36 : decode cX11_night 36 = .ok (.aload_n 0, 1) := by decide +kernel
theorem dX11_night_37 : decode cX11_night 37 = .ok (.getfield 238, 3) := by decide +kernel
theorem dX11_night_40 : decode cX11_night 40 = .ok (.if_icmp .ge 21, 3) := by decide +kernel
theorem dX11_night_43 : decode cX11_night 43 = .ok (.iload 6, 2) := by decide +kernel
theorem dX11_night_45 : decode cX11_night 45 = .ok (.iload 4, 2) := by decide +kernel
theorem dX11_night_47 : decode cX11_night 47 = .ok (.iload 7, 2) := by decide +kernel
theorem dX11_night_49 : decode cX11_night 49 = .ok (.ishr, 1) := by decide +kernel
theorem dX11_night_50 : decode cX11_night 50 = .ok (.iconst 1, 1) := by decide +kernel
theorem dX11_night_51 : decode cX11_night 51 = .ok (.iand, 1) := by decide +kernel
theorem dX11_night_52 : decode cX11_night 52 = .ok (.iadd, 1) := by decide +kernel
theorem dX11_night_53 : decode cX11_night 53 = .ok (.istore 6, 2) := by decide +kernel
theorem dX11_night_55 : decode cX11_night 55 = .ok (.iinc 7 1, 3) := by decide +kernel
theorem dX11_night_58 : decode cX11_night 58 = .ok (.goto (-24), 3) := by decide +kernel
theorem dX11_night_61 : decode cX11_night 61 = .ok (.iload 5, 2) := by decide +kernel
theorem dX11_night_63 : decode cX11_night 63 = .ok (.iconst (-1), 1) := by decide +kernel
theorem dX11_night_64 : decode cX11_night 64 = .ok (.if_icmp .eq 33, 3) := by decide +kernel
theorem dX11_night_67 : decode cX11_night 67 = .ok (.iload 6, 2) := by decide +kernel
theorem dX11_night_69 : decode cX11_night 69 = .ok (.iload_n 2, 1) := by decide +kernel
theorem dX11_night_70 : decode cX11_night 70 = .ok (.if_icmp .lt 27, 3) := by decide +kernel
theorem dX11_night_73 : decode cX11_night 73 = .ok (.iload 6, 2) := by decide +kernel
theorem dX11_night_75 : decode cX11_night 75 = .ok (.iload_n 2, 1) := by decide +kernel
theorem dX11_night_76 : decode cX11_night 76 = .ok (.if_icmp .ne 12, 3) := by decide +kernel
theorem dX11_night_79 : decode cX11_night 79 = .ok (.iload 5, 2) := by decide +kernel
theorem dX11_night_81 : decode cX11_night 81 = .ok (.iload_n 3, 1) := by decide +kernel
theorem dX11_night_82 : decode cX11_night 82 = .ok (.if_icmp .lt 6, 3) := by decide +kernel
theorem dX11_night_85 : decode cX11_night 85 = .ok (.goto 12, 3) := by decide +kernel
theorem dX11_night_88 : decode cX11_night 88 = .ok (.iload 4, 2) := by decide +kernel
theorem dX11_night_90 : decode cX11_night 90 = .ok (.istore_n 1, 1) := by decide +kernel
theorem dX11_night_91 : decode cX11_night 91 = .ok (.iload 6, 2) := by decide +kernel
theorem dX11_night_93 : decode cX11_night 93 = .ok (.istore_n 2, 1) := by decide +kernel
theorem dX11_night_94 : decode cX11_night 94 = .ok (.iload 5, 2) := by decide +kernel
theorem dX11_night_96 : decode cX11_night 96 = .ok (.istore_n 3, 1) := by decide +kernel
theorem dX11_night_97 : decode cX11_night 97 = .ok (.iinc 4 1, 3) := by decide +kernel
theorem dX11_night_100 : decode cX11_night 100 = .ok (.goto (-91), 3) := by decide +kernel
theorem dX11_night_103 : decode cX11_night 103 = .ok (.iload_n 1, 1) := by decide +kernel
theorem dX11_night_104 : decode cX11_night 104 = .ok (.ireturn, 1) := by decide +kernel
