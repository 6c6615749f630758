theorem d_Exchange_isInRing_0 : decode b_Exchange_isInRing 0 = .ok (.aload_n 0, 1) := by decide +kernel
theorem d_Exchange_isInRing_1 : decode b_Exchange_isInRing 1 = .ok (.getfield 21, 3) := by decide +kernel
theorem d_Exchange_isInRing_4 : decode b_Exchange_isInRing 4 = .ok (.iload_n 1, 1) := by decide +kernel
theorem d_Exchange_isInRing_5 : decode b_Exchange_isInRing 5 = .ok (.iaload, 1) := by decide +kernel
theorem d_Exchange_isInRing_6 : decode b_Exchange_isInRing 6 = .ok (.istore_n 2, 1) := by decide +kernel
theorem d_Exchange_isInRing_7 : decode b_Exchange_isInRing 7 = .ok (.iconst 0, 1) := by decide +kernel
theorem d_Exchange_isInRing_8 : decode b_Exchange_isInRing 8 = .ok (.istore_n 3, 1) := by decide +kernel
theorem d_Exchange_isInRing_9 : decode b_Exchange_isInRing 9 = .ok (.iload_n 3, 1) := by decide +kernel
theorem d_Exchange_isInRing_10 : decode b_Exchange_isInRing 10 = .ok (.bipush 24, 2) := by decide +kernel
theorem d_Exchange_isInRing_12 : decode b_Exchange_isInRing 12 = .ok (.if_icmp .ge 26, 3) := by decide +kernel
theorem d_Exchange_isInRing_15 : decode b_Exchange_isInRing 15 = .ok (.iload_n 2, 1) := by decide +kernel
theorem d_Exchange_isInRing_16 : decode b_Exchange_isInRing 16 = .ok (.iconst (-1), 1) := by decide +kernel
theorem d_Exchange_isInRing_17 : decode b_Exchange_isInRing 17 = .ok (.if_icmp .eq 21, 3) := by decide +kernel
theorem d_Exchange_isInRing_20 : decode b_Exchange_isInRing 20 = .ok (.iload_n 2, 1) := by decide +kernel
theorem d_Exchange_isInRing_21 : decode b_Exchange_isInRing 21 = .ok (.iload_n 1, 1) := by decide +kernel
theorem d_Exchange_isInRing_22 : decode b_Exchange_isInRing 22 = .ok (.if_icmp .eq 16, 3) := by decide +kernel
theorem d_Exchange_isInRing_25 : decode b_Exchange_isInRing 25 = .ok (.aload_n 0, 1) := by decide +kernel
theorem d_Exchange_isInRing_26 : decode b_Exchange_isInRing 26 = .ok (.getfield 21, 3) := by decide +kernel
theorem d_Exchange_isInRing_29 : decode b_Exchange_isInRing 29 = .ok (.iload_n 2, 1) := by decide +kernel
theorem d_Exchange_isInRing_30 : decode b_Exchange_isInRing 30 = .ok (.iaload, 1) := by decide +kernel
theorem d_Exchange_isInRing_31 : decode b_Exchange_isInRing 31 = .ok (.istore_n 2, 1) := by decide +kernel
theorem d_Exchange_isInRing_32 : decode b_Exchange_isInRing 32 = .ok (.iinc 3 1, 3) := by decide +kernel
theorem d_Exchange_isInRing_35 : decode b_Exchange_isInRing 35 = .ok (.goto (-26), 3) := by decide +kernel
theorem d_Exchange_isInRing_38 : decode b_Exchange_isInRing 38 = .ok (.iload_n 2, 1) := by decide +kernel
theorem d_Exchange_isInRing_39 : decode b_Exchange_isInRing 39 = .ok (.iload_n 1, 1) := by decide +kernel
theorem d_Exchange_isInRing_40 : decode b_Exchange_isInRing 40 = .ok (.if_icmp .ne 7, 3) := by decide +kernel
theorem d_Exchange_isInRing_43 : decode b_Exchange_isInRing 43 = .ok (.iconst 1, 1) := by decide +kernel
theorem d_Exchange_isInRing_44 : decode b_Exchange_isInRing 44 = .ok (.goto 4, 3) := by decide +kernel
theorem d_Exchange_isInRing_47 : decode b_Exchange_isInRing 47 = .ok (.iconst 0, 1) := by decide +kernel
theorem d_Exchange_isInRing_48 : decode b_Exchange_isInRing 48 = .ok (.ireturn, 1) := by decide +kernel
theorem d_Chan_got_0 : decode b_Chan_got 0 = .ok (.aload_n 0, 1) := by decide +kernel
theorem d_Chan_got_1 : decode b_Chan_got 1 = .ok (.getfield 28, 3) := by decide +kernel
theorem d_Chan_got_4 : decode b_Chan_got 4 = .ok (.iload_n 1, 1) := by decide +kernel
theorem d_Chan_got_5 : decode b_Chan_got 5 = .ok (.invokevirtual 116, 3) := by decide +kernel
theorem d_Chan_got_8 : decode b_Chan_got 8 = .ok (.ifCond .eq 15, 3) := by decide +kernel
theorem d_Chan_got_11 : decode b_Chan_got 11 = .ok (.aload_n 0, 1) := by decide +kernel
theorem d_Chan_got_12 : decode b_Chan_got 12 = .ok (.getfield 74, 3) := by decide +kernel
theorem d_Chan_got_15 : decode b_Chan_got 15 = .ok (.getfield 254, 3) := by decide +kernel
theorem d_Chan_got_18 : decode b_Chan_got 18 = .ok (.iload_n 1, 1) := by decide +kernel
theorem d_Chan_got_19 : decode b_Chan_got 19 = .ok (.iaload, 1) := by decide +kernel
theorem d_Chan_got_20 : decode b_Chan_got 20 = .ok (.goto 4, 3) := by decide +kernel
theorem d_Chan_got_23 : decode b_Chan_got 23 = .ok (.iconst (-1), 1) := by decide +kernel
theorem d_Chan_got_24 : decode b_Chan_got 24 = .ok (.ireturn, 1) := by decide +kernel
theorem d_Md_init_0 : decode b_Md_init 0 = .ok (.aload_n 0, 1) := by decide +kernel
theorem d_Md_init_1 : decode b_Md_init 1 = .ok (.invokespecial 1, 3) := by decide +kernel
theorem d_Md_init_4 : decode b_Md_init 4 = .ok (.aload_n 0, 1) := by decide +kernel
theorem d_Md_init_5 : decode b_Md_init 5 = .ok (.sipush 400, 3) := by decide +kernel
theorem d_Md_init_8 : decode b_Md_init 8 = .ok (.newarray .int, 2) := by decide +kernel
theorem d_Md_init_10 : decode b_Md_init 10 = .ok (.putfield 7, 3) := by decide +kernel
theorem d_Md_init_13 : decode b_Md_init 13 = .ok (.aload_n 0, 1) := by decide +kernel
theorem d_Md_init_14 : decode b_Md_init 14 = .ok (.iconst 0, 1) := by decide +kernel
theorem d_Md_init_15 : decode b_Md_init 15 = .ok (.putfield 13, 3) := by decide +kernel
theorem d_Md_init_18 : decode b_Md_init 18 = .ok (.aload_n 0, 1) := by decide +kernel
theorem d_Md_init_19 : decode b_Md_init 19 = .ok (.iconst 0, 1) := by decide +kernel
theorem d_Md_init_20 : decode b_Md_init 20 = .ok (.putfield 17, 3) := by decide +kernel
theorem d_Md_init_23 : decode b_Md_init 23 = .ok (.aload_n 0, 1) := by decide +kernel
theorem d_Md_init_24 : decode b_Md_init 24 = .ok (.bipush 72, 2) := by decide +kernel
theorem d_Md_init_26 : decode b_Md_init 26 = .ok (.newarray .int, 2) := by decide +kernel
theorem d_Md_init_28 : decode b_Md_init 28 = .ok (.putfield 20, 3) := by decide +kernel
theorem d_Md_init_31 : decode b_Md_init 31 = .ok (.aload_n 0, 1) := by decide +kernel
theorem d_Md_init_32 : decode b_Md_init 32 = .ok (.iconst 0, 1) := by decide +kernel
theorem d_Md_init_33 : decode b_Md_init 33 = .ok (.putfield 23, 3) := by decide +kernel
theorem d_Md_init_36 : decode b_Md_init 36 = .ok (.aload_n 0, 1) := by decide +kernel
theorem d_Md_init_37 : decode b_Md_init 37 = .ok (.bipush 48, 2) := by decide +kernel
theorem d_Md_init_39 : decode b_Md_init 39 = .ok (.newarray .int, 2) := by decide +kernel
theorem d_Md_init_41 : decode b_Md_init 41 = .ok (.putfield 26, 3) := by decide +kernel
theorem d_Md_init_44 : decode b_Md_init 44 = .ok (.aload_n 0, 1) := by decide +kernel
theorem d_Md_init_45 : decode b_Md_init 45 = .ok (.iconst 0, 1) := by decide +kernel
theorem d_Md_init_46 : decode b_Md_init 46 = .ok (.putfield 29, 3) := by decide +kernel
theorem d_Md_init_49 : decode b_Md_init 49 = .ok (.aload_n 0, 1) := by decide +kernel
theorem d_Md_init_50 : decode b_Md_init 50 = .ok (.sipush 161, 3) := by decide +kernel
theorem d_Md_init_53 : decode b_Md_init 53 = .ok (.newarray .int, 2) := by decide +kernel
theorem d_Md_init_55 : decode b_Md_init 55 = .ok (.putfield 32, 3) := by decide +kernel
theorem d_Md_init_58 : decode b_Md_init 58 = .ok (.aload_n 0, 1) := by decide +kernel
theorem d_Md_init_59 : decode b_Md_init 59 = .ok (.sipush 161, 3) := by decide +kernel
theorem d_Md_init_62 : decode b_Md_init 62 = .ok (.newarray .int, 2) := by decide +kernel
theorem d_Md_init_64 : decode b_Md_init 64 = .ok (.putfield 35, 3) := by decide +kernel
theorem d_Md_init_67 : decode b_Md_init 67 = .ok (.aload_n 0, 1) := by decide +kernel
theorem d_Md_init_68 : decode b_Md_init 68 = .ok (.sipush 161, 3) := by decide +kernel
theorem d_Md_init_71 : decode b_Md_init 71 = .ok (.newarray .int, 2) := by decide +kernel
theorem d_Md_init_73 : decode b_Md_init 73 = .ok (.putfield 38, 3) := by decide +kernel
theorem d_Md_init_76 : decode b_Md_init 76 = .ok (.aload_n 0, 1) := by decide +kernel
theorem d_Md_init_77 : decode b_Md_init 77 = .ok (.sipush 161, 3) := by decide +kernel
theorem d_Md_init_80 : decode b_Md_init 80 = .ok (.newarray .int, 2) := by decide +kernel
theorem d_Md_init_82 : decode b_Md_init 82 = .ok (.putfield 41, 3) := by decide +kernel
theorem d_Md_init_85 : decode b_Md_init 85 = .ok (.aload_n 0, 1) := by decide +kernel
theorem d_Md_init_86 : decode b_Md_init 86 = .ok (.iconst 0, 1) := by decide +kernel
theorem d_Md_init_87 : decode b_Md_init 87 = .ok (.putfield 44, 3) := by decide +kernel
theorem d_Md_init_90 : decode b_Md_init 90 = .ok (.aload_n 0, 1) := by decide +kernel
theorem d_Md_init_91 : decode b_Md_init 91 = .ok (.sipush 336, 3) := by decide +kernel
theorem d_Md_init_94 : decode b_Md_init 94 = .ok (.newarray .int, 2) := by decide +kernel
theorem d_Md_init_96 : decode b_Md_init 96 = .ok (.putfield 47, 3) := by decide +kernel
theorem d_Md_init_99 : decode b_Md_init 99 = .ok (.aload_n 0, 1) := by decide +kernel
theorem d_Md_init_100 : decode b_Md_init 100 = .ok (.bipush 48, 2) := by decide +kernel
theorem d_Md_init_102 : decode b_Md_init 102 = .ok (.newarray .int, 2) := by decide +kernel
theorem d_Md_init_104 : decode b_Md_init 104 = .ok (.putfield 50, 3) := by decide +kernel
theorem d_Md_init_107 : decode b_Md_init 107 = .ok (.aload_n 0, 1) := by decide +kernel
theorem d_Md_init_108 : decode b_Md_init 108 = .ok (.iconst (-1), 1) := by decide +kernel
theorem d_Md_init_109 : decode b_Md_init 109 = .ok (.putfield 53, 3) := by decide +kernel
theorem d_Md_init_112 : decode b_Md_init 112 = .ok (.aload_n 0, 1) := by decide +kernel
theorem d_Md_init_113 : decode b_Md_init 113 = .ok (.iconst 0, 1) := by decide +kernel
theorem d_Md_init_114 : decode b_Md_init 114 = .ok (.putfield 56, 3) := by decide +kernel
theorem d_Md_init_117 : decode b_Md_init 117 = .ok (.aload_n 0, 1) := by decide +kernel
theorem d_Md_init_118 : decode b_Md_init 118 = .ok (.bipush 6, 2) := by decide +kernel
theorem d_Md_init_120 : decode b_Md_init 120 = .ok (.newarray .int, 2) := by decide +kernel
theorem d_Md_init_122 : decode b_Md_init 122 = .ok (.putfield 59, 3) := by decide +kernel
theorem d_Md_init_125 : decode b_Md_init 125 = .ok (.aload_n 0, 1) := by decide +kernel
theorem d_Md_init_126 : decode b_Md_init 126 = .ok (.bipush 6, 2) := by decide +kernel
theorem d_Md_init_128 : decode b_Md_init 128 = .ok (.newarray .int, 2) := by decide +kernel
theorem d_Md_init_130 : decode b_Md_init 130 = .ok (.putfield 62, 3) := by decide +kernel
theorem d_Md_init_133 : decode b_Md_init 133 = .ok (.aload_n 0, 1) := by decide +kernel
theorem d_Md_init_134 : decode b_Md_init 134 = .ok (.bipush 6, 2) := by decide +kernel
theorem d_Md_init_136 : decode b_Md_init 136 = .ok (.newarray .int, 2) := by decide +kernel
theorem d_Md_init_138 : decode b_Md_init 138 = .ok (.putfield 65, 3) := by decide +kernel
theorem d_Md_init_141 : decode b_Md_init 141 = .ok (.aload_n 0, 1) := by decide +kernel
theorem d_Md_init_142 : decode b_Md_init 142 = .ok (.sipush 3600, 3) := by decide +kernel
theorem d_Md_init_145 : decode b_Md_init 145 = .ok (.newarray .int, 2) := by decide +kernel
theorem d_Md_init_147 : decode b_Md_init 147 = .ok (.putfield 68, 3) := by decide +kernel
theorem d_Md_init_150 : decode b_Md_init 150 = .ok (.aload_n 0, 1) := by decide +kernel
theorem d_Md_init_151 : decode b_Md_init 151 = .ok (.sipush 600, 3) := by decide +kernel
theorem d_Md_init_154 : decode b_Md_init 154 = .ok (.newarray .int, 2) := by decide +kernel
theorem d_Md_init_156 : decode b_Md_init 156 = .ok (.putfield 71, 3) := by decide +kernel
theorem d_Md_init_159 : decode b_Md_init 159 = .ok (.aload_n 0, 1) := by decide +kernel
theorem d_Md_init_160 : decode b_Md_init 160 = .ok (.iconst 0, 1) := by decide +kernel
theorem d_Md_init_161 : decode b_Md_init 161 = .ok (.putfield 74, 3) := by decide +kernel
theorem d_Md_init_164 : decode b_Md_init 164 = .ok (.aload_n 0, 1) := by decide +kernel
theorem d_Md_init_165 : decode b_Md_init 165 = .ok (.iconst 0, 1) := by decide +kernel
theorem d_Md_init_166 : decode b_Md_init 166 = .ok (.putfield 77, 3) := by decide +kernel
theorem d_Md_init_169 : decode b_Md_init 169 = .ok (.aload_n 0, 1) := by decide +kernel
theorem d_Md_init_170 : decode b_Md_init 170 = .ok (.iconst 0, 1) := by decide +kernel
theorem d_Md_init_171 : decode b_Md_init 171 = .ok (.putfield 80, 3) := by decide +kernel
theorem d_Md_init_174 : decode b_Md_init 174 = .ok (.aload_n 0, 1) := by decide +kernel
theorem d_Md_init_175 : decode b_Md_init 175 = .ok (.iconst 0, 1) := by decide +kernel
theorem d_Md_init_176 : decode b_Md_init 176 = .ok (.putfield 83, 3) := by decide +kernel
theorem d_Md_init_179 : decode b_Md_init 179 = .ok (.aload_n 0, 1) := by decide +kernel
theorem d_Md_init_180 : decode b_Md_init 180 = .ok (.iconst (-1), 1) := by decide +kernel
theorem d_Md_init_181 : decode b_Md_init 181 = .ok (.putfield 86, 3) := by decide +kernel
theorem d_Md_init_184 : decode b_Md_init 184 = .ok (.aload_n 0, 1) := by decide +kernel
theorem d_Md_init_185 : decode b_Md_init 185 = .ok (.bipush 16, 2) := by decide +kernel
theorem d_Md_init_187 : decode b_Md_init 187 = .ok (.newarray .int, 2) := by decide +kernel
theorem d_Md_init_189 : decode b_Md_init 189 = .ok (.putfield 89, 3) := by decide +kernel
theorem d_Md_init_192 : decode b_Md_init 192 = .ok (.aload_n 0, 1) := by decide +kernel
theorem d_Md_init_193 : decode b_Md_init 193 = .ok (.bipush 16, 2) := by decide +kernel
theorem d_Md_init_195 : decode b_Md_init 195 = .ok (.newarray .int, 2) := by decide +kernel
theorem d_Md_init_197 : decode b_Md_init 197 = .ok (.putfield 92, 3) := by decide +kernel
theorem d_Md_init_200 : decode b_Md_init 200 = .ok (.aload_n 0, 1) := by decide +kernel
theorem d_Md_init_201 : decode b_Md_init 201 = .ok (.bipush 24, 2) := by decide +kernel
theorem d_Md_init_203 : decode b_Md_init 203 = .ok (.newarray .boolean, 2) := by decide +kernel
theorem d_Md_init_205 : decode b_Md_init 205 = .ok (.putfield 95, 3) := by decide +kernel
theorem d_Md_init_208 : decode b_Md_init 208 = .ok (.aload_n 0, 1) := by decide +kernel
theorem d_Md_init_209 : decode b_Md_init 209 = .ok (.bipush 48, 2) := by decide +kernel
theorem d_Md_init_211 : decode b_Md_init 211 = .ok (.newarray .boolean, 2) := by decide +kernel
theorem d_Md_init_213 : decode b_Md_init 213 = .ok (.putfield 99, 3) := by decide +kernel
theorem d_Md_init_216 : decode b_Md_init 216 = .ok (.aload_n 0, 1) := by decide +kernel
theorem d_Md_init_217 : decode b_Md_init 217 = .ok (.bipush 48, 2) := by decide +kernel
theorem d_Md_init_219 : decode b_Md_init 219 = .ok (.newarray .int, 2) := by decide +kernel
theorem d_Md_init_221 : decode b_Md_init 221 = .ok (.putfield 102, 3) := by decide +kernel
theorem d_Md_init_224 : decode b_Md_init 224 = .ok (.aload_n 0, 1) := by decide +kernel
theorem d_Md_init_225 : decode b_Md_init 225 = .ok (.bipush 48, 2) := by decide +kernel
theorem d_Md_init_227 : decode b_Md_init 227 = .ok (.newarray .int, 2) := by decide +kernel
theorem d_Md_init_229 : decode b_Md_init 229 = .ok (.putfield 105, 3) := by decide +kernel
theorem d_Md_init_232 : decode b_Md_init 232 = .ok (.aload_n 0, 1) := by decide +kernel
theorem d_Md_init_233 : decode b_Md_init 233 = .ok (.bipush 24, 2) := by decide +kernel
theorem d_Md_init_235 : decode b_Md_init 235 = .ok (.newarray .long, 2) := by decide +kernel
theorem d_Md_init_237 : decode b_Md_init 237 = .ok (.putfield 108, 3) := by decide +kernel
theorem d_Md_init_240 : decode b_Md_init 240 = .ok (.aload_n 0, 1) := by decide +kernel
theorem d_Md_init_241 : decode b_Md_init 241 = .ok (.sipush 161, 3) := by decide +kernel
theorem d_Md_init_244 : decode b_Md_init 244 = .ok (.newarray .boolean, 2) := by decide +kernel
theorem d_Md_init_246 : decode b_Md_init 246 = .ok (.putfield 112, 3) := by decide +kernel
theorem d_Md_init_249 : decode b_Md_init 249 = .ok (.aload_n 0, 1) := by decide +kernel
theorem d_Md_init_250 : decode b_Md_init 250 = .ok (.bipush 48, 2) := by decide +kernel
theorem d_Md_init_252 : decode b_Md_init 252 = .ok (.newarray .int, 2) := by decide +kernel
theorem d_Md_init_254 : decode b_Md_init 254 = .ok (.putfield 115, 3) := by decide +kernel
theorem d_Md_init_257 : decode b_Md_init 257 = .ok (.aload_n 0, 1) := by decide +kernel
theorem d_Md_init_258 : decode b_Md_init 258 = .ok (.iconst 0, 1) := by decide +kernel
theorem d_Md_init_259 : decode b_Md_init 259 = .ok (.putfield 118, 3) := by decide +kernel
theorem d_Md_init_262 : decode b_Md_init 262 = .ok (.aload_n 0, 1) := by decide +kernel
theorem d_Md_init_263 : decode b_Md_init 263 = .ok (.bipush 72, 2) := by decide +kernel
theorem d_Md_init_265 : decode b_Md_init 265 = .ok (.newarray .int, 2) := by decide +kernel
theorem d_Md_init_267 : decode b_Md_init 267 = .ok (.putfield 121, 3) := by decide +kernel
theorem d_Md_init_270 : decode b_Md_init 270 = .ok (.aload_n 0, 1) := by decide +kernel
theorem d_Md_init_271 : decode b_Md_init 271 = .ok (.bipush 24, 2) := by decide +kernel
theorem d_Md_init_273 : decode b_Md_init 273 = .ok (.newarray .int, 2) := by decide +kernel
theorem d_Md_init_275 : decode b_Md_init 275 = .ok (.putfield 124, 3) := by decide +kernel
theorem d_Md_init_278 : decode b_Md_init 278 = .ok (.aload_n 0, 1) := by decide +kernel
theorem d_Md_init_279 : decode b_Md_init 279 = .ok (.bipush 24, 2) := by decide +kernel
theorem d_Md_init_281 : decode b_Md_init 281 = .ok (.newarray .int, 2) := by decide +kernel
theorem d_Md_init_283 : decode b_Md_init 283 = .ok (.putfield 127, 3) := by decide +kernel
theorem d_Md_init_286 : decode b_Md_init 286 = .ok (.aload_n 0, 1) := by decide +kernel
theorem d_Md_init_287 : decode b_Md_init 287 = .ok (.bipush 24, 2) := by decide +kernel
theorem d_Md_init_289 : decode b_Md_init 289 = .ok (.newarray .boolean, 2) := by decide +kernel
theorem d_Md_init_291 : decode b_Md_init 291 = .ok (.putfield 130, 3) := by decide +kernel
theorem d_Md_init_294 : decode b_Md_init 294 = .ok (.aload_n 0, 1) := by decide +kernel
theorem d_Md_init_295 : decode b_Md_init 295 = .ok (.bipush 24, 2) := by decide +kernel
theorem d_Md_init_297 : decode b_Md_init 297 = .ok (.newarray .int, 2) := by decide +kernel
theorem d_Md_init_299 : decode b_Md_init 299 = .ok (.putfield 133, 3) := by decide +kernel
theorem d_Md_init_302 : decode b_Md_init 302 = .ok (.aload_n 0, 1) := by decide +kernel
theorem d_Md_init_303 : decode b_Md_init 303 = .ok (.iconst 0, 1) := by decide +kernel
theorem d_Md_init_304 : decode b_Md_init 304 = .ok (.putfield 136, 3) := by decide +kernel
theorem d_Md_init_307 : decode b_Md_init 307 = .ok (.aload_n 0, 1) := by decide +kernel
theorem d_Md_init_308 : decode b_Md_init 308 = .ok (.iconst 0, 1) := by decide +kernel
theorem d_Md_init_309 : decode b_Md_init 309 = .ok (.putfield 140, 3) := by decide +kernel
theorem d_Md_init_312 : decode b_Md_init 312 = .ok (.return_, 1) := by decide +kernel
theorem d_Md_feed_0 : decode b_Md_feed 0 = .ok (.aload_n 0, 1) := by decide +kernel
theorem d_Md_feed_1 : decode b_Md_feed 1 = .ok (.getfield 13, 3) := by decide +kernel
theorem d_Md_feed_4 : decode b_Md_feed 4 = .ok (.bipush 20, 2) := by decide +kernel
theorem d_Md_feed_6 : decode b_Md_feed 6 = .ok (.iadd, 1) := by decide +kernel
theorem d_Md_feed_7 : decode b_Md_feed 7 = .ok (.sipush 400, 3) := by decide +kernel
theorem d_Md_feed_10 : decode b_Md_feed 10 = .ok (.if_icmp .le 5, 3) := by decide +kernel
theorem d_Md_feed_13 : decode b_Md_feed 13 = .ok (.iconst (-1), 1) := by decide +kernel
theorem d_Md_feed_14 : decode b_Md_feed 14 = .ok (.ireturn, 1) := by decide +kernel
theorem d_Md_feed_15 : decode b_Md_feed 15 = .ok (.aload_n 0, 1) := by decide +kernel
theorem d_Md_feed_16 : decode b_Md_feed 16 = .ok (.iload_n 1, 1) := by decide +kernel
theorem d_Md_feed_17 : decode b_Md_feed 17 = .ok (.invokevirtual 143, 3) := by decide +kernel
theorem d_Md_feed_20 : decode b_Md_feed 20 = .ok (.aload_n 0, 1) := by decide +kernel
theorem d_Md_feed_21 : decode b_Md_feed 21 = .ok (.iload_n 2, 1) := by decide +kernel
theorem d_Md_feed_22 : decode b_Md_feed 22 = .ok (.invokevirtual 143, 3) := by decide +kernel
theorem d_Md_feed_25 : decode b_Md_feed 25 = .ok (.aload_n 0, 1) := by decide +kernel
theorem d_Md_feed_26 : decode b_Md_feed 26 = .ok (.iload_n 3, 1) := by decide +kernel
theorem d_Md_feed_27 : decode b_Md_feed 27 = .ok (.invokevirtual 143, 3) := by decide +kernel
theorem d_Md_feed_30 : decode b_Md_feed 30 = .ok (.aload_n 0, 1) := by decide +kernel
theorem d_Md_feed_31 : decode b_Md_feed 31 = .ok (.iload 4, 2) := by decide +kernel
theorem d_Md_feed_33 : decode b_Md_feed 33 = .ok (.invokevirtual 143, 3) := by decide +kernel
theorem d_Md_feed_36 : decode b_Md_feed 36 = .ok (.aload_n 0, 1) := by decide +kernel
theorem d_Md_feed_37 : decode b_Md_feed 37 = .ok (.iload 5, 2) := by decide +kernel
theorem d_Md_feed_39 : decode b_Md_feed 39 = .ok (.invokevirtual 143, 3) := by decide +kernel
theorem d_Md_feed_42 : decode b_Md_feed 42 = .ok (.aload_n 0, 1) := by decide +kernel
theorem d_Md_feed_43 : decode b_Md_feed 43 = .ok (.getfield 13, 3) := by decide +kernel
theorem d_Md_feed_46 : decode b_Md_feed 46 = .ok (.ireturn, 1) := by decide +kernel
theorem d_Md_put_0 : decode b_Md_put 0 = .ok (.bipush 24, 2) := by decide +kernel
theorem d_Md_put_2 : decode b_Md_put 2 = .ok (.istore_n 2, 1) := by decide +kernel
theorem d_Md_put_3 : decode b_Md_put 3 = .ok (.iload_n 2, 1) := by decide +kernel
theorem d_Md_put_4 : decode b_Md_put 4 = .ok (.ifCond .lt 35, 3) := by decide +kernel
theorem d_Md_put_7 : decode b_Md_put 7 = .ok (.aload_n 0, 1) := by decide +kernel
theorem d_Md_put_8 : decode b_Md_put 8 = .ok (.getfield 7, 3) := by decide +kernel
theorem d_Md_put_11 : decode b_Md_put 11 = .ok (.aload_n 0, 1) := by decide +kernel
theorem d_Md_put_12 : decode b_Md_put 12 = .ok (.getfield 13, 3) := by decide +kernel
theorem d_Md_put_15 : decode b_Md_put 15 = .ok (.iload_n 1, 1) := by decide +kernel
theorem d_Md_put_16 : decode b_Md_put 16 = .ok (.iload_n 2, 1) := by decide +kernel
theorem d_Md_put_17 : decode b_Md_put 17 = .ok (.ishr, 1) := by decide +kernel
theorem d_Md_put_18 : decode b_Md_put 18 = .ok (.sipush 255, 3) := by decide +kernel
theorem d_Md_put_21 : decode b_Md_put 21 = .ok (.iand, 1) := by decide +kernel
theorem d_Md_put_22 : decode b_Md_put 22 = .ok (.iastore, 1) := by decide +kernel
theorem d_Md_put_23 : decode b_Md_put 23 = .ok (.aload_n 0, 1) := by decide +kernel
theorem d_Md_put_24 : decode b_Md_put 24 = .ok (.dup, 1) := by decide +kernel
theorem d_Md_put_25 : decode b_Md_put 25 = .ok (.getfield 13, 3) := by decide +kernel
theorem d_Md_put_28 : decode b_Md_put 28 = .ok (.iconst 1, 1) := by decide +kernel
theorem d_Md_put_29 : decode b_Md_put 29 = .ok (.iadd, 1) := by decide +kernel
theorem d_Md_put_30 : decode b_Md_put 30 = .ok (.putfield 13, 3) := by decide +kernel
theorem d_Md_put_33 : decode b_Md_put 33 = .ok (.iinc 2 (-8), 3) := by decide +kernel
theorem d_Md_put_36 : decode b_Md_put 36 = .ok (.goto (-33), 3) := by decide +kernel
theorem d_Md_put_39 : decode b_Md_put 39 = .ok (.return_, 1) := by decide +kernel
theorem d_Md_end_0 : decode b_Md_end 0 = .ok (.iload_n 1, 1) := by decide +kernel
theorem d_Md_end_1 : decode b_Md_end 1 = .ok (.ifCond .lt 11, 3) := by decide +kernel
theorem d_Md_end_4 : decode b_Md_end 4 = .ok (.iload_n 1, 1) := by decide +kernel
theorem d_Md_end_5 : decode b_Md_end 5 = .ok (.aload_n 0, 1) := by decide +kernel
theorem d_Md_end_6 : decode b_Md_end 6 = .ok (.getfield 13, 3) := by decide +kernel
theorem d_Md_end_9 : decode b_Md_end 9 = .ok (.if_icmp .le 5, 3) := by decide +kernel
theorem d_Md_end_12 : decode b_Md_end 12 = .ok (.iconst 0, 1) := by decide +kernel
theorem d_Md_end_13 : decode b_Md_end 13 = .ok (.ireturn, 1) := by decide +kernel
theorem d_Md_end_14 : decode b_Md_end 14 = .ok (.aload_n 0, 1) := by decide +kernel
theorem d_Md_end_15 : decode b_Md_end 15 = .ok (.iload_n 1, 1) := by decide +kernel
theorem d_Md_end_16 : decode b_Md_end 16 = .ok (.putfield 13, 3) := by decide +kernel
theorem d_Md_end_19 : decode b_Md_end 19 = .ok (.iconst 1, 1) := by decide +kernel
theorem d_Md_end_20 : decode b_Md_end 20 = .ok (.ireturn, 1) := by decide +kernel
theorem d_Md_person_0 : decode b_Md_person 0 = .ok (.iload_n 1, 1) := by decide +kernel
theorem d_Md_person_1 : decode b_Md_person 1 = .ok (.iconst 0, 1) := by decide +kernel
theorem d_Md_person_2 : decode b_Md_person 2 = .ok (.bipush 9, 2) := by decide +kernel
theorem d_Md_person_4 : decode b_Md_person 4 = .ok (.invokestatic 147, 3) := by decide +kernel
theorem d_Md_person_7 : decode b_Md_person 7 = .ok (.ifCond .eq 32, 3) := by decide +kernel
theorem d_Md_person_10 : decode b_Md_person 10 = .ok (.iload_n 2, 1) := by decide +kernel
theorem d_Md_person_11 : decode b_Md_person 11 = .ok (.iconst 0, 1) := by decide +kernel
theorem d_Md_person_12 : decode b_Md_person 12 = .ok (.bipush 9, 2) := by decide +kernel
theorem d_Md_person_14 : decode b_Md_person 14 = .ok (.invokestatic 147, 3) := by decide +kernel
theorem d_Md_person_17 : decode b_Md_person 17 = .ok (.ifCond .eq 22, 3) := by decide +kernel
theorem d_Md_person_20 : decode b_Md_person 20 = .ok (.iload_n 3, 1) := by decide +kernel
theorem d_Md_person_21 : decode b_Md_person 21 = .ok (.iconst 0, 1) := by decide +kernel
theorem d_Md_person_22 : decode b_Md_person 22 = .ok (.bipush 7, 2) := by decide +kernel
theorem d_Md_person_24 : decode b_Md_person 24 = .ok (.invokestatic 147, 3) := by decide +kernel
theorem d_Md_person_27 : decode b_Md_person 27 = .ok (.ifCond .eq 12, 3) := by decide +kernel
theorem d_Md_person_30 : decode b_Md_person 30 = .ok (.aload_n 0, 1) := by decide +kernel
theorem d_Md_person_31 : decode b_Md_person 31 = .ok (.getfield 17, 3) := by decide +kernel
theorem d_Md_person_34 : decode b_Md_person 34 = .ok (.bipush 24, 2) := by decide +kernel
theorem d_Md_person_36 : decode b_Md_person 36 = .ok (.if_icmp .ne 5, 3) := by decide +kernel
theorem d_Md_person_39 : decode b_Md_person 39 = .ok (.iconst (-1), 1) := by decide +kernel
theorem d_Md_person_40 : decode b_Md_person 40 = .ok (.ireturn, 1) := by decide +kernel
theorem d_Md_person_41 : decode b_Md_person 41 = .ok (.aload_n 0, 1) := by decide +kernel
theorem d_Md_person_42 : decode b_Md_person 42 = .ok (.getfield 20, 3) := by decide +kernel
theorem d_Md_person_45 : decode b_Md_person 45 = .ok (.iconst 3, 1) := by decide +kernel
theorem d_Md_person_46 : decode b_Md_person 46 = .ok (.aload_n 0, 1) := by decide +kernel
theorem d_Md_person_47 : decode b_Md_person 47 = .ok (.getfield 17, 3) := by decide +kernel
theorem d_Md_person_50 : decode b_Md_person 50 = .ok (.imul, 1) := by decide +kernel
theorem d_Md_person_51 : decode b_Md_person 51 = .ok (.iload_n 1, 1) := by decide +kernel
theorem d_Md_person_52 : decode b_Md_person 52 = .ok (.iastore, 1) := by decide +kernel
theorem d_Md_person_53 : decode b_Md_person 53 = .ok (.aload_n 0, 1) := by decide +kernel
theorem d_Md_person_54 : decode b_Md_person 54 = .ok (.getfield 20, 3) := by decide +kernel
theorem d_Md_person_57 : decode b_Md_person 57 = .ok (.iconst 3, 1) := by decide +kernel
theorem d_Md_person_58 : decode b_Md_person 58 = .ok (.aload_n 0, 1) := by decide +kernel
theorem d_Md_person_59 : decode b_Md_person 59 = .ok (.getfield 17, 3) := by decide +kernel
theorem d_Md_person_62 : decode b_Md_person 62 = .ok (.imul, 1) := by decide +kernel
theorem d_Md_person_63 : decode b_Md_person 63 = .ok (.iconst 1, 1) := by decide +kernel
theorem d_Md_person_64 : decode b_Md_person 64 = .ok (.iadd, 1) := by decide +kernel
theorem d_Md_person_65 : decode b_Md_person 65 = .ok (.iload_n 2, 1) := by decide +kernel
theorem d_Md_person_66 : decode b_Md_person 66 = .ok (.iastore, 1) := by decide +kernel
theorem d_Md_person_67 : decode b_Md_person 67 = .ok (.aload_n 0, 1) := by decide +kernel
theorem d_Md_person_68 : decode b_Md_person 68 = .ok (.getfield 20, 3) := by decide +kernel
theorem d_Md_person_71 : decode b_Md_person 71 = .ok (.iconst 3, 1) := by decide +kernel
theorem d_Md_person_72 : decode b_Md_person 72 = .ok (.aload_n 0, 1) := by decide +kernel
theorem d_Md_person_73 : decode b_Md_person 73 = .ok (.getfield 17, 3) := by decide +kernel
theorem d_Md_person_76 : decode b_Md_person 76 = .ok (.imul, 1) := by decide +kernel
theorem d_Md_person_77 : decode b_Md_person 77 = .ok (.iconst 2, 1) := by decide +kernel
theorem d_Md_person_78 : decode b_Md_person 78 = .ok (.iadd, 1) := by decide +kernel
theorem d_Md_person_79 : decode b_Md_person 79 = .ok (.iload_n 3, 1) := by decide +kernel
theorem d_Md_person_80 : decode b_Md_person 80 = .ok (.iastore, 1) := by decide +kernel
theorem d_Md_person_81 : decode b_Md_person 81 = .ok (.aload_n 0, 1) := by decide +kernel
theorem d_Md_person_82 : decode b_Md_person 82 = .ok (.dup, 1) := by decide +kernel
theorem d_Md_person_83 : decode b_Md_person 83 = .ok (.getfield 17, 3) := by decide +kernel
theorem d_Md_person_86 : decode b_Md_person 86 = .ok (.iconst 1, 1) := by decide +kernel
theorem d_Md_person_87 : decode b_Md_person 87 = .ok (.iadd, 1) := by decide +kernel
theorem d_Md_person_88 : decode b_Md_person 88 = .ok (.putfield 17, 3) := by decide +kernel
theorem d_Md_person_91 : decode b_Md_person 91 = .ok (.aload_n 0, 1) := by decide +kernel
theorem d_Md_person_92 : decode b_Md_person 92 = .ok (.getfield 17, 3) := by decide +kernel
theorem d_Md_person_95 : decode b_Md_person 95 = .ok (.iconst 1, 1) := by decide +kernel
theorem d_Md_person_96 : decode b_Md_person 96 = .ok (.isub, 1) := by decide +kernel
theorem d_Md_person_97 : decode b_Md_person 97 = .ok (.ireturn, 1) := by decide +kernel
theorem d_Md_is_0 : decode b_Md_is 0 = .ok (.iload_n 0, 1) := by decide +kernel
theorem d_Md_is_1 : decode b_Md_is 1 = .ok (.iload_n 1, 1) := by decide +kernel
theorem d_Md_is_2 : decode b_Md_is 2 = .ok (.if_icmp .lt 12, 3) := by decide +kernel
theorem d_Md_is_5 : decode b_Md_is 5 = .ok (.iload_n 0, 1) := by decide +kernel
theorem d_Md_is_6 : decode b_Md_is 6 = .ok (.iload_n 2, 1) := by decide +kernel
theorem d_Md_is_7 : decode b_Md_is 7 = .ok (.if_icmp .gt 7, 3) := by decide +kernel
theorem d_Md_is_10 : decode b_Md_is 10 = .ok (.iconst 1, 1) := by decide +kernel
theorem d_Md_is_11 : decode b_Md_is 11 = .ok (.goto 4, 3) := by decide +kernel
theorem d_Md_is_14 : decode b_Md_is 14 = .ok (.iconst 0, 1) := by decide +kernel
theorem d_Md_is_15 : decode b_Md_is 15 = .ok (.ireturn, 1) := by decide +kernel
theorem d_Md_post_0 : decode b_Md_post 0 = .ok (.iload_n 1, 1) := by decide +kernel
theorem d_Md_post_1 : decode b_Md_post 1 = .ok (.iconst 0, 1) := by decide +kernel
theorem d_Md_post_2 : decode b_Md_post 2 = .ok (.bipush 7, 2) := by decide +kernel
theorem d_Md_post_4 : decode b_Md_post 4 = .ok (.invokestatic 147, 3) := by decide +kernel
theorem d_Md_post_7 : decode b_Md_post 7 = .ok (.ifCond .eq 23, 3) := by decide +kernel
theorem d_Md_post_10 : decode b_Md_post 10 = .ok (.iload_n 2, 1) := by decide +kernel
theorem d_Md_post_11 : decode b_Md_post 11 = .ok (.iconst 1, 1) := by decide +kernel
theorem d_Md_post_12 : decode b_Md_post 12 = .ok (.sipush 1000, 3) := by decide +kernel
theorem d_Md_post_15 : decode b_Md_post 15 = .ok (.invokestatic 147, 3) := by decide +kernel
theorem d_Md_post_18 : decode b_Md_post 18 = .ok (.ifCond .eq 12, 3) := by decide +kernel
theorem d_Md_post_21 : decode b_Md_post 21 = .ok (.aload_n 0, 1) := by decide +kernel
theorem d_Md_post_22 : decode b_Md_post 22 = .ok (.getfield 23, 3) := by decide +kernel
theorem d_Md_post_25 : decode b_Md_post 25 = .ok (.bipush 16, 2) := by decide +kernel
theorem d_Md_post_27 : decode b_Md_post 27 = .ok (.if_icmp .ne 5, 3) := by decide +kernel
theorem d_Md_post_30 : decode b_Md_post 30 = .ok (.iconst (-1), 1) := by decide +kernel
theorem d_Md_post_31 : decode b_Md_post 31 = .ok (.ireturn, 1) := by decide +kernel
theorem d_Md_post_32 : decode b_Md_post 32 = .ok (.aload_n 0, 1) := by decide +kernel
theorem d_Md_post_33 : decode b_Md_post 33 = .ok (.getfield 26, 3) := by decide +kernel
theorem d_Md_post_36 : decode b_Md_post 36 = .ok (.iconst 3, 1) := by decide +kernel
theorem d_Md_post_37 : decode b_Md_post 37 = .ok (.aload_n 0, 1) := by decide +kernel
theorem d_Md_post_38 : decode b_Md_post 38 = .ok (.getfield 23, 3) := by decide +kernel
theorem d_Md_post_41 : decode b_Md_post 41 = .ok (.imul, 1) := by decide +kernel
theorem d_Md_post_42 : decode b_Md_post 42 = .ok (.iload_n 1, 1) := by decide +kernel
theorem d_Md_post_43 : decode b_Md_post 43 = .ok (.iastore, 1) := by decide +kernel
theorem d_Md_post_44 : decode b_Md_post 44 = .ok (.aload_n 0, 1) := by decide +kernel
theorem d_Md_post_45 : decode b_Md_post 45 = .ok (.getfield 26, 3) := by decide +kernel
theorem d_Md_post_48 : decode b_Md_post 48 = .ok (.iconst 3, 1) := by decide +kernel
theorem d_Md_post_49 : decode b_Md_post 49 = .ok (.aload_n 0, 1) := by decide +kernel
theorem d_Md_post_50 : decode b_Md_post 50 = .ok (.getfield 23, 3) := by decide +kernel
theorem d_Md_post_53 : decode b_Md_post 53 = .ok (.imul, 1) := by decide +kernel
theorem d_Md_post_54 : decode b_Md_post 54 = .ok (.iconst 1, 1) := by decide +kernel
theorem d_Md_post_55 : decode b_Md_post 55 = .ok (.iadd, 1) := by decide +kernel
theorem d_Md_post_56 : decode b_Md_post 56 = .ok (.iload_n 2, 1) := by decide +kernel
theorem d_Md_post_57 : decode b_Md_post 57 = .ok (.iastore, 1) := by decide +kernel
theorem d_Md_post_58 : decode b_Md_post 58 = .ok (.aload_n 0, 1) := by decide +kernel
theorem d_Md_post_59 : decode b_Md_post 59 = .ok (.getfield 26, 3) := by decide +kernel
theorem d_Md_post_62 : decode b_Md_post 62 = .ok (.iconst 3, 1) := by decide +kernel
theorem d_Md_post_63 : decode b_Md_post 63 = .ok (.aload_n 0, 1) := by decide +kernel
theorem d_Md_post_64 : decode b_Md_post 64 = .ok (.getfield 23, 3) := by decide +kernel
theorem d_Md_post_67 : decode b_Md_post 67 = .ok (.imul, 1) := by decide +kernel
theorem d_Md_post_68 : decode b_Md_post 68 = .ok (.iconst 2, 1) := by decide +kernel
theorem d_Md_post_69 : decode b_Md_post 69 = .ok (.iadd, 1) := by decide +kernel
theorem d_Md_post_70 : decode b_Md_post 70 = .ok (.iconst (-1), 1) := by decide +kernel
theorem d_Md_post_71 : decode b_Md_post 71 = .ok (.iastore, 1) := by decide +kernel
theorem d_Md_post_72 : decode b_Md_post 72 = .ok (.aload_n 0, 1) := by decide +kernel
theorem d_Md_post_73 : decode b_Md_post 73 = .ok (.dup, 1) := by decide +kernel
theorem d_Md_post_74 : decode b_Md_post 74 = .ok (.getfield 23, 3) := by decide +kernel
theorem d_Md_post_77 : decode b_Md_post 77 = .ok (.iconst 1, 1) := by decide +kernel
theorem d_Md_post_78 : decode b_Md_post 78 = .ok (.iadd, 1) := by decide +kernel
theorem d_Md_post_79 : decode b_Md_post 79 = .ok (.putfield 23, 3) := by decide +kernel
theorem d_Md_post_82 : decode b_Md_post 82 = .ok (.aload_n 0, 1) := by decide +kernel
theorem d_Md_post_83 : decode b_Md_post 83 = .ok (.getfield 23, 3) := by decide +kernel
theorem d_Md_post_86 : decode b_Md_post 86 = .ok (.iconst 1, 1) := by decide +kernel
theorem d_Md_post_87 : decode b_Md_post 87 = .ok (.isub, 1) := by decide +kernel
theorem d_Md_post_88 : decode b_Md_post 88 = .ok (.ireturn, 1) := by decide +kernel
theorem d_Md_seat_0 : decode b_Md_seat 0 = .ok (.aload_n 0, 1) := by decide +kernel
theorem d_Md_seat_1 : decode b_Md_seat 1 = .ok (.iload_n 1, 1) := by decide +kernel
theorem d_Md_seat_2 : decode b_Md_seat 2 = .ok (.invokevirtual 151, 3) := by decide +kernel
theorem d_Md_seat_5 : decode b_Md_seat 5 = .ok (.ifCond .eq 23, 3) := by decide +kernel
theorem d_Md_seat_8 : decode b_Md_seat 8 = .ok (.iload_n 2, 1) := by decide +kernel
theorem d_Md_seat_9 : decode b_Md_seat 9 = .ok (.iconst (-1), 1) := by decide +kernel
theorem d_Md_seat_10 : decode b_Md_seat 10 = .ok (.if_icmp .eq 11, 3) := by decide +kernel
theorem d_Md_seat_13 : decode b_Md_seat 13 = .ok (.aload_n 0, 1) := by decide +kernel
theorem d_Md_seat_14 : decode b_Md_seat 14 = .ok (.iload_n 2, 1) := by decide +kernel
theorem d_Md_seat_15 : decode b_Md_seat 15 = .ok (.invokevirtual 155, 3) := by decide +kernel
theorem d_Md_seat_18 : decode b_Md_seat 18 = .ok (.ifCond .eq 10, 3) := by decide +kernel
theorem d_Md_seat_21 : decode b_Md_seat 21 = .ok (.aload_n 0, 1) := by decide +kernel
theorem d_Md_seat_22 : decode b_Md_seat 22 = .ok (.getfield 29, 3) := by decide +kernel
theorem d_Md_seat_25 : decode b_Md_seat 25 = .ok (.ifCond .le 5, 3) := by decide +kernel
theorem d_Md_seat_28 : decode b_Md_seat 28 = .ok (.iconst 0, 1) := by decide +kernel
theorem d_Md_seat_29 : decode b_Md_seat 29 = .ok (.ireturn, 1) := by decide +kernel
theorem d_Md_seat_30 : decode b_Md_seat 30 = .ok (.aload_n 0, 1) := by decide +kernel
theorem d_Md_seat_31 : decode b_Md_seat 31 = .ok (.getfield 26, 3) := by decide +kernel
theorem d_Md_seat_34 : decode b_Md_seat 34 = .ok (.iconst 3, 1) := by decide +kernel
theorem d_Md_seat_35 : decode b_Md_seat 35 = .ok (.iload_n 1, 1) := by decide +kernel
theorem d_Md_seat_36 : decode b_Md_seat 36 = .ok (.imul, 1) := by decide +kernel
theorem d_Md_seat_37 : decode b_Md_seat 37 = .ok (.iconst 2, 1) := by decide +kernel
theorem d_Md_seat_38 : decode b_Md_seat 38 = .ok (.iadd, 1) := by decide +kernel
theorem d_Md_seat_39 : decode b_Md_seat 39 = .ok (.iload_n 2, 1) := by decide +kernel
theorem d_Md_seat_40 : decode b_Md_seat 40 = .ok (.iastore, 1) := by decide +kernel
theorem d_Md_seat_41 : decode b_Md_seat 41 = .ok (.iconst 1, 1) := by decide +kernel
theorem d_Md_seat_42 : decode b_Md_seat 42 = .ok (.ireturn, 1) := by decide +kernel
theorem d_Md_isPost_0 : decode b_Md_isPost 0 = .ok (.iload_n 1, 1) := by decide +kernel
theorem d_Md_isPost_1 : decode b_Md_isPost 1 = .ok (.ifCond .lt 15, 3) := by decide +kernel
theorem d_Md_isPost_4 : decode b_Md_isPost 4 = .ok (.iload_n 1, 1) := by decide +kernel
theorem d_Md_isPost_5 : decode b_Md_isPost 5 = .ok (.aload_n 0, 1) := by decide +kernel
theorem d_Md_isPost_6 : decode b_Md_isPost 6 = .ok (.getfield 23, 3) := by decide +kernel
theorem d_Md_isPost_9 : decode b_Md_isPost 9 = .ok (.if_icmp .ge 7, 3) := by decide +kernel
theorem d_Md_isPost_12 : decode b_Md_isPost 12 = .ok (.iconst 1, 1) := by decide +kernel
theorem d_Md_isPost_13 : decode b_Md_isPost 13 = .ok (.goto 4, 3) := by decide +kernel
theorem d_Md_isPost_16 : decode b_Md_isPost 16 = .ok (.iconst 0, 1) := by decide +kernel
theorem d_Md_isPost_17 : decode b_Md_isPost 17 = .ok (.ireturn, 1) := by decide +kernel
theorem d_Md_isPerson_0 : decode b_Md_isPerson 0 = .ok (.iload_n 1, 1) := by decide +kernel
theorem d_Md_isPerson_1 : decode b_Md_isPerson 1 = .ok (.ifCond .lt 15, 3) := by decide +kernel
theorem d_Md_isPerson_4 : decode b_Md_isPerson 4 = .ok (.iload_n 1, 1) := by decide +kernel
theorem d_Md_isPerson_5 : decode b_Md_isPerson 5 = .ok (.aload_n 0, 1) := by decide +kernel
theorem d_Md_isPerson_6 : decode b_Md_isPerson 6 = .ok (.getfield 17, 3) := by decide +kernel
theorem d_Md_isPerson_9 : decode b_Md_isPerson 9 = .ok (.if_icmp .ge 7, 3) := by decide +kernel
theorem d_Md_isPerson_12 : decode b_Md_isPerson 12 = .ok (.iconst 1, 1) := by decide +kernel
theorem d_Md_isPerson_13 : decode b_Md_isPerson 13 = .ok (.goto 4, 3) := by decide +kernel
theorem d_Md_isPerson_16 : decode b_Md_isPerson 16 = .ok (.iconst 0, 1) := by decide +kernel
theorem d_Md_isPerson_17 : decode b_Md_isPerson 17 = .ok (.ireturn, 1) := by decide +kernel
theorem d_Md_reign_0 : decode b_Md_reign 0 = .ok (.aload_n 0, 1) := by decide +kernel
theorem d_Md_reign_1 : decode b_Md_reign 1 = .ok (.aload_n 0, 1) := by decide +kernel
theorem d_Md_reign_2 : decode b_Md_reign 2 = .ok (.getfield 13, 3) := by decide +kernel
theorem d_Md_reign_5 : decode b_Md_reign 5 = .ok (.putfield 80, 3) := by decide +kernel
theorem d_Md_reign_8 : decode b_Md_reign 8 = .ok (.aload_n 0, 1) := by decide +kernel
theorem d_Md_reign_9 : decode b_Md_reign 9 = .ok (.iconst 0, 1) := by decide +kernel
theorem d_Md_reign_10 : decode b_Md_reign 10 = .ok (.putfield 13, 3) := by decide +kernel
theorem d_Md_reign_13 : decode b_Md_reign 13 = .ok (.aload_n 0, 1) := by decide +kernel
theorem d_Md_reign_14 : decode b_Md_reign 14 = .ok (.iconst 0, 1) := by decide +kernel
theorem d_Md_reign_15 : decode b_Md_reign 15 = .ok (.putfield 77, 3) := by decide +kernel
theorem d_Md_reign_18 : decode b_Md_reign 18 = .ok (.aload_n 0, 1) := by decide +kernel
theorem d_Md_reign_19 : decode b_Md_reign 19 = .ok (.iconst 0, 1) := by decide +kernel
theorem d_Md_reign_20 : decode b_Md_reign 20 = .ok (.putfield 74, 3) := by decide +kernel
theorem d_Md_reign_23 : decode b_Md_reign 23 = .ok (.aload_n 0, 1) := by decide +kernel
theorem d_Md_reign_24 : decode b_Md_reign 24 = .ok (.iconst 0, 1) := by decide +kernel
theorem d_Md_reign_25 : decode b_Md_reign 25 = .ok (.putfield 83, 3) := by decide +kernel
theorem d_Md_reign_28 : decode b_Md_reign 28 = .ok (.aload_n 0, 1) := by decide +kernel
theorem d_Md_reign_29 : decode b_Md_reign 29 = .ok (.iconst (-1), 1) := by decide +kernel
theorem d_Md_reign_30 : decode b_Md_reign 30 = .ok (.putfield 86, 3) := by decide +kernel
theorem d_Md_reign_33 : decode b_Md_reign 33 = .ok (.iconst 0, 1) := by decide +kernel
theorem d_Md_reign_34 : decode b_Md_reign 34 = .ok (.istore_n 2, 1) := by decide +kernel
theorem d_Md_reign_35 : decode b_Md_reign 35 = .ok (.aload_n 0, 1) := by decide +kernel
theorem d_Md_reign_36 : decode b_Md_reign 36 = .ok (.invokevirtual 158, 3) := by decide +kernel
theorem d_Md_reign_39 : decode b_Md_reign 39 = .ok (.iconst (-1), 1) := by decide +kernel
theorem d_Md_reign_40 : decode b_Md_reign 40 = .ok (.if_icmp .eq 42, 3) := by decide +kernel
theorem d_Md_reign_43 : decode b_Md_reign 43 = .ok (.aload_n 0, 1) := by decide +kernel
theorem d_Md_reign_44 : decode b_Md_reign 44 = .ok (.getfield 83, 3) := by decide +kernel
theorem d_Md_reign_47 : decode b_Md_reign 47 = .ok (.ifCond .ne 35, 3) := by decide +kernel
theorem d_Md_reign_50 : decode b_Md_reign 50 = .ok (.iload_n 2, 1) := by decide +kernel
theorem d_Md_reign_51 : decode b_Md_reign 51 = .ok (.bipush 16, 2) := by decide +kernel
theorem d_Md_reign_53 : decode b_Md_reign 53 = .ok (.if_icmp .ne 12, 3) := by decide +kernel
theorem d_Md_reign_56 : decode b_Md_reign 56 = .ok (.aload_n 0, 1) := by decide +kernel
theorem d_Md_reign_57 : decode b_Md_reign 57 = .ok (.iconst 1, 1) := by decide +kernel
theorem d_Md_reign_58 : decode b_Md_reign 58 = .ok (.aload_n 0, 1) := by decide +kernel
theorem d_Md_reign_59 : decode b_Md_reign 59 = .ok (.getfield 77, 3) := by decide +kernel
theorem d_Md_reign_62 : decode b_Md_reign 62 = .ok (.invokevirtual 191, 3) := by decide +kernel
theorem d_Md_reign_65 : decode b_Md_reign 65 = .ok (.aload_n 0, 1) := by decide +kernel
theorem d_Md_reign_66 : decode b_Md_reign 66 = .ok (.getfield 83, 3) := by decide +kernel
theorem d_Md_reign_69 : decode b_Md_reign 69 = .ok (.ifCond .ne 7, 3) := by decide +kernel
theorem d_Md_reign_72 : decode b_Md_reign 72 = .ok (.aload_n 0, 1) := by decide +kernel
theorem d_Md_reign_73 : decode b_Md_reign 73 = .ok (.invokevirtual 226, 3) := by decide +kernel
theorem d_Md_reign_76 : decode b_Md_reign 76 = .ok (.iinc 2 1, 3) := by decide +kernel
theorem d_Md_reign_79 : decode b_Md_reign 79 = .ok (.goto (-44), 3) := by decide +kernel
theorem d_Md_reign_82 : decode b_Md_reign 82 = .ok (.aload_n 0, 1) := by decide +kernel
theorem d_Md_reign_83 : decode b_Md_reign 83 = .ok (.getfield 83, 3) := by decide +kernel
theorem d_Md_reign_86 : decode b_Md_reign 86 = .ok (.ifCond .le 5, 3) := by decide +kernel
theorem d_Md_reign_89 : decode b_Md_reign 89 = .ok (.iconst (-1), 1) := by decide +kernel
theorem d_Md_reign_90 : decode b_Md_reign 90 = .ok (.ireturn, 1) := by decide +kernel
theorem d_Md_reign_91 : decode b_Md_reign 91 = .ok (.iload_n 1, 1) := by decide +kernel
theorem d_Md_reign_92 : decode b_Md_reign 92 = .ok (.iconst 0, 1) := by decide +kernel
theorem d_Md_reign_93 : decode b_Md_reign 93 = .ok (.ldc 229, 2) := by decide +kernel
theorem d_Md_reign_95 : decode b_Md_reign 95 = .ok (.invokestatic 147, 3) := by decide +kernel
theorem d_Md_reign_98 : decode b_Md_reign 98 = .ok (.ifCond .eq 12, 3) := by decide +kernel
theorem d_Md_reign_101 : decode b_Md_reign 101 = .ok (.aload_n 0, 1) := by decide +kernel
theorem d_Md_reign_102 : decode b_Md_reign 102 = .ok (.getfield 56, 3) := by decide +kernel
theorem d_Md_reign_105 : decode b_Md_reign 105 = .ok (.bipush 6, 2) := by decide +kernel
theorem d_Md_reign_107 : decode b_Md_reign 107 = .ok (.if_icmp .ne 6, 3) := by decide +kernel
theorem d_Md_reign_110 : decode b_Md_reign 110 = .ok (.bipush (-2), 2) := by decide +kernel
theorem d_Md_reign_112 : decode b_Md_reign 112 = .ok (.ireturn, 1) := by decide +kernel
theorem d_Md_reign_113 : decode b_Md_reign 113 = .ok (.iconst 0, 1) := by decide +kernel
theorem d_Md_reign_114 : decode b_Md_reign 114 = .ok (.istore_n 3, 1) := by decide +kernel
theorem d_Md_reign_115 : decode b_Md_reign 115 = .ok (.iload_n 3, 1) := by decide +kernel
theorem d_Md_reign_116 : decode b_Md_reign 116 = .ok (.aload_n 0, 1) := by decide +kernel
theorem d_Md_reign_117 : decode b_Md_reign 117 = .ok (.getfield 74, 3) := by decide +kernel
theorem d_Md_reign_120 : decode b_Md_reign 120 = .ok (.if_icmp .ge 30, 3) := by decide +kernel
theorem d_Md_reign_123 : decode b_Md_reign 123 = .ok (.aload_n 0, 1) := by decide +kernel
theorem d_Md_reign_124 : decode b_Md_reign 124 = .ok (.getfield 68, 3) := by decide +kernel
theorem d_Md_reign_127 : decode b_Md_reign 127 = .ok (.sipush 600, 3) := by decide +kernel
theorem d_Md_reign_130 : decode b_Md_reign 130 = .ok (.aload_n 0, 1) := by decide +kernel
theorem d_Md_reign_131 : decode b_Md_reign 131 = .ok (.getfield 56, 3) := by decide +kernel
theorem d_Md_reign_134 : decode b_Md_reign 134 = .ok (.imul, 1) := by decide +kernel
theorem d_Md_reign_135 : decode b_Md_reign 135 = .ok (.iload_n 3, 1) := by decide +kernel
theorem d_Md_reign_136 : decode b_Md_reign 136 = .ok (.iadd, 1) := by decide +kernel
theorem d_Md_reign_137 : decode b_Md_reign 137 = .ok (.aload_n 0, 1) := by decide +kernel
theorem d_Md_reign_138 : decode b_Md_reign 138 = .ok (.getfield 71, 3) := by decide +kernel
theorem d_Md_reign_141 : decode b_Md_reign 141 = .ok (.iload_n 3, 1) := by decide +kernel
theorem d_Md_reign_142 : decode b_Md_reign 142 = .ok (.iaload, 1) := by decide +kernel
theorem d_Md_reign_143 : decode b_Md_reign 143 = .ok (.iastore, 1) := by decide +kernel
theorem d_Md_reign_144 : decode b_Md_reign 144 = .ok (.iinc 3 1, 3) := by decide +kernel
theorem d_Md_reign_147 : decode b_Md_reign 147 = .ok (.goto (-32), 3) := by decide +kernel
theorem d_Md_reign_150 : decode b_Md_reign 150 = .ok (.aload_n 0, 1) := by decide +kernel
theorem d_Md_reign_151 : decode b_Md_reign 151 = .ok (.getfield 59, 3) := by decide +kernel
theorem d_Md_reign_154 : decode b_Md_reign 154 = .ok (.aload_n 0, 1) := by decide +kernel
theorem d_Md_reign_155 : decode b_Md_reign 155 = .ok (.getfield 56, 3) := by decide +kernel
theorem d_Md_reign_158 : decode b_Md_reign 158 = .ok (.iload_n 1, 1) := by decide +kernel
theorem d_Md_reign_159 : decode b_Md_reign 159 = .ok (.iastore, 1) := by decide +kernel
theorem d_Md_reign_160 : decode b_Md_reign 160 = .ok (.aload_n 0, 1) := by decide +kernel
theorem d_Md_reign_161 : decode b_Md_reign 161 = .ok (.getfield 62, 3) := by decide +kernel
theorem d_Md_reign_164 : decode b_Md_reign 164 = .ok (.aload_n 0, 1) := by decide +kernel
theorem d_Md_reign_165 : decode b_Md_reign 165 = .ok (.getfield 56, 3) := by decide +kernel
theorem d_Md_reign_168 : decode b_Md_reign 168 = .ok (.iload_n 2, 1) := by decide +kernel
theorem d_Md_reign_169 : decode b_Md_reign 169 = .ok (.iastore, 1) := by decide +kernel
theorem d_Md_reign_170 : decode b_Md_reign 170 = .ok (.aload_n 0, 1) := by decide +kernel
theorem d_Md_reign_171 : decode b_Md_reign 171 = .ok (.getfield 65, 3) := by decide +kernel
theorem d_Md_reign_174 : decode b_Md_reign 174 = .ok (.aload_n 0, 1) := by decide +kernel
theorem d_Md_reign_175 : decode b_Md_reign 175 = .ok (.getfield 56, 3) := by decide +kernel
theorem d_Md_reign_178 : decode b_Md_reign 178 = .ok (.aload_n 0, 1) := by decide +kernel
theorem d_Md_reign_179 : decode b_Md_reign 179 = .ok (.getfield 74, 3) := by decide +kernel
theorem d_Md_reign_182 : decode b_Md_reign 182 = .ok (.iastore, 1) := by decide +kernel
theorem d_Md_reign_183 : decode b_Md_reign 183 = .ok (.aload_n 0, 1) := by decide +kernel
theorem d_Md_reign_184 : decode b_Md_reign 184 = .ok (.dup, 1) := by decide +kernel
theorem d_Md_reign_185 : decode b_Md_reign 185 = .ok (.getfield 56, 3) := by decide +kernel
theorem d_Md_reign_188 : decode b_Md_reign 188 = .ok (.iconst 1, 1) := by decide +kernel
theorem d_Md_reign_189 : decode b_Md_reign 189 = .ok (.iadd, 1) := by decide +kernel
theorem d_Md_reign_190 : decode b_Md_reign 190 = .ok (.putfield 56, 3) := by decide +kernel
theorem d_Md_reign_193 : decode b_Md_reign 193 = .ok (.iload_n 2, 1) := by decide +kernel
theorem d_Md_reign_194 : decode b_Md_reign 194 = .ok (.ireturn, 1) := by decide +kernel
theorem d_Md_here_0 : decode b_Md_here 0 = .ok (.aload_n 0, 1) := by decide +kernel
theorem d_Md_here_1 : decode b_Md_here 1 = .ok (.getfield 77, 3) := by decide +kernel
theorem d_Md_here_4 : decode b_Md_here 4 = .ok (.aload_n 0, 1) := by decide +kernel
theorem d_Md_here_5 : decode b_Md_here 5 = .ok (.getfield 80, 3) := by decide +kernel
theorem d_Md_here_8 : decode b_Md_here 8 = .ok (.if_icmp .ge 44, 3) := by decide +kernel
theorem d_Md_here_11 : decode b_Md_here 11 = .ok (.aload_n 0, 1) := by decide +kernel
theorem d_Md_here_12 : decode b_Md_here 12 = .ok (.getfield 7, 3) := by decide +kernel
theorem d_Md_here_15 : decode b_Md_here 15 = .ok (.aload_n 0, 1) := by decide +kernel
theorem d_Md_here_16 : decode b_Md_here 16 = .ok (.getfield 77, 3) := by decide +kernel
theorem d_Md_here_19 : decode b_Md_here 19 = .ok (.iaload, 1) := by decide +kernel
theorem d_Md_here_20 : decode b_Md_here 20 = .ok (.bipush 32, 2) := by decide +kernel
theorem d_Md_here_22 : decode b_Md_here 22 = .ok (.if_icmp .eq 17, 3) := by decide +kernel
theorem d_Md_here_25 : decode b_Md_here 25 = .ok (.aload_n 0, 1) := by decide +kernel
theorem d_Md_here_26 : decode b_Md_here 26 = .ok (.getfield 7, 3) := by decide +kernel
theorem d_Md_here_29 : decode b_Md_here 29 = .ok (.aload_n 0, 1) := by decide +kernel
theorem d_Md_here_30 : decode b_Md_here 30 = .ok (.getfield 77, 3) := by decide +kernel
theorem d_Md_here_33 : decode b_Md_here 33 = .ok (.iaload, 1) := by decide +kernel
theorem d_Md_here_34 : decode b_Md_here 34 = .ok (.bipush 10, 2) := by decide +kernel
theorem d_Md_here_36 : decode b_Md_here 36 = .ok (.if_icmp .ne 16, 3) := by decide +kernel
theorem d_Md_here_39 : decode b_Md_here 39 = .ok (.aload_n 0, 1) := by decide +kernel
theorem d_Md_here_40 : decode b_Md_here 40 = .ok (.dup, 1) := by decide +kernel
theorem d_Md_here_41 : decode b_Md_here 41 = .ok (.getfield 77, 3) := by decide +kernel
theorem d_Md_here_44 : decode b_Md_here 44 = .ok (.iconst 1, 1) := by decide +kernel
theorem d_Md_here_45 : decode b_Md_here 45 = .ok (.iadd, 1) := by decide +kernel
theorem d_Md_here_46 : decode b_Md_here 46 = .ok (.putfield 77, 3) := by decide +kernel
theorem d_Md_here_49 : decode b_Md_here 49 = .ok (.goto (-49), 3) := by decide +kernel
theorem d_Md_here_52 : decode b_Md_here 52 = .ok (.aload_n 0, 1) := by decide +kernel
theorem d_Md_here_53 : decode b_Md_here 53 = .ok (.getfield 77, 3) := by decide +kernel
theorem d_Md_here_56 : decode b_Md_here 56 = .ok (.aload_n 0, 1) := by decide +kernel
theorem d_Md_here_57 : decode b_Md_here 57 = .ok (.getfield 80, 3) := by decide +kernel
theorem d_Md_here_60 : decode b_Md_here 60 = .ok (.if_icmp .ge 15, 3) := by decide +kernel
theorem d_Md_here_63 : decode b_Md_here 63 = .ok (.aload_n 0, 1) := by decide +kernel
theorem d_Md_here_64 : decode b_Md_here 64 = .ok (.getfield 7, 3) := by decide +kernel
theorem d_Md_here_67 : decode b_Md_here 67 = .ok (.aload_n 0, 1) := by decide +kernel
theorem d_Md_here_68 : decode b_Md_here 68 = .ok (.getfield 77, 3) := by decide +kernel
theorem d_Md_here_71 : decode b_Md_here 71 = .ok (.iaload, 1) := by decide +kernel
theorem d_Md_here_72 : decode b_Md_here 72 = .ok (.goto 4, 3) := by decide +kernel
theorem d_Md_here_75 : decode b_Md_here 75 = .ok (.iconst (-1), 1) := by decide +kernel
theorem d_Md_here_76 : decode b_Md_here 76 = .ok (.ireturn, 1) := by decide +kernel
theorem d_Md_blame_0 : decode b_Md_blame 0 = .ok (.aload_n 0, 1) := by decide +kernel
theorem d_Md_blame_1 : decode b_Md_blame 1 = .ok (.getfield 83, 3) := by decide +kernel
theorem d_Md_blame_4 : decode b_Md_blame 4 = .ok (.ifCond .le 4, 3) := by decide +kernel
theorem d_Md_blame_7 : decode b_Md_blame 7 = .ok (.return_, 1) := by decide +kernel
theorem d_Md_blame_8 : decode b_Md_blame 8 = .ok (.aload_n 0, 1) := by decide +kernel
theorem d_Md_blame_9 : decode b_Md_blame 9 = .ok (.iload_n 1, 1) := by decide +kernel
theorem d_Md_blame_10 : decode b_Md_blame 10 = .ok (.putfield 83, 3) := by decide +kernel
theorem d_Md_blame_13 : decode b_Md_blame 13 = .ok (.aload_n 0, 1) := by decide +kernel
theorem d_Md_blame_14 : decode b_Md_blame 14 = .ok (.iload_n 2, 1) := by decide +kernel
theorem d_Md_blame_15 : decode b_Md_blame 15 = .ok (.putfield 86, 3) := by decide +kernel
theorem d_Md_blame_18 : decode b_Md_blame 18 = .ok (.return_, 1) := by decide +kernel
theorem d_Md_rule_0 : decode b_Md_rule 0 = .ok (.aload_n 0, 1) := by decide +kernel
theorem d_Md_rule_1 : decode b_Md_rule 1 = .ok (.getfield 74, 3) := by decide +kernel
theorem d_Md_rule_4 : decode b_Md_rule 4 = .ok (.istore_n 1, 1) := by decide +kernel
theorem d_Md_rule_5 : decode b_Md_rule 5 = .ok (.iconst 0, 1) := by decide +kernel
theorem d_Md_rule_6 : decode b_Md_rule 6 = .ok (.istore_n 2, 1) := by decide +kernel
theorem d_Md_rule_7 : decode b_Md_rule 7 = .ok (.iconst 0, 1) := by decide +kernel
theorem d_Md_rule_8 : decode b_Md_rule 8 = .ok (.istore_n 3, 1) := by decide +kernel
theorem d_Md_rule_9 : decode b_Md_rule 9 = .ok (.aload_n 0, 1) := by decide +kernel
theorem d_Md_rule_10 : decode b_Md_rule 10 = .ok (.ldc2_w 210, 3) := by decide +kernel
theorem d_Md_rule_13 : decode b_Md_rule 13 = .ok (.iconst 4, 1) := by decide +kernel
theorem d_Md_rule_14 : decode b_Md_rule 14 = .ok (.invokevirtual 176, 3) := by decide +kernel
theorem d_Md_rule_17 : decode b_Md_rule 17 = .ok (.ifCond .eq 71, 3) := by decide +kernel
theorem d_Md_rule_20 : decode b_Md_rule 20 = .ok (.aload_n 0, 1) := by decide +kernel
theorem d_Md_rule_21 : decode b_Md_rule 21 = .ok (.invokevirtual 165, 3) := by decide +kernel
theorem d_Md_rule_24 : decode b_Md_rule 24 = .ok (.istore 4, 2) := by decide +kernel
theorem d_Md_rule_26 : decode b_Md_rule 26 = .ok (.iload 4, 2) := by decide +kernel
theorem d_Md_rule_28 : decode b_Md_rule 28 = .ok (.iconst 1, 1) := by decide +kernel
theorem d_Md_rule_29 : decode b_Md_rule 29 = .ok (.if_icmp .ne 17, 3) := by decide +kernel
theorem d_Md_rule_32 : decode b_Md_rule 32 = .ok (.aload_n 0, 1) := by decide +kernel
theorem d_Md_rule_33 : decode b_Md_rule 33 = .ok (.getfield 7, 3) := by decide +kernel
theorem d_Md_rule_36 : decode b_Md_rule 36 = .ok (.aload_n 0, 1) := by decide +kernel
theorem d_Md_rule_37 : decode b_Md_rule 37 = .ok (.getfield 77, 3) := by decide +kernel
theorem d_Md_rule_40 : decode b_Md_rule 40 = .ok (.iaload, 1) := by decide +kernel
theorem d_Md_rule_41 : decode b_Md_rule 41 = .ok (.bipush 104, 2) := by decide +kernel
theorem d_Md_rule_43 : decode b_Md_rule 43 = .ok (.if_icmp .le 12, 3) := by decide +kernel
theorem d_Md_rule_46 : decode b_Md_rule 46 = .ok (.aload_n 0, 1) := by decide +kernel
theorem d_Md_rule_47 : decode b_Md_rule 47 = .ok (.iconst 1, 1) := by decide +kernel
theorem d_Md_rule_48 : decode b_Md_rule 48 = .ok (.aload_n 0, 1) := by decide +kernel
theorem d_Md_rule_49 : decode b_Md_rule 49 = .ok (.getfield 77, 3) := by decide +kernel
theorem d_Md_rule_52 : decode b_Md_rule 52 = .ok (.invokevirtual 191, 3) := by decide +kernel
theorem d_Md_rule_55 : decode b_Md_rule 55 = .ok (.aload_n 0, 1) := by decide +kernel
theorem d_Md_rule_56 : decode b_Md_rule 56 = .ok (.getfield 83, 3) := by decide +kernel
theorem d_Md_rule_59 : decode b_Md_rule 59 = .ok (.ifCond .ne 16, 3) := by decide +kernel
theorem d_Md_rule_62 : decode b_Md_rule 62 = .ok (.aload_n 0, 1) := by decide +kernel
theorem d_Md_rule_63 : decode b_Md_rule 63 = .ok (.getfield 7, 3) := by decide +kernel
theorem d_Md_rule_66 : decode b_Md_rule 66 = .ok (.aload_n 0, 1) := by decide +kernel
theorem d_Md_rule_67 : decode b_Md_rule 67 = .ok (.getfield 77, 3) := by decide +kernel
theorem d_Md_rule_70 : decode b_Md_rule 70 = .ok (.iaload, 1) := by decide +kernel
theorem d_Md_rule_71 : decode b_Md_rule 71 = .ok (.bipush 97, 2) := by decide +kernel
theorem d_Md_rule_73 : decode b_Md_rule 73 = .ok (.isub, 1) := by decide +kernel
theorem d_Md_rule_74 : decode b_Md_rule 74 = .ok (.istore_n 3, 1) := by decide +kernel
theorem d_Md_rule_75 : decode b_Md_rule 75 = .ok (.aload_n 0, 1) := by decide +kernel
theorem d_Md_rule_76 : decode b_Md_rule 76 = .ok (.dup, 1) := by decide +kernel
theorem d_Md_rule_77 : decode b_Md_rule 77 = .ok (.getfield 77, 3) := by decide +kernel
theorem d_Md_rule_80 : decode b_Md_rule 80 = .ok (.iconst 1, 1) := by decide +kernel
theorem d_Md_rule_81 : decode b_Md_rule 81 = .ok (.iadd, 1) := by decide +kernel
theorem d_Md_rule_82 : decode b_Md_rule 82 = .ok (.putfield 77, 3) := by decide +kernel
theorem d_Md_rule_85 : decode b_Md_rule 85 = .ok (.goto 86, 3) := by decide +kernel
theorem d_Md_rule_88 : decode b_Md_rule 88 = .ok (.aload_n 0, 1) := by decide +kernel
theorem d_Md_rule_89 : decode b_Md_rule 89 = .ok (.ldc2_w 212, 3) := by decide +kernel
theorem d_Md_rule_92 : decode b_Md_rule 92 = .ok (.iconst 4, 1) := by decide +kernel
theorem d_Md_rule_93 : decode b_Md_rule 93 = .ok (.invokevirtual 176, 3) := by decide +kernel
theorem d_Md_rule_96 : decode b_Md_rule 96 = .ok (.ifCond .eq 8, 3) := by decide +kernel
theorem d_Md_rule_99 : decode b_Md_rule 99 = .ok (.iconst 1, 1) := by decide +kernel
theorem d_Md_rule_100 : decode b_Md_rule 100 = .ok (.istore_n 2, 1) := by decide +kernel
theorem d_Md_rule_101 : decode b_Md_rule 101 = .ok (.goto 70, 3) := by decide +kernel
theorem d_Md_rule_104 : decode b_Md_rule 104 = .ok (.aload_n 0, 1) := by decide +kernel
theorem d_Md_rule_105 : decode b_Md_rule 105 = .ok (.ldc2_w 214, 3) := by decide +kernel
theorem d_Md_rule_108 : decode b_Md_rule 108 = .ok (.iconst 4, 1) := by decide +kernel
theorem d_Md_rule_109 : decode b_Md_rule 109 = .ok (.invokevirtual 176, 3) := by decide +kernel
theorem d_Md_rule_112 : decode b_Md_rule 112 = .ok (.ifCond .eq 13, 3) := by decide +kernel
theorem d_Md_rule_115 : decode b_Md_rule 115 = .ok (.iconst 2, 1) := by decide +kernel
theorem d_Md_rule_116 : decode b_Md_rule 116 = .ok (.istore_n 2, 1) := by decide +kernel
theorem d_Md_rule_117 : decode b_Md_rule 117 = .ok (.aload_n 0, 1) := by decide +kernel
theorem d_Md_rule_118 : decode b_Md_rule 118 = .ok (.invokevirtual 198, 3) := by decide +kernel
theorem d_Md_rule_121 : decode b_Md_rule 121 = .ok (.istore_n 3, 1) := by decide +kernel
theorem d_Md_rule_122 : decode b_Md_rule 122 = .ok (.goto 49, 3) := by decide +kernel
theorem d_Md_rule_125 : decode b_Md_rule 125 = .ok (.aload_n 0, 1) := by decide +kernel
theorem d_Md_rule_126 : decode b_Md_rule 126 = .ok (.ldc2_w 216, 3) := by decide +kernel
theorem d_Md_rule_129 : decode b_Md_rule 129 = .ok (.iconst 3, 1) := by decide +kernel
theorem d_Md_rule_130 : decode b_Md_rule 130 = .ok (.invokevirtual 176, 3) := by decide +kernel
theorem d_Md_rule_133 : decode b_Md_rule 133 = .ok (.ifCond .eq 13, 3) := by decide +kernel
theorem d_Md_rule_136 : decode b_Md_rule 136 = .ok (.iconst 3, 1) := by decide +kernel
theorem d_Md_rule_137 : decode b_Md_rule 137 = .ok (.istore_n 2, 1) := by decide +kernel
theorem d_Md_rule_138 : decode b_Md_rule 138 = .ok (.aload_n 0, 1) := by decide +kernel
theorem d_Md_rule_139 : decode b_Md_rule 139 = .ok (.invokevirtual 198, 3) := by decide +kernel
theorem d_Md_rule_142 : decode b_Md_rule 142 = .ok (.istore_n 3, 1) := by decide +kernel
theorem d_Md_rule_143 : decode b_Md_rule 143 = .ok (.goto 28, 3) := by decide +kernel
theorem d_Md_rule_146 : decode b_Md_rule 146 = .ok (.aload_n 0, 1) := by decide +kernel
theorem d_Md_rule_147 : decode b_Md_rule 147 = .ok (.ldc2_w 218, 3) := by decide +kernel
theorem d_Md_rule_150 : decode b_Md_rule 150 = .ok (.iconst 3, 1) := by decide +kernel
theorem d_Md_rule_151 : decode b_Md_rule 151 = .ok (.invokevirtual 176, 3) := by decide +kernel
theorem d_Md_rule_154 : decode b_Md_rule 154 = .ok (.ifCond .eq 8, 3) := by decide +kernel
theorem d_Md_rule_157 : decode b_Md_rule 157 = .ok (.iconst 4, 1) := by decide +kernel
theorem d_Md_rule_158 : decode b_Md_rule 158 = .ok (.istore_n 2, 1) := by decide +kernel
theorem d_Md_rule_159 : decode b_Md_rule 159 = .ok (.goto 12, 3) := by decide +kernel
theorem d_Md_rule_162 : decode b_Md_rule 162 = .ok (.aload_n 0, 1) := by decide +kernel
theorem d_Md_rule_163 : decode b_Md_rule 163 = .ok (.iconst 1, 1) := by decide +kernel
theorem d_Md_rule_164 : decode b_Md_rule 164 = .ok (.aload_n 0, 1) := by decide +kernel
theorem d_Md_rule_165 : decode b_Md_rule 165 = .ok (.getfield 77, 3) := by decide +kernel
theorem d_Md_rule_168 : decode b_Md_rule 168 = .ok (.invokevirtual 191, 3) := by decide +kernel
theorem d_Md_rule_171 : decode b_Md_rule 171 = .ok (.aload_n 0, 1) := by decide +kernel
theorem d_Md_rule_172 : decode b_Md_rule 172 = .ok (.getfield 83, 3) := by decide +kernel
theorem d_Md_rule_175 : decode b_Md_rule 175 = .ok (.ifCond .le 4, 3) := by decide +kernel
theorem d_Md_rule_178 : decode b_Md_rule 178 = .ok (.return_, 1) := by decide +kernel
theorem d_Md_rule_179 : decode b_Md_rule 179 = .ok (.aload_n 0, 1) := by decide +kernel
theorem d_Md_rule_180 : decode b_Md_rule 180 = .ok (.iload_n 2, 1) := by decide +kernel
theorem d_Md_rule_181 : decode b_Md_rule 181 = .ok (.iload_n 3, 1) := by decide +kernel
theorem d_Md_rule_182 : decode b_Md_rule 182 = .ok (.iconst 0, 1) := by decide +kernel
theorem d_Md_rule_183 : decode b_Md_rule 183 = .ok (.invokevirtual 204, 3) := by decide +kernel
theorem d_Md_rule_186 : decode b_Md_rule 186 = .ok (.iload_n 2, 1) := by decide +kernel
theorem d_Md_rule_187 : decode b_Md_rule 187 = .ok (.iconst 4, 1) := by decide +kernel
theorem d_Md_rule_188 : decode b_Md_rule 188 = .ok (.if_icmp .ne 19, 3) := by decide +kernel
theorem d_Md_rule_191 : decode b_Md_rule 191 = .ok (.aload_n 0, 1) := by decide +kernel
theorem d_Md_rule_192 : decode b_Md_rule 192 = .ok (.getfield 71, 3) := by decide +kernel
theorem d_Md_rule_195 : decode b_Md_rule 195 = .ok (.iload_n 1, 1) := by decide +kernel
theorem d_Md_rule_196 : decode b_Md_rule 196 = .ok (.iconst 2, 1) := by decide +kernel
theorem d_Md_rule_197 : decode b_Md_rule 197 = .ok (.iadd, 1) := by decide +kernel
theorem d_Md_rule_198 : decode b_Md_rule 198 = .ok (.aload_n 0, 1) := by decide +kernel
theorem d_Md_rule_199 : decode b_Md_rule 199 = .ok (.iconst 1, 1) := by decide +kernel
theorem d_Md_rule_200 : decode b_Md_rule 200 = .ok (.invokevirtual 220, 3) := by decide +kernel
theorem d_Md_rule_203 : decode b_Md_rule 203 = .ok (.iastore, 1) := by decide +kernel
theorem d_Md_rule_204 : decode b_Md_rule 204 = .ok (.goto 27, 3) := by decide +kernel
theorem d_Md_rule_207 : decode b_Md_rule 207 = .ok (.aload_n 0, 1) := by decide +kernel
theorem d_Md_rule_208 : decode b_Md_rule 208 = .ok (.ldc2_w 224, 3) := by decide +kernel
theorem d_Md_rule_211 : decode b_Md_rule 211 = .ok (.iconst 2, 1) := by decide +kernel
theorem d_Md_rule_212 : decode b_Md_rule 212 = .ok (.invokevirtual 176, 3) := by decide +kernel
theorem d_Md_rule_215 : decode b_Md_rule 215 = .ok (.ifCond .eq 16, 3) := by decide +kernel
theorem d_Md_rule_218 : decode b_Md_rule 218 = .ok (.aload_n 0, 1) := by decide +kernel
theorem d_Md_rule_219 : decode b_Md_rule 219 = .ok (.getfield 71, 3) := by decide +kernel
theorem d_Md_rule_222 : decode b_Md_rule 222 = .ok (.iload_n 1, 1) := by decide +kernel
theorem d_Md_rule_223 : decode b_Md_rule 223 = .ok (.iconst 2, 1) := by decide +kernel
theorem d_Md_rule_224 : decode b_Md_rule 224 = .ok (.iadd, 1) := by decide +kernel
theorem d_Md_rule_225 : decode b_Md_rule 225 = .ok (.aload_n 0, 1) := by decide +kernel
theorem d_Md_rule_226 : decode b_Md_rule 226 = .ok (.iconst 0, 1) := by decide +kernel
theorem d_Md_rule_227 : decode b_Md_rule 227 = .ok (.invokevirtual 220, 3) := by decide +kernel
theorem d_Md_rule_230 : decode b_Md_rule 230 = .ok (.iastore, 1) := by decide +kernel
theorem d_Md_rule_231 : decode b_Md_rule 231 = .ok (.aload_n 0, 1) := by decide +kernel
theorem d_Md_rule_232 : decode b_Md_rule 232 = .ok (.invokevirtual 158, 3) := by decide +kernel
theorem d_Md_rule_235 : decode b_Md_rule 235 = .ok (.bipush 59, 2) := by decide +kernel
theorem d_Md_rule_237 : decode b_Md_rule 237 = .ok (.if_icmp .eq 12, 3) := by decide +kernel
theorem d_Md_rule_240 : decode b_Md_rule 240 = .ok (.aload_n 0, 1) := by decide +kernel
theorem d_Md_rule_241 : decode b_Md_rule 241 = .ok (.iconst 1, 1) := by decide +kernel
theorem d_Md_rule_242 : decode b_Md_rule 242 = .ok (.aload_n 0, 1) := by decide +kernel
theorem d_Md_rule_243 : decode b_Md_rule 243 = .ok (.getfield 77, 3) := by decide +kernel
theorem d_Md_rule_246 : decode b_Md_rule 246 = .ok (.invokevirtual 191, 3) := by decide +kernel
theorem d_Md_rule_249 : decode b_Md_rule 249 = .ok (.aload_n 0, 1) := by decide +kernel
theorem d_Md_rule_250 : decode b_Md_rule 250 = .ok (.dup, 1) := by decide +kernel
theorem d_Md_rule_251 : decode b_Md_rule 251 = .ok (.getfield 77, 3) := by decide +kernel
theorem d_Md_rule_254 : decode b_Md_rule 254 = .ok (.iconst 1, 1) := by decide +kernel
theorem d_Md_rule_255 : decode b_Md_rule 255 = .ok (.iadd, 1) := by decide +kernel
theorem d_Md_rule_256 : decode b_Md_rule 256 = .ok (.putfield 77, 3) := by decide +kernel
theorem d_Md_rule_259 : decode b_Md_rule 259 = .ok (.return_, 1) := by decide +kernel
theorem d_Md_passes_0 : decode b_Md_passes 0 = .ok (.aload_n 0, 1) := by decide +kernel
theorem d_Md_passes_1 : decode b_Md_passes 1 = .ok (.lload_n 1, 1) := by decide +kernel
theorem d_Md_passes_2 : decode b_Md_passes 2 = .ok (.iload_n 3, 1) := by decide +kernel
theorem d_Md_passes_3 : decode b_Md_passes 3 = .ok (.invokevirtual 170, 3) := by decide +kernel
theorem d_Md_passes_6 : decode b_Md_passes 6 = .ok (.istore 4, 2) := by decide +kernel
theorem d_Md_passes_8 : decode b_Md_passes 8 = .ok (.aload_n 0, 1) := by decide +kernel
theorem d_Md_passes_9 : decode b_Md_passes 9 = .ok (.dup, 1) := by decide +kernel
theorem d_Md_passes_10 : decode b_Md_passes 10 = .ok (.getfield 77, 3) := by decide +kernel
theorem d_Md_passes_13 : decode b_Md_passes 13 = .ok (.iload 4, 2) := by decide +kernel
theorem d_Md_passes_15 : decode b_Md_passes 15 = .ok (.ifCond .eq 7, 3) := by decide +kernel
theorem d_Md_passes_18 : decode b_Md_passes 18 = .ok (.iload_n 3, 1) := by decide +kernel
theorem d_Md_passes_19 : decode b_Md_passes 19 = .ok (.goto 4, 3) := by decide +kernel
theorem d_Md_passes_22 : decode b_Md_passes 22 = .ok (.iconst 0, 1) := by decide +kernel
theorem d_Md_passes_23 : decode b_Md_passes 23 = .ok (.iadd, 1) := by decide +kernel
theorem d_Md_passes_24 : decode b_Md_passes 24 = .ok (.putfield 77, 3) := by decide +kernel
theorem d_Md_passes_27 : decode b_Md_passes 27 = .ok (.iload 4, 2) := by decide +kernel
theorem d_Md_passes_29 : decode b_Md_passes 29 = .ok (.ireturn, 1) := by decide +kernel
theorem d_Md_spells_0 : decode b_Md_spells 0 = .ok (.aload_n 0, 1) := by decide +kernel
theorem d_Md_spells_1 : decode b_Md_spells 1 = .ok (.invokevirtual 165, 3) := by decide +kernel
theorem d_Md_spells_4 : decode b_Md_spells 4 = .ok (.iload_n 3, 1) := by decide +kernel
theorem d_Md_spells_5 : decode b_Md_spells 5 = .ok (.if_icmp .eq 5, 3) := by decide +kernel
theorem d_Md_spells_8 : decode b_Md_spells 8 = .ok (.iconst 0, 1) := by decide +kernel
theorem d_Md_spells_9 : decode b_Md_spells 9 = .ok (.ireturn, 1) := by decide +kernel
theorem d_Md_spells_10 : decode b_Md_spells 10 = .ok (.iconst 1, 1) := by decide +kernel
theorem d_Md_spells_11 : decode b_Md_spells 11 = .ok (.istore 4, 2) := by decide +kernel
theorem d_Md_spells_13 : decode b_Md_spells 13 = .ok (.iconst 0, 1) := by decide +kernel
theorem d_Md_spells_14 : decode b_Md_spells 14 = .ok (.istore 5, 2) := by decide +kernel
theorem d_Md_spells_16 : decode b_Md_spells 16 = .ok (.iload 5, 2) := by decide +kernel
theorem d_Md_spells_18 : decode b_Md_spells 18 = .ok (.iload_n 3, 1) := by decide +kernel
theorem d_Md_spells_19 : decode b_Md_spells 19 = .ok (.if_icmp .ge 52, 3) := by decide +kernel
theorem d_Md_spells_22 : decode b_Md_spells 22 = .ok (.iload 4, 2) := by decide +kernel
theorem d_Md_spells_24 : decode b_Md_spells 24 = .ok (.ifCond .eq 38, 3) := by decide +kernel
theorem d_Md_spells_27 : decode b_Md_spells 27 = .ok (.aload_n 0, 1) := by decide +kernel
theorem d_Md_spells_28 : decode b_Md_spells 28 = .ok (.getfield 7, 3) := by decide +kernel
theorem d_Md_spells_31 : decode b_Md_spells 31 = .ok (.aload_n 0, 1) := by decide +kernel
theorem d_Md_spells_32 : decode b_Md_spells 32 = .ok (.getfield 77, 3) := by decide +kernel
theorem d_Md_spells_35 : decode b_Md_spells 35 = .ok (.iload 5, 2) := by decide +kernel
theorem d_Md_spells_37 : decode b_Md_spells 37 = .ok (.iadd, 1) := by decide +kernel
theorem d_Md_spells_38 : decode b_Md_spells 38 = .ok (.iaload, 1) := by decide +kernel
theorem d_Md_spells_39 : decode b_Md_spells 39 = .ok (.lload_n 1, 1) := by decide +kernel
theorem d_Md_spells_40 : decode b_Md_spells 40 = .ok (.bipush 8, 2) := by decide +kernel
theorem d_Md_spells_42 : decode b_Md_spells 42 = .ok (.iload_n 3, 1) := by decide +kernel
theorem d_Md_spells_43 : decode b_Md_spells 43 = .ok (.iconst 1, 1) := by decide +kernel
theorem d_Md_spells_44 : decode b_Md_spells 44 = .ok (.isub, 1) := by decide +kernel
theorem d_Md_spells_45 : decode b_Md_spells 45 = .ok (.iload 5, 2) := by decide +kernel
theorem d_Md_spells_47 : decode b_Md_spells 47 = .ok (.isub, 1) := by decide +kernel
theorem d_Md_spells_48 : decode b_Md_spells 48 = .ok (.imul, 1) := by decide +kernel
theorem d_Md_spells_49 : decode b_Md_spells 49 = .ok (.lushr, 1) := by decide +kernel
theorem d_Md_spells_50 : decode b_Md_spells 50 = .ok (.ldc2_w 168, 3) := by decide +kernel
theorem d_Md_spells_53 : decode b_Md_spells 53 = .ok (.land, 1) := by decide +kernel
theorem d_Md_spells_54 : decode b_Md_spells 54 = .ok (.l2i, 1) := by decide +kernel
theorem d_Md_spells_55 : decode b_Md_spells 55 = .ok (.if_icmp .ne 7, 3) := by decide +kernel
theorem d_Md_spells_58 : decode b_Md_spells 58 = .ok (.iconst 1, 1) := by decide +kernel
theorem d_Md_spells_59 : decode b_Md_spells 59 = .ok (.goto 4, 3) := by decide +kernel
theorem d_Md_spells_62 : decode b_Md_spells 62 = .ok (.iconst 0, 1) := by decide +kernel
theorem d_Md_spells_63 : decode b_Md_spells 63 = .ok (.istore 4, 2) := by decide +kernel
theorem d_Md_spells_65 : decode b_Md_spells 65 = .ok (.iinc 5 1, 3) := by decide +kernel
theorem d_Md_spells_68 : decode b_Md_spells 68 = .ok (.goto (-52), 3) := by decide +kernel
theorem d_Md_spells_71 : decode b_Md_spells 71 = .ok (.iload 4, 2) := by decide +kernel
theorem d_Md_spells_73 : decode b_Md_spells 73 = .ok (.ireturn, 1) := by decide +kernel
theorem d_Md_wordSize_0 : decode b_Md_wordSize 0 = .ok (.iconst 0, 1) := by decide +kernel
theorem d_Md_wordSize_1 : decode b_Md_wordSize 1 = .ok (.istore_n 1, 1) := by decide +kernel
theorem d_Md_wordSize_2 : decode b_Md_wordSize 2 = .ok (.aload_n 0, 1) := by decide +kernel
theorem d_Md_wordSize_3 : decode b_Md_wordSize 3 = .ok (.invokevirtual 158, 3) := by decide +kernel
theorem d_Md_wordSize_6 : decode b_Md_wordSize 6 = .ok (.pop, 1) := by decide +kernel
theorem d_Md_wordSize_7 : decode b_Md_wordSize 7 = .ok (.aload_n 0, 1) := by decide +kernel
theorem d_Md_wordSize_8 : decode b_Md_wordSize 8 = .ok (.getfield 77, 3) := by decide +kernel
theorem d_Md_wordSize_11 : decode b_Md_wordSize 11 = .ok (.iload_n 1, 1) := by decide +kernel
theorem d_Md_wordSize_12 : decode b_Md_wordSize 12 = .ok (.iadd, 1) := by decide +kernel
theorem d_Md_wordSize_13 : decode b_Md_wordSize 13 = .ok (.aload_n 0, 1) := by decide +kernel
theorem d_Md_wordSize_14 : decode b_Md_wordSize 14 = .ok (.getfield 80, 3) := by decide +kernel
theorem d_Md_wordSize_17 : decode b_Md_wordSize 17 = .ok (.if_icmp .ge 26, 3) := by decide +kernel
theorem d_Md_wordSize_20 : decode b_Md_wordSize 20 = .ok (.aload_n 0, 1) := by decide +kernel
theorem d_Md_wordSize_21 : decode b_Md_wordSize 21 = .ok (.getfield 7, 3) := by decide +kernel
theorem d_Md_wordSize_24 : decode b_Md_wordSize 24 = .ok (.aload_n 0, 1) := by decide +kernel
theorem d_Md_wordSize_25 : decode b_Md_wordSize 25 = .ok (.getfield 77, 3) := by decide +kernel
theorem d_Md_wordSize_28 : decode b_Md_wordSize 28 = .ok (.iload_n 1, 1) := by decide +kernel
theorem d_Md_wordSize_29 : decode b_Md_wordSize 29 = .ok (.iadd, 1) := by decide +kernel
theorem d_Md_wordSize_30 : decode b_Md_wordSize 30 = .ok (.iaload, 1) := by decide +kernel
theorem d_Md_wordSize_31 : decode b_Md_wordSize 31 = .ok (.invokestatic 162, 3) := by decide +kernel
theorem d_Md_wordSize_34 : decode b_Md_wordSize 34 = .ok (.ifCond .eq 9, 3) := by decide +kernel
theorem d_Md_wordSize_37 : decode b_Md_wordSize 37 = .ok (.iinc 1 1, 3) := by decide +kernel
theorem d_Md_wordSize_40 : decode b_Md_wordSize 40 = .ok (.goto (-33), 3) := by decide +kernel
theorem d_Md_wordSize_43 : decode b_Md_wordSize 43 = .ok (.iload_n 1, 1) := by decide +kernel
theorem d_Md_wordSize_44 : decode b_Md_wordSize 44 = .ok (.ireturn, 1) := by decide +kernel
theorem d_Md_isLetter_0 : decode b_Md_isLetter 0 = .ok (.iload_n 0, 1) := by decide +kernel
theorem d_Md_isLetter_1 : decode b_Md_isLetter 1 = .ok (.bipush 97, 2) := by decide +kernel
theorem d_Md_isLetter_3 : decode b_Md_isLetter 3 = .ok (.if_icmp .lt 13, 3) := by decide +kernel
theorem d_Md_isLetter_6 : decode b_Md_isLetter 6 = .ok (.iload_n 0, 1) := by decide +kernel
theorem d_Md_isLetter_7 : decode b_Md_isLetter 7 = .ok (.bipush 122, 2) := by decide +kernel
theorem d_Md_isLetter_9 : decode b_Md_isLetter 9 = .ok (.if_icmp .gt 7, 3) := by decide +kernel
theorem d_Md_isLetter_12 : decode b_Md_isLetter 12 = .ok (.iconst 1, 1) := by decide +kernel
theorem d_Md_isLetter_13 : decode b_Md_isLetter 13 = .ok (.goto 4, 3) := by decide +kernel
theorem d_Md_isLetter_16 : decode b_Md_isLetter 16 = .ok (.iconst 0, 1) := by decide +kernel
theorem d_Md_isLetter_17 : decode b_Md_isLetter 17 = .ok (.ireturn, 1) := by decide +kernel
theorem d_Md_subject_0 : decode b_Md_subject 0 = .ok (.aload_n 0, 1) := by decide +kernel
theorem d_Md_subject_1 : decode b_Md_subject 1 = .ok (.ldc2_w 174, 3) := by decide +kernel
theorem d_Md_subject_4 : decode b_Md_subject 4 = .ok (.iconst 5, 1) := by decide +kernel
theorem d_Md_subject_5 : decode b_Md_subject 5 = .ok (.invokevirtual 176, 3) := by decide +kernel
theorem d_Md_subject_8 : decode b_Md_subject 8 = .ok (.ifCond .eq 5, 3) := by decide +kernel
theorem d_Md_subject_11 : decode b_Md_subject 11 = .ok (.iconst 0, 1) := by decide +kernel
theorem d_Md_subject_12 : decode b_Md_subject 12 = .ok (.ireturn, 1) := by decide +kernel
theorem d_Md_subject_13 : decode b_Md_subject 13 = .ok (.aload_n 0, 1) := by decide +kernel
theorem d_Md_subject_14 : decode b_Md_subject 14 = .ok (.ldc2_w 179, 3) := by decide +kernel
theorem d_Md_subject_17 : decode b_Md_subject 17 = .ok (.bipush 7, 2) := by decide +kernel
theorem d_Md_subject_19 : decode b_Md_subject 19 = .ok (.invokevirtual 176, 3) := by decide +kernel
theorem d_Md_subject_22 : decode b_Md_subject 22 = .ok (.ifCond .eq 5, 3) := by decide +kernel
theorem d_Md_subject_25 : decode b_Md_subject 25 = .ok (.iconst 1, 1) := by decide +kernel
theorem d_Md_subject_26 : decode b_Md_subject 26 = .ok (.ireturn, 1) := by decide +kernel
theorem d_Md_subject_27 : decode b_Md_subject 27 = .ok (.aload_n 0, 1) := by decide +kernel
theorem d_Md_subject_28 : decode b_Md_subject 28 = .ok (.ldc2_w 181, 3) := by decide +kernel
theorem d_Md_subject_31 : decode b_Md_subject 31 = .ok (.bipush 6, 2) := by decide +kernel
theorem d_Md_subject_33 : decode b_Md_subject 33 = .ok (.invokevirtual 176, 3) := by decide +kernel
theorem d_Md_subject_36 : decode b_Md_subject 36 = .ok (.ifCond .eq 5, 3) := by decide +kernel
theorem d_Md_subject_39 : decode b_Md_subject 39 = .ok (.iconst 2, 1) := by decide +kernel
theorem d_Md_subject_40 : decode b_Md_subject 40 = .ok (.ireturn, 1) := by decide +kernel
theorem d_Md_subject_41 : decode b_Md_subject 41 = .ok (.aload_n 0, 1) := by decide +kernel
theorem d_Md_subject_42 : decode b_Md_subject 42 = .ok (.ldc2_w 183, 3) := by decide +kernel
theorem d_Md_subject_45 : decode b_Md_subject 45 = .ok (.iconst 4, 1) := by decide +kernel
theorem d_Md_subject_46 : decode b_Md_subject 46 = .ok (.invokevirtual 176, 3) := by decide +kernel
theorem d_Md_subject_49 : decode b_Md_subject 49 = .ok (.ifCond .eq 5, 3) := by decide +kernel
theorem d_Md_subject_52 : decode b_Md_subject 52 = .ok (.iconst 3, 1) := by decide +kernel
theorem d_Md_subject_53 : decode b_Md_subject 53 = .ok (.ireturn, 1) := by decide +kernel
theorem d_Md_subject_54 : decode b_Md_subject 54 = .ok (.aload_n 0, 1) := by decide +kernel
theorem d_Md_subject_55 : decode b_Md_subject 55 = .ok (.ldc2_w 185, 3) := by decide +kernel
theorem d_Md_subject_58 : decode b_Md_subject 58 = .ok (.iconst 5, 1) := by decide +kernel
theorem d_Md_subject_59 : decode b_Md_subject 59 = .ok (.invokevirtual 176, 3) := by decide +kernel
theorem d_Md_subject_62 : decode b_Md_subject 62 = .ok (.ifCond .eq 5, 3) := by decide +kernel
theorem d_Md_subject_65 : decode b_Md_subject 65 = .ok (.iconst 4, 1) := by decide +kernel
theorem d_Md_subject_66 : decode b_Md_subject 66 = .ok (.ireturn, 1) := by decide +kernel
theorem d_Md_subject_67 : decode b_Md_subject 67 = .ok (.aload_n 0, 1) := by decide +kernel
theorem d_Md_subject_68 : decode b_Md_subject 68 = .ok (.ldc2_w 187, 3) := by decide +kernel
theorem d_Md_subject_71 : decode b_Md_subject 71 = .ok (.iconst 4, 1) := by decide +kernel
theorem d_Md_subject_72 : decode b_Md_subject 72 = .ok (.invokevirtual 176, 3) := by decide +kernel
theorem d_Md_subject_75 : decode b_Md_subject 75 = .ok (.ifCond .eq 5, 3) := by decide +kernel
theorem d_Md_subject_78 : decode b_Md_subject 78 = .ok (.iconst 5, 1) := by decide +kernel
theorem d_Md_subject_79 : decode b_Md_subject 79 = .ok (.ireturn, 1) := by decide +kernel
theorem d_Md_subject_80 : decode b_Md_subject 80 = .ok (.aload_n 0, 1) := by decide +kernel
theorem d_Md_subject_81 : decode b_Md_subject 81 = .ok (.ldc2_w 189, 3) := by decide +kernel
theorem d_Md_subject_84 : decode b_Md_subject 84 = .ok (.iconst 4, 1) := by decide +kernel
theorem d_Md_subject_85 : decode b_Md_subject 85 = .ok (.invokevirtual 176, 3) := by decide +kernel
theorem d_Md_subject_88 : decode b_Md_subject 88 = .ok (.ifCond .eq 6, 3) := by decide +kernel
theorem d_Md_subject_91 : decode b_Md_subject 91 = .ok (.bipush 6, 2) := by decide +kernel
theorem d_Md_subject_93 : decode b_Md_subject 93 = .ok (.ireturn, 1) := by decide +kernel
theorem d_Md_subject_94 : decode b_Md_subject 94 = .ok (.aload_n 0, 1) := by decide +kernel
theorem d_Md_subject_95 : decode b_Md_subject 95 = .ok (.iconst 1, 1) := by decide +kernel
theorem d_Md_subject_96 : decode b_Md_subject 96 = .ok (.aload_n 0, 1) := by decide +kernel
theorem d_Md_subject_97 : decode b_Md_subject 97 = .ok (.getfield 77, 3) := by decide +kernel
theorem d_Md_subject_100 : decode b_Md_subject 100 = .ok (.invokevirtual 191, 3) := by decide +kernel
theorem d_Md_subject_103 : decode b_Md_subject 103 = .ok (.iconst 0, 1) := by decide +kernel
theorem d_Md_subject_104 : decode b_Md_subject 104 = .ok (.ireturn, 1) := by decide +kernel
theorem d_Md_add_0 : decode b_Md_add 0 = .ok (.aload_n 0, 1) := by decide +kernel
theorem d_Md_add_1 : decode b_Md_add 1 = .ok (.getfield 71, 3) := by decide +kernel
theorem d_Md_add_4 : decode b_Md_add 4 = .ok (.aload_n 0, 1) := by decide +kernel
theorem d_Md_add_5 : decode b_Md_add 5 = .ok (.getfield 74, 3) := by decide +kernel
theorem d_Md_add_8 : decode b_Md_add 8 = .ok (.iload_n 1, 1) := by decide +kernel
theorem d_Md_add_9 : decode b_Md_add 9 = .ok (.iastore, 1) := by decide +kernel
theorem d_Md_add_10 : decode b_Md_add 10 = .ok (.aload_n 0, 1) := by decide +kernel
theorem d_Md_add_11 : decode b_Md_add 11 = .ok (.getfield 71, 3) := by decide +kernel
theorem d_Md_add_14 : decode b_Md_add 14 = .ok (.aload_n 0, 1) := by decide +kernel
theorem d_Md_add_15 : decode b_Md_add 15 = .ok (.getfield 74, 3) := by decide +kernel
theorem d_Md_add_18 : decode b_Md_add 18 = .ok (.iconst 1, 1) := by decide +kernel
theorem d_Md_add_19 : decode b_Md_add 19 = .ok (.iadd, 1) := by decide +kernel
theorem d_Md_add_20 : decode b_Md_add 20 = .ok (.iload_n 2, 1) := by decide +kernel
theorem d_Md_add_21 : decode b_Md_add 21 = .ok (.iastore, 1) := by decide +kernel
theorem d_Md_add_22 : decode b_Md_add 22 = .ok (.aload_n 0, 1) := by decide +kernel
theorem d_Md_add_23 : decode b_Md_add 23 = .ok (.getfield 71, 3) := by decide +kernel
theorem d_Md_add_26 : decode b_Md_add 26 = .ok (.aload_n 0, 1) := by decide +kernel
theorem d_Md_add_27 : decode b_Md_add 27 = .ok (.getfield 74, 3) := by decide +kernel
theorem d_Md_add_30 : decode b_Md_add 30 = .ok (.iconst 2, 1) := by decide +kernel
theorem d_Md_add_31 : decode b_Md_add 31 = .ok (.iadd, 1) := by decide +kernel
theorem d_Md_add_32 : decode b_Md_add 32 = .ok (.iload_n 3, 1) := by decide +kernel
theorem d_Md_add_33 : decode b_Md_add 33 = .ok (.iastore, 1) := by decide +kernel
theorem d_Md_add_34 : decode b_Md_add 34 = .ok (.aload_n 0, 1) := by decide +kernel
theorem d_Md_add_35 : decode b_Md_add 35 = .ok (.dup, 1) := by decide +kernel
theorem d_Md_add_36 : decode b_Md_add 36 = .ok (.getfield 74, 3) := by decide +kernel
theorem d_Md_add_39 : decode b_Md_add 39 = .ok (.iconst 3, 1) := by decide +kernel
theorem d_Md_add_40 : decode b_Md_add 40 = .ok (.iadd, 1) := by decide +kernel
theorem d_Md_add_41 : decode b_Md_add 41 = .ok (.putfield 74, 3) := by decide +kernel
theorem d_Md_add_44 : decode b_Md_add 44 = .ok (.return_, 1) := by decide +kernel
