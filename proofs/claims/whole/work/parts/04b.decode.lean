theorem dX8_init_0 : decode cX8_init 0 = .ok (.aload_n 0, 1) := by decide +kernel
theorem dX8_init_1 : decode cX8_init 1 = .ok (.invokespecial 1, 3) := by decide +kernel
theorem dX8_init_4 : decode cX8_init 4 = .ok (.aload_n 0, 1) := by decide +kernel
theorem dX8_init_5 : decode cX8_init 5 = .ok (.iconst 2, 1) := by decide +kernel
theorem dX8_init_6 : decode cX8_init 6 = .ok (.newarray .int, 2) := by decide +kernel
theorem dX8_init_8 : decode cX8_init 8 = .ok (.dup, 1) := by decide +kernel
theorem dX8_init_9 : decode cX8_init 9 = .ok (.iconst 0, 1) := by decide +kernel
theorem dX8_init_10 : decode cX8_init 10 = .ok (.iconst 2, 1) := by decide +kernel
theorem dX8_init_11 : decode cX8_init 11 = .ok (.iastore, 1) := by decide +kernel
theorem dX8_init_12 : decode cX8_init 12 = .ok (.dup, 1) := by decide +kernel
theorem dX8_init_13 : decode cX8_init 13 = .ok (.iconst 1, 1) := by decide +kernel
theorem dX8_init_14 : decode cX8_init 14 = .ok (.iconst 2, 1) := by decide +kernel
theorem dX8_init_15 : decode cX8_init 15 = .ok (.iastore, 1) := by decide +kernel
theorem dX8_init_16 : decode cX8_init 16 = .ok (.putfield 7, 3) := by decide +kernel
theorem dX8_init_19 : decode cX8_init 19 = .ok (.aload_n 0, 1) := by decide +kernel
theorem dX8_init_20 : decode cX8_init 20 = .ok (.iconst 2, 1) := by decide +kernel
theorem dX8_init_21 : decode cX8_init 21 = .ok (.newarray .int, 2) := by decide +kernel
theorem dX8_init_23 : decode cX8_init 23 = .ok (.putfield 13, 3) := by decide +kernel
theorem dX8_init_26 : decode cX8_init 26 = .ok (.aload_n 0, 1) := by decide +kernel
theorem dX8_init_27 : decode cX8_init 27 = .ok (.iconst 2, 1) := by decide +kernel
theorem dX8_init_28 : decode cX8_init 28 = .ok (.newarray .int, 2) := by decide +kernel
theorem dX8_init_30 : decode cX8_init 30 = .ok (.putfield 16, 3) := by decide +kernel
theorem dX8_init_33 : decode cX8_init 33 = .ok (.aload_n 0, 1) := by decide +kernel
theorem dX8_init_34 : decode cX8_init 34 = .ok (.iconst 2, 1) := by decide +kernel
theorem dX8_init_35 : decode cX8_init 35 = .ok (.newarray .int, 2) := by decide +kernel
theorem dX8_init_37 : decode cX8_init 37 = .ok (.dup, 1) := by decide +kernel
theorem dX8_init_38 : decode cX8_init 38 = .ok (.iconst 0, 1) := by decide +kernel
theorem dX8_init_39 : decode cX8_init 39 = .ok (.iconst 1, 1) := by decide +kernel
theorem dX8_init_40 : decode cX8_init 40 = .ok (.iastore, 1) := by decide +kernel
theorem dX8_init_41 : decode cX8_init 41 = .ok (.dup, 1) := by decide +kernel
theorem dX8_init_42 : decode cX8_init 42 = .ok (.iconst 1, 1) := by decide +kernel
theorem dX8_init_43 : decode cX8_init 43 = .ok (.iconst 1, 1) := by decide +kernel
theorem dX8_init_44 : decode cX8_init 44 = .ok (.iastore, 1) := by decide +kernel
theorem dX8_init_45 : decode cX8_init 45 = .ok (.putfield 19, 3) := by decide +kernel
theorem dX8_init_48 : decode cX8_init 48 = .ok (.aload_n 0, 1) := by decide +kernel
theorem dX8_init_49 : decode cX8_init 49 = .ok (.iconst 2, 1) := by decide +kernel
theorem dX8_init_50 : decode cX8_init 50 = .ok (.newarray .int, 2) := by decide +kernel
theorem dX8_init_52 : decode cX8_init 52 = .ok (.putfield 22, 3) := by decide +kernel
theorem dX8_init_55 : decode cX8_init 55 = .ok (.aload_n 0, 1) := by decide +kernel
theorem dX8_init_56 : decode cX8_init 56 = .ok (.iconst 2, 1) := by decide +kernel
theorem dX8_init_57 : decode cX8_init 57 = .ok (.newarray .int, 2) := by decide +kernel
theorem dX8_init_59 : decode cX8_init 59 = .ok (.putfield 25, 3) := by decide +kernel
theorem dX8_init_62 : decode cX8_init 62 = .ok (.aload_n 0, 1) := by decide +kernel
theorem dX8_init_63 : decode cX8_init 63 = .ok (.bipush 16, 2) := by decide +kernel
theorem dX8_init_65 : decode cX8_init 65 = .ok (.newarray .int, 2) := by decide +kernel
theorem dX8_init_67 : decode cX8_init 67 = .ok (.putfield 28, 3) := by decide +kernel
theorem dX8_init_70 : decode cX8_init 70 = .ok (.aload_n 0, 1) := by decide +kernel
theorem dX8_init_71 : decode cX8_init 71 = .ok (.sipush 160, 3) := by decide +kernel
theorem dX8_init_74 : decode cX8_init 74 = .ok (.newarray .int, 2) := by decide +kernel
theorem dX8_init_76 : decode cX8_init 76 = .ok (.putfield 31, 3) := by decide +kernel
theorem dX8_init_79 : decode cX8_init 79 = .ok (.aload_n 0, 1) := by decide +kernel
theorem dX8_init_80 : decode cX8_init 80 = .ok (.bipush 16, 2) := by decide +kernel
theorem dX8_init_82 : decode cX8_init 82 = .ok (.newarray .int, 2) := by decide +kernel
theorem dX8_init_84 : decode cX8_init 84 = .ok (.putfield 34, 3) := by decide +kernel
theorem dX8_init_87 : decode cX8_init 87 = .ok (.aload_n 0, 1) := by decide +kernel
theorem dX8_init_88 : decode cX8_init 88 = .ok (.bipush 18, 2) := by decide +kernel
theorem dX8_init_90 : decode cX8_init 90 = .ok (.newarray .int, 2) := by decide +kernel
theorem dX8_init_92 : decode cX8_init 92 = .ok (.putfield 37, 3) := by decide +kernel
theorem dX8_init_95 : decode cX8_init 95 = .ok (.aload_n 0, 1) := by decide +kernel
theorem dX8_init_96 : decode cX8_init 96 = .ok (.bipush 16, 2) := by decide +kernel
theorem dX8_init_98 : decode cX8_init 98 = .ok (.newarray .boolean, 2) := by decide +kernel
theorem dX8_init_100 : decode cX8_init 100 = .ok (.putfield 40, 3) := by decide +kernel
theorem dX8_init_103 : decode cX8_init 103 = .ok (.aload_n 0, 1) := by decide +kernel
theorem dX8_init_104 : decode cX8_init 104 = .ok (.sipush 600, 3) := by decide +kernel
theorem dX8_init_107 : decode cX8_init 107 = .ok (.newarray .int, 2) := by decide +kernel
theorem dX8_init_109 : decode cX8_init 109 = .ok (.putfield 44, 3) := by decide +kernel
theorem dX8_init_112 : decode cX8_init 112 = .ok (.aload_n 0, 1) := by decide +kernel
theorem dX8_init_113 : decode cX8_init 113 = .ok (.iconst (-1), 1) := by decide +kernel
theorem dX8_init_114 : decode cX8_init 114 = .ok (.putfield 47, 3) := by decide +kernel
theorem dX8_init_117 : decode cX8_init 117 = .ok (.aload_n 0, 1) := by decide +kernel
theorem dX8_init_118 : decode cX8_init 118 = .ok (.bipush 80, 2) := by decide +kernel
theorem dX8_init_120 : decode cX8_init 120 = .ok (.newarray .int, 2) := by decide +kernel
theorem dX8_init_122 : decode cX8_init 122 = .ok (.putfield 51, 3) := by decide +kernel
theorem dX8_init_125 : decode cX8_init 125 = .ok (.aload_n 0, 1) := by decide +kernel
theorem dX8_init_126 : decode cX8_init 126 = .ok (.sipush 256, 3) := by decide +kernel
theorem dX8_init_129 : decode cX8_init 129 = .ok (.newarray .int, 2) := by decide +kernel
theorem dX8_init_131 : decode cX8_init 131 = .ok (.putfield 54, 3) := by decide +kernel
theorem dX8_init_134 : decode cX8_init 134 = .ok (.aload_n 0, 1) := by decide +kernel
theorem dX8_init_135 : decode cX8_init 135 = .ok (.sipush 256, 3) := by decide +kernel
theorem dX8_init_138 : decode cX8_init 138 = .ok (.newarray .int, 2) := by decide +kernel
theorem dX8_init_140 : decode cX8_init 140 = .ok (.putfield 57, 3) := by decide +kernel
theorem dX8_init_143 : decode cX8_init 143 = .ok (.aload_n 0, 1) := by decide +kernel
theorem dX8_init_144 : decode cX8_init 144 = .ok (.iconst (-1), 1) := by decide +kernel
theorem dX8_init_145 : decode cX8_init 145 = .ok (.putfield 60, 3) := by decide +kernel
theorem dX8_init_148 : decode cX8_init 148 = .ok (.aload_n 0, 1) := by decide +kernel
theorem dX8_init_149 : decode cX8_init 149 = .ok (.bipush 9, 2) := by decide +kernel
theorem dX8_init_151 : decode cX8_init 151 = .ok (.newarray .int, 2) := by decide +kernel
theorem dX8_init_153 : decode cX8_init 153 = .ok (.putfield 63, 3) := by decide +kernel
theorem dX8_init_156 : decode cX8_init 156 = .ok (.aload_n 0, 1) := by decide +kernel
theorem dX8_init_157 : decode cX8_init 157 = .ok (.bipush 8, 2) := by decide +kernel
theorem dX8_init_159 : decode cX8_init 159 = .ok (.newarray .int, 2) := by decide +kernel
theorem dX8_init_161 : decode cX8_init 161 = .ok (.putfield 66, 3) := by decide +kernel
theorem dX8_init_164 : decode cX8_init 164 = .ok (.aload_n 0, 1) := by decide +kernel
theorem dX8_init_165 : decode cX8_init 165 = .ok (.iconst (-1), 1) := by decide +kernel
theorem dX8_init_166 : decode cX8_init 166 = .ok (.putfield 69, 3) := by decide +kernel
theorem dX8_init_169 : decode cX8_init 169 = .ok (.aload_n 0, 1) := by decide +kernel
theorem dX8_init_170 : decode cX8_init 170 = .ok (.sipush 1024, 3) := by decide +kernel
theorem dX8_init_173 : decode cX8_init 173 = .ok (.newarray .int, 2) := by decide +kernel
theorem dX8_init_175 : decode cX8_init 175 = .ok (.putfield 72, 3) := by decide +kernel
theorem dX8_init_178 : decode cX8_init 178 = .ok (.aload_n 0, 1) := by decide +kernel
theorem dX8_init_179 : decode cX8_init 179 = .ok (.sipush 1024, 3) := by decide +kernel
theorem dX8_init_182 : decode cX8_init 182 = .ok (.newarray .int, 2) := by decide +kernel
theorem dX8_init_184 : decode cX8_init 184 = .ok (.putfield 75, 3) := by decide +kernel
theorem dX8_init_187 : decode cX8_init 187 = .ok (.aload_n 0, 1) := by decide +kernel
theorem dX8_init_188 : decode cX8_init 188 = .ok (.iconst (-1), 1) := by decide +kernel
theorem dX8_init_189 : decode cX8_init 189 = .ok (.putfield 78, 3) := by decide +kernel
theorem dX8_init_192 : decode cX8_init 192 = .ok (.aload_n 0, 1) := by decide +kernel
theorem dX8_init_193 : decode cX8_init 193 = .ok (.iconst 5, 1) := by decide +kernel
theorem dX8_init_194 : decode cX8_init 194 = .ok (.newarray .int, 2) := by decide +kernel
theorem dX8_init_196 : decode cX8_init 196 = .ok (.putfield 81, 3) := by decide +kernel
theorem dX8_init_199 : decode cX8_init 199 = .ok (.aload_n 0, 1) := by decide +kernel
theorem dX8_init_200 : decode cX8_init 200 = .ok (.bipush 10, 2) := by decide +kernel
theorem dX8_init_202 : decode cX8_init 202 = .ok (.newarray .int, 2) := by decide +kernel
theorem dX8_init_204 : decode cX8_init 204 = .ok (.putfield 84, 3) := by decide +kernel
theorem dX8_init_207 : decode cX8_init 207 = .ok (.aload_n 0, 1) := by decide +kernel
theorem dX8_init_208 : decode cX8_init 208 = .ok (.bipush 8, 2) := by decide +kernel
theorem dX8_init_210 : decode cX8_init 210 = .ok (.newarray .int, 2) := by decide +kernel
theorem dX8_init_212 : decode cX8_init 212 = .ok (.putfield 87, 3) := by decide +kernel
theorem dX8_init_215 : decode cX8_init 215 = .ok (.aload_n 0, 1) := by decide +kernel
theorem dX8_init_216 : decode cX8_init 216 = .ok (.bipush 80, 2) := by decide +kernel
theorem dX8_init_218 : decode cX8_init 218 = .ok (.newarray .int, 2) := by decide +kernel
theorem dX8_init_220 : decode cX8_init 220 = .ok (.putfield 90, 3) := by decide +kernel
theorem dX8_init_223 : decode cX8_init 223 = .ok (.aload_n 0, 1) := by decide +kernel
theorem dX8_init_224 : decode cX8_init 224 = .ok (.sipush 1920, 3) := by decide +kernel
theorem dX8_init_227 : decode cX8_init 227 = .ok (.newarray .int, 2) := by decide +kernel
theorem dX8_init_229 : decode cX8_init 229 = .ok (.putfield 93, 3) := by decide +kernel
theorem dX8_init_232 : decode cX8_init 232 = .ok (.aload_n 0, 1) := by decide +kernel
theorem dX8_init_233 : decode cX8_init 233 = .ok (.sipush 1920, 3) := by decide +kernel
theorem dX8_init_236 : decode cX8_init 236 = .ok (.newarray .int, 2) := by decide +kernel
theorem dX8_init_238 : decode cX8_init 238 = .ok (.putfield 96, 3) := by decide +kernel
theorem dX8_init_241 : decode cX8_init 241 = .ok (.aload_n 0, 1) := by decide +kernel
theorem dX8_init_242 : decode cX8_init 242 = .ok (.bipush 10, 2) := by decide +kernel
theorem dX8_init_244 : decode cX8_init 244 = .ok (.newarray .int, 2) := by decide +kernel
theorem dX8_init_246 : decode cX8_init 246 = .ok (.putfield 99, 3) := by decide +kernel
theorem dX8_init_249 : decode cX8_init 249 = .ok (.aload_n 0, 1) := by decide +kernel
theorem dX8_init_250 : decode cX8_init 250 = .ok (.iconst (-1), 1) := by decide +kernel
theorem dX8_init_251 : decode cX8_init 251 = .ok (.putfield 102, 3) := by decide +kernel
theorem dX8_init_254 : decode cX8_init 254 = .ok (.aload_n 0, 1) := by decide +kernel
theorem dX8_init_255 : decode cX8_init 255 = .ok (.bipush 12, 2) := by decide +kernel
theorem dX8_init_257 : decode cX8_init 257 = .ok (.newarray .int, 2) := by decide +kernel
theorem dX8_init_259 : decode cX8_init 259 = .ok (.putfield 105, 3) := by decide +kernel
theorem dX8_init_262 : decode cX8_init 262 = .ok (.aload_n 0, 1) := by decide +kernel
theorem dX8_init_263 : decode cX8_init 263 = .ok (.bipush 108, 2) := by decide +kernel
theorem dX8_init_265 : decode cX8_init 265 = .ok (.newarray .int, 2) := by decide +kernel
theorem dX8_init_267 : decode cX8_init 267 = .ok (.putfield 108, 3) := by decide +kernel
theorem dX8_init_270 : decode cX8_init 270 = .ok (.aload_n 0, 1) := by decide +kernel
theorem dX8_init_271 : decode cX8_init 271 = .ok (.bipush 8, 2) := by decide +kernel
theorem dX8_init_273 : decode cX8_init 273 = .ok (.newarray .int, 2) := by decide +kernel
theorem dX8_init_275 : decode cX8_init 275 = .ok (.dup, 1) := by decide +kernel
theorem dX8_init_276 : decode cX8_init 276 = .ok (.iconst 0, 1) := by decide +kernel
theorem dX8_init_277 : decode cX8_init 277 = .ok (.iconst (-1), 1) := by decide +kernel
theorem dX8_init_278 : decode cX8_init 278 = .ok (.iastore, 1) := by decide +kernel
theorem dX8_init_279 : decode cX8_init 279 = .ok (.dup, 1) := by decide +kernel
theorem dX8_init_280 : decode cX8_init 280 = .ok (.iconst 1, 1) := by decide +kernel
theorem dX8_init_281 : decode cX8_init 281 = .ok (.iconst (-1), 1) := by decide +kernel
theorem dX8_init_282 : decode cX8_init 282 = .ok (.iastore, 1) := by decide +kernel
theorem dX8_init_283 : decode cX8_init 283 = .ok (.dup, 1) := by decide +kernel
theorem dX8_init_284 : decode cX8_init 284 = .ok (.iconst 2, 1) := by decide +kernel
theorem dX8_init_285 : decode cX8_init 285 = .ok (.iconst (-1), 1) := by decide +kernel
theorem dX8_init_286 : decode cX8_init 286 = .ok (.iastore, 1) := by decide +kernel
theorem dX8_init_287 : decode cX8_init 287 = .ok (.dup, 1) := by decide +kernel
theorem dX8_init_288 : decode cX8_init 288 = .ok (.iconst 3, 1) := by decide +kernel
theorem dX8_init_289 : decode cX8_init 289 = .ok (.iconst (-1), 1) := by decide +kernel
theorem dX8_init_290 : decode cX8_init 290 = .ok (.iastore, 1) := by decide +kernel
theorem dX8_init_291 : decode cX8_init 291 = .ok (.dup, 1) := by decide +kernel
theorem dX8_init_292 : decode cX8_init 292 = .ok (.iconst 4, 1) := by decide +kernel
theorem dX8_init_293 : decode cX8_init 293 = .ok (.iconst (-1), 1) := by decide +kernel
theorem dX8_init_294 : decode cX8_init 294 = .ok (.iastore, 1) := by decide +kernel
theorem dX8_init_295 : decode cX8_init 295 = .ok (.dup, 1) := by decide +kernel
theorem dX8_init_296 : decode cX8_init 296 = .ok (.iconst 5, 1) := by decide +kernel
theorem dX8_init_297 : decode cX8_init 297 = .ok (.iconst (-1), 1) := by decide +kernel
theorem dX8_init_298 : decode cX8_init 298 = .ok (.iastore, 1) := by decide +kernel
theorem dX8_init_299 : decode cX8_init 299 = .ok (.dup, 1) := by decide +kernel
theorem dX8_init_300 : decode cX8_init 300 = .ok (.bipush 6, 2) := by decide +kernel
theorem dX8_init_302 : decode cX8_init 302 = .ok (.iconst (-1), 1) := by decide +kernel
theorem dX8_init_303 : decode cX8_init 303 = .ok (.iastore, 1) := by decide +kernel
theorem dX8_init_304 : decode cX8_init 304 = .ok (.dup, 1) := by decide +kernel
theorem dX8_init_305 : decode cX8_init 305 = .ok (.bipush 7, 2) := by decide +kernel
theorem dX8_init_307 : decode cX8_init 307 = .ok (.iconst (-1), 1) := by decide +kernel
theorem dX8_init_308 : decode cX8_init 308 = .ok (.iastore, 1) := by decide +kernel
theorem dX8_init_309 : decode cX8_init 309 = .ok (.putfield 111, 3) := by decide +kernel
theorem dX8_init_312 : decode cX8_init 312 = .ok (.aload_n 0, 1) := by decide +kernel
theorem dX8_init_313 : decode cX8_init 313 = .ok (.bipush 8, 2) := by decide +kernel
theorem dX8_init_315 : decode cX8_init 315 = .ok (.newarray .int, 2) := by decide +kernel
theorem dX8_init_317 : decode cX8_init 317 = .ok (.putfield 114, 3) := by decide +kernel
theorem dX8_init_320 : decode cX8_init 320 = .ok (.return_, 1) := by decide +kernel
theorem dX8_thrown_0 : decode cX8_thrown 0 = .ok (.aload_n 0, 1) := by decide +kernel
theorem dX8_thrown_1 : decode cX8_thrown 1 = .ok (.getfield 117, 3) := by decide +kernel
theorem dX8_thrown_4 : decode cX8_thrown 4 = .ok (.ireturn, 1) := by decide +kernel
theorem dX8_fail_0 : decode cX8_fail 0 = .ok (.aload_n 0, 1) := by decide +kernel
theorem dX8_fail_1 : decode cX8_fail 1 = .ok (.iload_n 1, 1) := by decide +kernel
theorem dX8_fail_2 : decode cX8_fail 2 = .ok (.putfield 117, 3) := by decide +kernel
theorem dX8_fail_5 : decode cX8_fail 5 = .ok (.iconst 0, 1) := by decide +kernel
theorem dX8_fail_6 : decode cX8_fail 6 = .ok (.ireturn, 1) := by decide +kernel
theorem dX8_refuse_0 : decode cX8_refuse 0 = .ok (.aload_n 0, 1) := by decide +kernel
theorem dX8_refuse_1 : decode cX8_refuse 1 = .ok (.iload_n 1, 1) := by decide +kernel
theorem dX8_refuse_2 : decode cX8_refuse 2 = .ok (.putfield 117, 3) := by decide +kernel
theorem dX8_refuse_5 : decode cX8_refuse 5 = .ok (.iconst 0, 1) := by decide +kernel
theorem dX8_refuse_6 : decode cX8_refuse 6 = .ok (.ireturn, 1) := by decide +kernel
theorem dX8_isIn_0 : decode cX8_isIn 0 = .ok (.iload_n 0, 1) := by decide +kernel
theorem dX8_isIn_1 : decode cX8_isIn 1 = .ok (.iload_n 1, 1) := by decide +kernel
theorem dX8_isIn_2 : decode cX8_isIn 2 = .ok (.if_icmp .lt 12, 3) := by decide +kernel
theorem dX8_isIn_5 : decode cX8_isIn 5 = .ok (.iload_n 0, 1) := by decide +kernel
theorem dX8_isIn_6 : decode cX8_isIn 6 = .ok (.iload_n 2, 1) := by decide +kernel
theorem dX8_isIn_7 : decode cX8_isIn 7 = .ok (.if_icmp .gt 7, 3) := by decide +kernel
theorem dX8_isIn_10 : decode cX8_isIn 10 = .ok (.iconst 1, 1) := by decide +kernel
theorem dX8_isIn_11 : decode cX8_isIn 11 = .ok (.goto 4, 3) := by decide +kernel
theorem dX8_isIn_14 : decode cX8_isIn 14 = .ok (.iconst 0, 1) := by decide +kernel
theorem dX8_isIn_15 : decode cX8_isIn 15 = .ok (.ireturn, 1) := by decide +kernel
theorem dX8_isThing_0 : decode cX8_isThing 0 = .ok (.iload_n 1, 1) := by decide +kernel
theorem dX8_isThing_1 : decode cX8_isThing 1 = .ok (.iconst 0, 1) := by decide +kernel
theorem dX8_isThing_2 : decode cX8_isThing 2 = .ok (.aload_n 0, 1) := by decide +kernel
theorem dX8_isThing_3 : decode cX8_isThing 3 = .ok (.getfield 7, 3) := by decide +kernel
theorem dX8_isThing_6 : decode cX8_isThing 6 = .ok (.iconst 0, 1) := by decide +kernel
theorem dX8_isThing_7 : decode cX8_isThing 7 = .ok (.iaload, 1) := by decide +kernel
theorem dX8_isThing_8 : decode cX8_isThing 8 = .ok (.iconst 1, 1) := by decide +kernel
theorem dX8_isThing_9 : decode cX8_isThing 9 = .ok (.isub, 1) := by decide +kernel
theorem dX8_isThing_10 : decode cX8_isThing 10 = .ok (.invokestatic 120, 3) := by decide +kernel
theorem dX8_isThing_13 : decode cX8_isThing 13 = .ok (.ireturn, 1) := by decide +kernel
theorem dX8_isOne_0 : decode cX8_isOne 0 = .ok (.iload_n 1, 1) := by decide +kernel
theorem dX8_isOne_1 : decode cX8_isOne 1 = .ok (.iconst 0, 1) := by decide +kernel
theorem dX8_isOne_2 : decode cX8_isOne 2 = .ok (.aload_n 0, 1) := by decide +kernel
theorem dX8_isOne_3 : decode cX8_isOne 3 = .ok (.getfield 13, 3) := by decide +kernel
theorem dX8_isOne_6 : decode cX8_isOne 6 = .ok (.iconst 0, 1) := by decide +kernel
theorem dX8_isOne_7 : decode cX8_isOne 7 = .ok (.iaload, 1) := by decide +kernel
theorem dX8_isOne_8 : decode cX8_isOne 8 = .ok (.iconst 1, 1) := by decide +kernel
theorem dX8_isOne_9 : decode cX8_isOne 9 = .ok (.isub, 1) := by decide +kernel
theorem dX8_isOne_10 : decode cX8_isOne 10 = .ok (.invokestatic 120, 3) := by decide +kernel
theorem dX8_isOne_13 : decode cX8_isOne 13 = .ok (.ireturn, 1) := by decide +kernel
theorem dX8_feed_0 : decode cX8_feed 0 = .ok (.aload_n 0, 1) := by decide +kernel
theorem dX8_feed_1 : decode cX8_feed 1 = .ok (.iconst 0, 1) := by decide +kernel
theorem dX8_feed_2 : decode cX8_feed 2 = .ok (.putfield 117, 3) := by decide +kernel
theorem dX8_feed_5 : decode cX8_feed 5 = .ok (.aload_n 0, 1) := by decide +kernel
theorem dX8_feed_6 : decode cX8_feed 6 = .ok (.getfield 124, 3) := by decide +kernel
theorem dX8_feed_9 : decode cX8_feed 9 = .ok (.bipush 20, 2) := by decide +kernel
theorem dX8_feed_11 : decode cX8_feed 11 = .ok (.iadd, 1) := by decide +kernel
theorem dX8_feed_12 : decode cX8_feed 12 = .ok (.sipush 600, 3) := by decide +kernel
theorem dX8_feed_15 : decode cX8_feed 15 = .ok (.if_icmp .le 5, 3) := by decide +kernel
theorem dX8_feed_18 : decode cX8_feed 18 = .ok (.iconst (-1), 1) := by decide +kernel
theorem dX8_feed_19 : decode cX8_feed 19 = .ok (.ireturn, 1) := by decide +kernel
theorem dX8_feed_20 : decode cX8_feed 20 = .ok (.iconst 0, 1) := by decide +kernel
theorem dX8_feed_21 : decode cX8_feed 21 = .ok (.istore 6, 2) := by decide +kernel
theorem dX8_feed_23 : decode cX8_feed 23 = .ok (.iload 6, 2) := by decide +kernel
theorem dX8_feed_25 : decode cX8_feed 25 = .ok (.bipush 20, 2) := by decide +kernel
theorem dX8_feed_27 : decode cX8_feed 27 = .ok (.if_icmp .ge 93, 3) := by decide +kernel
theorem dX8_feed_30 : decode cX8_feed 30 = .ok (.iload 6, 2) := by decide +kernel
theorem dX8_feed_32 : decode cX8_feed 32 = .ok (.iconst 4, 1) := by decide +kernel
theorem dX8_feed_33 : decode cX8_feed 33 = .ok (.if_icmp .ge 7, 3) := by decide +kernel
theorem dX8_feed_36 : decode cX8_feed 36 = .ok (.iload_n 1, 1) := by decide +kernel
theorem dX8_feed_37 : decode cX8_feed 37 = .ok (.goto 39, 3) := by decide +kernel
theorem dX8_feed_40 : decode cX8_feed 40 = .ok (.iload 6, 2) := by decide +kernel
theorem dX8_feed_42 : decode cX8_feed 42 = .ok (.bipush 8, 2) := by decide +kernel
theorem dX8_feed_44 : decode cX8_feed 44 = .ok (.if_icmp .ge 7, 3) := by decide +kernel
theorem dX8_feed_47 : decode cX8_feed 47 = .ok (.iload_n 2, 1) := by decide +kernel
theorem dX8_feed_48 : decode cX8_feed 48 = .ok (.goto 28, 3) := by decide +kernel
theorem dX8_feed_51 : decode cX8_feed 51 = .ok (.iload 6, 2) := by decide +kernel
theorem dX8_feed_53 : decode cX8_feed 53 = .ok (.bipush 12, 2) := by decide +kernel
theorem dX8_feed_55 : decode cX8_feed 55 = .ok (.if_icmp .ge 7, 3) := by decide +kernel
theorem dX8_feed_58 : decode cX8_feed 58 = .ok (.iload_n 3, 1) := by decide +kernel
theorem dX8_feed_59 : decode cX8_feed 59 = .ok (.goto 17, 3) := by decide +kernel
theorem dX8_feed_62 : decode cX8_feed 62 = .ok (.iload 6, 2) := by decide +kernel
theorem dX8_feed_64 : decode cX8_feed 64 = .ok (.bipush 16, 2) := by decide +kernel
theorem dX8_feed_66 : decode cX8_feed 66 = .ok (.if_icmp .ge 8, 3) := by decide +kernel
theorem dX8_feed_69 : decode cX8_feed 69 = .ok (.iload 4, 2) := by decide +kernel
theorem dX8_feed_71 : decode cX8_feed 71 = .ok (.goto 5, 3) := by decide +kernel
theorem dX8_feed_74 : decode cX8_feed 74 = .ok (.iload 5, 2) := by decide +kernel
theorem dX8_feed_76 : decode cX8_feed 76 = .ok (.istore 7, 2) := by decide +kernel
theorem dX8_feed_78 : decode cX8_feed 78 = .ok (.aload_n 0, 1) := by decide +kernel
theorem dX8_feed_79 : decode cX8_feed 79 = .ok (.getfield 44, 3) := by decide +kernel
theorem dX8_feed_82 : decode cX8_feed 82 = .ok (.aload_n 0, 1) := by decide +kernel
theorem dX8_feed_83 : decode cX8_feed 83 = .ok (.getfield 124, 3) := by decide +kernel
theorem dX8_feed_86 : decode cX8_feed 86 = .ok (.iload 7, 2) := by decide +kernel
theorem dX8_feed_88 : decode cX8_feed 88 = .ok (.bipush 24, 2) := by decide +kernel
theorem dX8_feed_90 : decode cX8_feed 90 = .ok (.bipush 8, 2) := by decide +kernel
theorem dX8_feed_92 : decode cX8_feed 92 = .ok (.iload 6, 2) := by decide +kernel
theorem dX8_feed_94 : decode cX8_feed 94 = .ok (.iconst 4, 1) := by decide +kernel
theorem dX8_feed_95 : decode cX8_feed 95 = .ok (.irem, 1) := by decide +kernel
theorem dX8_feed_96 : decode cX8_feed 96 = .ok (.imul, 1) := by decide +kernel
theorem dX8_feed_97 : decode cX8_feed 97 = .ok (.isub, 1) := by decide +kernel
theorem dX8_feed_98 : decode cX8_feed 98 = .ok (.ishr, 1) := by decide +kernel
theorem dX8_feed_99 : decode cX8_feed 99 = .ok (.sipush 255, 3) := by decide +kernel
theorem dX8_feed_102 : decode cX8_feed 102 = .ok (.iand, 1) := by decide +kernel
theorem dX8_feed_103 : decode cX8_feed 103 = .ok (.iastore, 1) := by decide +kernel
theorem dX8_feed_104 : decode cX8_feed 104 = .ok (.aload_n 0, 1) := by decide +kernel
theorem dX8_feed_105 : decode cX8_feed 105 = .ok (.dup, 1) := by decide +kernel
theorem dX8_feed_106 : decode cX8_feed 106 = .ok (.getfield 124, 3) := by decide +kernel
theorem dX8_feed_109 : decode cX8_feed 109 = .ok (.iconst 1, 1) := by decide +kernel
theorem dX8_feed_110 : decode cX8_feed 110 = .ok (.iadd, 1) := by decide +kernel
theorem dX8_feed_111 : decode cX8_feed 111 = .ok (.putfield 124, 3) := by decide +kernel
theorem dX8_feed_114 : decode cX8_feed 114 = .ok (.iinc 6 1, 3) := by decide +kernel
theorem dX8_feed_117 : decode cX8_feed 117 = .ok (.goto (-94), 3) := by decide +kernel
theorem dX8_feed_120 : decode cX8_feed 120 = .ok (.aload_n 0, 1) := by decide +kernel
theorem dX8_feed_121 : decode cX8_feed 121 = .ok (.getfield 124, 3) := by decide +kernel
theorem dX8_feed_124 : decode cX8_feed 124 = .ok (.ireturn, 1) := by decide +kernel
theorem dX8_byteAt_0 : decode cX8_byteAt 0 = .ok (.iload_n 1, 1) := by decide +kernel
theorem dX8_byteAt_1 : decode cX8_byteAt 1 = .ok (.aload_n 0, 1) := by decide +kernel
theorem dX8_byteAt_2 : decode cX8_byteAt 2 = .ok (.getfield 127, 3) := by decide +kernel
theorem dX8_byteAt_5 : decode cX8_byteAt 5 = .ok (.if_icmp .ge 12, 3) := by decide +kernel
theorem dX8_byteAt_8 : decode cX8_byteAt 8 = .ok (.aload_n 0, 1) := by decide +kernel
theorem dX8_byteAt_9 : decode cX8_byteAt 9 = .ok (.getfield 44, 3) := by decide +kernel
theorem dX8_byteAt_12 : decode cX8_byteAt 12 = .ok (.iload_n 1, 1) := by decide +kernel
theorem dX8_byteAt_13 : decode cX8_byteAt 13 = .ok (.iaload, 1) := by decide +kernel
theorem dX8_byteAt_14 : decode cX8_byteAt 14 = .ok (.goto 4, 3) := by decide +kernel
theorem dX8_byteAt_17 : decode cX8_byteAt 17 = .ok (.iconst (-1), 1) := by decide +kernel
theorem dX8_byteAt_18 : decode cX8_byteAt 18 = .ok (.ireturn, 1) := by decide +kernel
theorem dX8_isLetter_0 : decode cX8_isLetter 0 = .ok (.iload_n 0, 1) := by decide +kernel
theorem dX8_isLetter_1 : decode cX8_isLetter 1 = .ok (.bipush 97, 2) := by decide +kernel
theorem dX8_isLetter_3 : decode cX8_isLetter 3 = .ok (.if_icmp .lt 13, 3) := by decide +kernel
theorem dX8_isLetter_6 : decode cX8_isLetter 6 = .ok (.iload_n 0, 1) := by decide +kernel
theorem dX8_isLetter_7 : decode cX8_isLetter 7 = .ok (.bipush 122, 2) := by decide +kernel
theorem dX8_isLetter_9 : decode cX8_isLetter 9 = .ok (.if_icmp .gt 7, 3) := by decide +kernel
theorem dX8_isLetter_12 : decode cX8_isLetter 12 = .ok (.iconst 1, 1) := by decide +kernel
theorem dX8_isLetter_13 : decode cX8_isLetter 13 = .ok (.goto 4, 3) := by decide +kernel
theorem dX8_isLetter_16 : decode cX8_isLetter 16 = .ok (.iconst 0, 1) := by decide +kernel
theorem dX8_isLetter_17 : decode cX8_isLetter 17 = .ok (.ireturn, 1) := by decide +kernel
theorem dX8_isDigit_0 : decode cX8_isDigit 0 = .ok (.iload_n 0, 1) := by decide +kernel
theorem dX8_isDigit_1 : decode cX8_isDigit 1 = .ok (.bipush 48, 2) := by decide +kernel
theorem dX8_isDigit_3 : decode cX8_isDigit 3 = .ok (.if_icmp .lt 13, 3) := by decide +kernel
theorem dX8_isDigit_6 : decode cX8_isDigit 6 = .ok (.iload_n 0, 1) := by decide +kernel
theorem dX8_isDigit_7 : decode cX8_isDigit 7 = .ok (.bipush 57, 2) := by decide +kernel
theorem dX8_isDigit_9 : decode cX8_isDigit 9 = .ok (.if_icmp .gt 7, 3) := by decide +kernel
theorem dX8_isDigit_12 : decode cX8_isDigit 12 = .ok (.iconst 1, 1) := by decide +kernel
theorem dX8_isDigit_13 : decode cX8_isDigit 13 = .ok (.goto 4, 3) := by decide +kernel
theorem dX8_isDigit_16 : decode cX8_isDigit 16 = .ok (.iconst 0, 1) := by decide +kernel
theorem dX8_isDigit_17 : decode cX8_isDigit 17 = .ok (.ireturn, 1) := by decide +kernel
theorem dX8_step_0 : decode cX8_step 0 = .ok (.aload_n 0, 1) := by decide +kernel
theorem dX8_step_1 : decode cX8_step 1 = .ok (.aload_n 0, 1) := by decide +kernel
theorem dX8_step_2 : decode cX8_step 2 = .ok (.getfield 130, 3) := by decide +kernel
theorem dX8_step_5 : decode cX8_step 5 = .ok (.invokevirtual 133, 3) := by decide +kernel
theorem dX8_step_8 : decode cX8_step 8 = .ok (.bipush 32, 2) := by decide +kernel
theorem dX8_step_10 : decode cX8_step 10 = .ok (.if_icmp .eq 16, 3) := by decide +kernel
theorem dX8_step_13 : decode cX8_step 13 = .ok (.aload_n 0, 1) := by decide +kernel
theorem dX8_step_14 : decode cX8_step 14 = .ok (.aload_n 0, 1) := by decide +kernel
theorem dX8_step_15 : decode cX8_step 15 = .ok (.getfield 130, 3) := by decide +kernel
theorem dX8_step_18 : decode cX8_step 18 = .ok (.invokevirtual 133, 3) := by decide +kernel
theorem dX8_step_21 : decode cX8_step 21 = .ok (.bipush 10, 2) := by decide +kernel
theorem dX8_step_23 : decode cX8_step 23 = .ok (.if_icmp .ne 16, 3) := by decide +kernel
theorem dX8_step_26 : decode cX8_step 26 = .ok (.aload_n 0, 1) := by decide +kernel
theorem dX8_step_27 : decode cX8_step 27 = .ok (.dup, 1) := by decide +kernel
theorem dX8_step_28 : decode cX8_step 28 = .ok (.getfield 130, 3) := by decide +kernel
theorem dX8_step_31 : decode cX8_step 31 = .ok (.iconst 1, 1) := by decide +kernel
theorem dX8_step_32 : decode cX8_step 32 = .ok (.iadd, 1) := by decide +kernel
theorem dX8_step_33 : decode cX8_step 33 = .ok (.putfield 130, 3) := by decide +kernel
theorem dX8_step_36 : decode cX8_step 36 = .ok (.goto (-36), 3) := by decide +kernel
theorem dX8_step_39 : decode cX8_step 39 = .ok (.aload_n 0, 1) := by decide +kernel
theorem dX8_step_40 : decode cX8_step 40 = .ok (.aload_n 0, 1) := by decide +kernel
theorem dX8_step_41 : decode cX8_step 41 = .ok (.getfield 130, 3) := by decide +kernel
theorem dX8_step_44 : decode cX8_step 44 = .ok (.putfield 137, 3) := by decide +kernel
theorem dX8_step_47 : decode cX8_step 47 = .ok (.aload_n 0, 1) := by decide +kernel
theorem dX8_step_48 : decode cX8_step 48 = .ok (.aload_n 0, 1) := by decide +kernel
theorem dX8_step_49 : decode cX8_step 49 = .ok (.getfield 130, 3) := by decide +kernel
theorem dX8_step_52 : decode cX8_step 52 = .ok (.invokevirtual 133, 3) := by decide +kernel
theorem dX8_step_55 : decode cX8_step 55 = .ok (.istore_n 1, 1) := by decide +kernel
theorem dX8_step_56 : decode cX8_step 56 = .ok (.iload_n 1, 1) := by decide +kernel
theorem dX8_step_57 : decode cX8_step 57 = .ok (.iconst (-1), 1) := by decide +kernel
theorem dX8_step_58 : decode cX8_step 58 = .ok (.if_icmp .ne 11, 3) := by decide +kernel
theorem dX8_step_61 : decode cX8_step 61 = .ok (.aload_n 0, 1) := by decide +kernel
theorem dX8_step_62 : decode cX8_step 62 = .ok (.iconst 0, 1) := by decide +kernel
theorem dX8_step_63 : decode cX8_step 63 = .ok (.putfield 140, 3) := by decide +kernel
theorem dX8_step_66 : decode cX8_step 66 = .ok (.goto 146, 3) := by decide +kernel
theorem dX8_step_69 : decode cX8_step 69 = .ok (.iload_n 1, 1) := by decide +kernel
theorem dX8_step_70 : decode cX8_step 70 = .ok (.invokestatic 143, 3) := by decide +kernel
theorem dX8_step_73 : decode cX8_step 73 = .ok (.ifCond .eq 38, 3) := by decide +kernel
theorem dX8_step_76 : decode cX8_step 76 = .ok (.aload_n 0, 1) := by decide +kernel
theorem dX8_step_77 : decode cX8_step 77 = .ok (.aload_n 0, 1) := by decide +kernel
theorem dX8_step_78 : decode cX8_step 78 = .ok (.getfield 130, 3) := by decide +kernel
theorem dX8_step_81 : decode cX8_step 81 = .ok (.invokevirtual 133, 3) := by decide +kernel
theorem dX8_step_84 : decode cX8_step 84 = .ok (.invokestatic 143, 3) := by decide +kernel
theorem dX8_step_87 : decode cX8_step 87 = .ok (.ifCond .eq 16, 3) := by decide +kernel
theorem dX8_step_90 : decode cX8_step 90 = .ok (.aload_n 0, 1) := by decide +kernel
theorem dX8_step_91 : decode cX8_step 91 = .ok (.dup, 1) := by decide +kernel
theorem dX8_step_92 : decode cX8_step 92 = .ok (.getfield 130, 3) := by decide +kernel
theorem dX8_step_95 : decode cX8_step 95 = .ok (.iconst 1, 1) := by decide +kernel
theorem dX8_step_96 : decode cX8_step 96 = .ok (.iadd, 1) := by decide +kernel
theorem dX8_step_97 : decode cX8_step 97 = .ok (.putfield 130, 3) := by decide +kernel
theorem dX8_step_100 : decode cX8_step 100 = .ok (.goto (-24), 3) := by decide +kernel
theorem dX8_step_103 : decode cX8_step 103 = .ok (.aload_n 0, 1) := by decide +kernel
theorem dX8_step_104 : decode cX8_step 104 = .ok (.iconst 1, 1) := by decide +kernel
theorem dX8_step_105 : decode cX8_step 105 = .ok (.putfield 140, 3) := by decide +kernel
theorem dX8_step_108 : decode cX8_step 108 = .ok (.goto 104, 3) := by decide +kernel
theorem dX8_step_111 : decode cX8_step 111 = .ok (.iload_n 1, 1) := by decide +kernel
theorem dX8_step_112 : decode cX8_step 112 = .ok (.invokestatic 147, 3) := by decide +kernel
theorem dX8_step_115 : decode cX8_step 115 = .ok (.ifCond .eq 72, 3) := by decide +kernel
theorem dX8_step_118 : decode cX8_step 118 = .ok (.aload_n 0, 1) := by decide +kernel
theorem dX8_step_119 : decode cX8_step 119 = .ok (.iconst 0, 1) := by decide +kernel
theorem dX8_step_120 : decode cX8_step 120 = .ok (.putfield 150, 3) := by decide +kernel
theorem dX8_step_123 : decode cX8_step 123 = .ok (.aload_n 0, 1) := by decide +kernel
theorem dX8_step_124 : decode cX8_step 124 = .ok (.aload_n 0, 1) := by decide +kernel
theorem dX8_step_125 : decode cX8_step 125 = .ok (.getfield 130, 3) := by decide +kernel
theorem dX8_step_128 : decode cX8_step 128 = .ok (.invokevirtual 133, 3) := by decide +kernel
theorem dX8_step_131 : decode cX8_step 131 = .ok (.invokestatic 147, 3) := by decide +kernel
theorem dX8_step_134 : decode cX8_step 134 = .ok (.ifCond .eq 45, 3) := by decide +kernel
theorem dX8_step_137 : decode cX8_step 137 = .ok (.aload_n 0, 1) := by decide +kernel
theorem dX8_step_138 : decode cX8_step 138 = .ok (.sipush 10000, 3) := by decide +kernel
theorem dX8_step_141 : decode cX8_step 141 = .ok (.bipush 10, 2) := by decide +kernel
theorem dX8_step_143 : decode cX8_step 143 = .ok (.aload_n 0, 1) := by decide +kernel
theorem dX8_step_144 : decode cX8_step 144 = .ok (.getfield 150, 3) := by decide +kernel
theorem dX8_step_147 : decode cX8_step 147 = .ok (.imul, 1) := by decide +kernel
theorem dX8_step_148 : decode cX8_step 148 = .ok (.aload_n 0, 1) := by decide +kernel
theorem dX8_step_149 : decode cX8_step 149 = .ok (.aload_n 0, 1) := by decide +kernel
theorem dX8_step_150 : decode cX8_step 150 = .ok (.getfield 130, 3) := by decide +kernel
theorem dX8_step_153 : decode cX8_step 153 = .ok (.invokevirtual 133, 3) := by decide +kernel
theorem dX8_step_156 : decode cX8_step 156 = .ok (.iadd, 1) := by decide +kernel
theorem dX8_step_157 : decode cX8_step 157 = .ok (.bipush 48, 2) := by decide +kernel
theorem dX8_step_159 : decode cX8_step 159 = .ok (.isub, 1) := by decide +kernel
theorem dX8_step_160 : decode cX8_step 160 = .ok (.invokestatic 153, 3) := by decide +kernel
theorem dX8_step_163 : decode cX8_step 163 = .ok (.putfield 150, 3) := by decide +kernel
theorem dX8_step_166 : decode cX8_step 166 = .ok (.aload_n 0, 1) := by decide +kernel
theorem dX8_step_167 : decode cX8_step 167 = .ok (.dup, 1) := by decide +kernel
theorem dX8_step_168 : decode cX8_step 168 = .ok (.getfield 130, 3) := by decide +kernel
theorem dX8_step_171 : decode cX8_step 171 = .ok (.iconst 1, 1) := by decide +kernel
theorem dX8_step_172 : decode cX8_step 172 = .ok (.iadd, 1) := by decide +kernel
theorem dX8_step_173 : decode cX8_step 173 = .ok (.putfield 130, 3) := by decide +kernel
theorem dX8_step_176 : decode cX8_step 176 = .ok (.goto (-53), 3) := by decide +kernel
theorem dX8_step_179 : decode cX8_step 179 = .ok (.aload_n 0, 1) := by decide +kernel
theorem dX8_step_180 : decode cX8_step 180 = .ok (.iconst 2, 1) := by decide +kernel
theorem dX8_step_181 : decode cX8_step 181 = .ok (.putfield 140, 3) := by decide +kernel
theorem dX8_step_184 : decode cX8_step 184 = .ok (.goto 28, 3) := by decide +kernel
theorem dX8_step_187 : decode cX8_step 187 = .ok (.aload_n 0, 1) := by decide +kernel
theorem dX8_step_188 : decode cX8_step 188 = .ok (.dup, 1) := by decide +kernel
theorem dX8_step_189 : decode cX8_step 189 = .ok (.getfield 130, 3) := by decide +kernel
theorem dX8_step_192 : decode cX8_step 192 = .ok (.iconst 1, 1) := by decide +kernel
theorem dX8_step_193 : decode cX8_step 193 = .ok (.iadd, 1) := by decide +kernel
theorem dX8_step_194 : decode cX8_step 194 = .ok (.putfield 130, 3) := by decide +kernel
theorem dX8_step_197 : decode cX8_step 197 = .ok (.aload_n 0, 1) := by decide +kernel
theorem dX8_step_198 : decode cX8_step 198 = .ok (.iload_n 1, 1) := by decide +kernel
theorem dX8_step_199 : decode cX8_step 199 = .ok (.bipush 59, 2) := by decide +kernel
theorem dX8_step_201 : decode cX8_step 201 = .ok (.if_icmp .ne 7, 3) := by decide +kernel
theorem dX8_step_204 : decode cX8_step 204 = .ok (.iconst 3, 1) := by decide +kernel
theorem dX8_step_205 : decode cX8_step 205 = .ok (.goto 4, 3) := by decide +kernel
theorem dX8_step_208 : decode cX8_step 208 = .ok (.iconst 4, 1) := by decide +kernel
theorem dX8_step_209 : decode cX8_step 209 = .ok (.putfield 140, 3) := by decide +kernel
theorem dX8_step_212 : decode cX8_step 212 = .ok (.aload_n 0, 1) := by decide +kernel
theorem dX8_step_213 : decode cX8_step 213 = .ok (.aload_n 0, 1) := by decide +kernel
theorem dX8_step_214 : decode cX8_step 214 = .ok (.getfield 130, 3) := by decide +kernel
theorem dX8_step_217 : decode cX8_step 217 = .ok (.putfield 159, 3) := by decide +kernel
theorem dX8_step_220 : decode cX8_step 220 = .ok (.return_, 1) := by decide +kernel
theorem dX8_wrong_0 : decode cX8_wrong 0 = .ok (.aload_n 0, 1) := by decide +kernel
theorem dX8_wrong_1 : decode cX8_wrong 1 = .ok (.getfield 162, 3) := by decide +kernel
theorem dX8_wrong_4 : decode cX8_wrong 4 = .ok (.ifCond .eq 4, 3) := by decide +kernel
theorem dX8_wrong_7 : decode cX8_wrong 7 = .ok (.return_, 1) := by decide +kernel
theorem dX8_wrong_8 : decode cX8_wrong 8 = .ok (.aload_n 0, 1) := by decide +kernel
theorem dX8_wrong_9 : decode cX8_wrong 9 = .ok (.iload_n 1, 1) := by decide +kernel
theorem dX8_wrong_10 : decode cX8_wrong 10 = .ok (.putfield 162, 3) := by decide +kernel
theorem dX8_wrong_13 : decode cX8_wrong 13 = .ok (.aload_n 0, 1) := by decide +kernel
theorem dX8_wrong_14 : decode cX8_wrong 14 = .ok (.aload_n 0, 1) := by decide +kernel
theorem dX8_wrong_15 : decode cX8_wrong 15 = .ok (.getfield 137, 3) := by decide +kernel
theorem dX8_wrong_18 : decode cX8_wrong 18 = .ok (.putfield 165, 3) := by decide +kernel
theorem dX8_wrong_21 : decode cX8_wrong 21 = .ok (.return_, 1) := by decide +kernel
theorem dX8_is_0 : decode cX8_is 0 = .ok (.aload_n 0, 1) := by decide +kernel
theorem dX8_is_1 : decode cX8_is 1 = .ok (.getfield 162, 3) := by decide +kernel
theorem dX8_is_4 : decode cX8_is 4 = .ok (.ifCond .ne 31, 3) := by decide +kernel
theorem dX8_is_7 : decode cX8_is 7 = .ok (.aload_n 0, 1) := by decide +kernel
theorem dX8_is_8 : decode cX8_is 8 = .ok (.getfield 140, 3) := by decide +kernel
theorem dX8_is_11 : decode cX8_is 11 = .ok (.iconst 1, 1) := by decide +kernel
theorem dX8_is_12 : decode cX8_is 12 = .ok (.if_icmp .ne 23, 3) := by decide +kernel
theorem dX8_is_15 : decode cX8_is 15 = .ok (.aload_n 1, 1) := by decide +kernel
theorem dX8_is_16 : decode cX8_is 16 = .ok (.invokevirtual 168, 3) := by decide +kernel
theorem dX8_is_19 : decode cX8_is 19 = .ok (.aload_n 0, 1) := by decide +kernel
theorem dX8_is_20 : decode cX8_is 20 = .ok (.getfield 159, 3) := by decide +kernel
theorem dX8_is_23 : decode cX8_is 23 = .ok (.aload_n 0, 1) := by decide +kernel
theorem dX8_is_24 : decode cX8_is 24 = .ok (.getfield 137, 3) := by decide +kernel
theorem dX8_is_27 : decode cX8_is 27 = .ok (.isub, 1) := by decide +kernel
theorem dX8_is_28 : decode cX8_is 28 = .ok (.if_icmp .ne 7, 3) := by decide +kernel
theorem dX8_is_31 : decode cX8_is 31 = .ok (.iconst 1, 1) := by decide +kernel
theorem dX8_is_32 : decode cX8_is 32 = .ok (.goto 4, 3) := by decide +kernel
theorem dX8_is_35 : decode cX8_is 35 = .ok (.iconst 0, 1) := by decide +kernel
theorem dX8_is_36 : decode cX8_is 36 = .ok (.istore_n 2, 1) := by decide +kernel
theorem dX8_is_37 : decode cX8_is 37 = .ok (.iconst 0, 1) := by decide +kernel
theorem dX8_is_38 : decode cX8_is 38 = .ok (.istore_n 3, 1) := by decide +kernel
theorem dX8_is_39 : decode cX8_is 39 = .ok (.iload_n 2, 1) := by decide +kernel
theorem dX8_is_40 : decode cX8_is 40 = .ok (.ifCond .eq 42, 3) := by decide +kernel
theorem dX8_is_43 : decode cX8_is 43 = .ok (.iload_n 3, 1) := by decide +kernel
theorem dX8_is_44 : decode cX8_is 44 = .ok (.aload_n 1, 1) := by decide +kernel
theorem dX8_is_45 : decode cX8_is 45 = .ok (.invokevirtual 168, 3) := by decide +kernel
theorem dX8_is_48 : decode cX8_is 48 = .ok (.if_icmp .ge 34, 3) := by decide +kernel
theorem dX8_is_51 : decode cX8_is 51 = .ok (.aload_n 1, 1) := by decide +kernel
theorem dX8_is_52 : decode cX8_is 52 = .ok (.iload_n 3, 1) := by decide +kernel
theorem dX8_is_53 : decode cX8_is 53 = .ok (.invokevirtual 174, 3) := by decide +kernel
theorem dX8_is_56 : decode cX8_is 56 = .ok (.aload_n 0, 1) := by decide +kernel
theorem dX8_is_57 : decode cX8_is 57 = .ok (.getfield 44, 3) := by decide +kernel
theorem dX8_is_60 : decode cX8_is 60 = .ok (.aload_n 0, 1) := by decide +kernel
theorem dX8_is_61 : decode cX8_is 61 = .ok (.getfield 137, 3) := by decide +kernel
theorem dX8_is_64 : decode cX8_is 64 = .ok (.iload_n 3, 1) := by decide +kernel
theorem dX8_is_65 : decode cX8_is 65 = .ok (.iadd, 1) := by decide +kernel
theorem dX8_is_66 : decode cX8_is 66 = .ok (.iaload, 1) := by decide +kernel
theorem dX8_is_67 : decode cX8_is 67 = .ok (.if_icmp .ne 7, 3) := by decide +kernel
theorem dX8_is_70 : decode cX8_is 70 = .ok (.iconst 1, 1) := by decide +kernel
theorem dX8_is_71 : decode cX8_is 71 = .ok (.goto 4, 3) := by decide +kernel
theorem dX8_is_74 : decode cX8_is 74 = .ok (.iconst 0, 1) := by decide +kernel
theorem dX8_is_75 : decode cX8_is 75 = .ok (.istore_n 2, 1) := by decide +kernel
theorem dX8_is_76 : decode cX8_is 76 = .ok (.iinc 3 1, 3) := by decide +kernel
theorem dX8_is_79 : decode cX8_is 79 = .ok (.goto (-40), 3) := by decide +kernel
theorem dX8_is_82 : decode cX8_is 82 = .ok (.iload_n 2, 1) := by decide +kernel
theorem dX8_is_83 : decode cX8_is 83 = .ok (.ireturn, 1) := by decide +kernel
theorem dX8_word_0 : decode cX8_word 0 = .ok (.aload_n 0, 1) := by decide +kernel
theorem dX8_word_1 : decode cX8_word 1 = .ok (.getfield 162, 3) := by decide +kernel
theorem dX8_word_4 : decode cX8_word 4 = .ok (.ifCond .ne 16, 3) := by decide +kernel
theorem dX8_word_7 : decode cX8_word 7 = .ok (.aload_n 0, 1) := by decide +kernel
theorem dX8_word_8 : decode cX8_word 8 = .ok (.aload_n 1, 1) := by decide +kernel
theorem dX8_word_9 : decode cX8_word 9 = .ok (.invokevirtual 178, 3) := by decide +kernel
theorem dX8_word_12 : decode cX8_word 12 = .ok (.ifCond .ne 8, 3) := by decide +kernel
theorem dX8_word_15 : decode cX8_word 15 = .ok (.aload_n 0, 1) := by decide +kernel
theorem dX8_word_16 : decode cX8_word 16 = .ok (.iconst 1, 1) := by decide +kernel
theorem dX8_word_17 : decode cX8_word 17 = .ok (.invokevirtual 182, 3) := by decide +kernel
theorem dX8_word_20 : decode cX8_word 20 = .ok (.aload_n 0, 1) := by decide +kernel
theorem dX8_word_21 : decode cX8_word 21 = .ok (.getfield 162, 3) := by decide +kernel
theorem dX8_word_24 : decode cX8_word 24 = .ok (.ifCond .ne 7, 3) := by decide +kernel
theorem dX8_word_27 : decode cX8_word 27 = .ok (.aload_n 0, 1) := by decide +kernel
theorem dX8_word_28 : decode cX8_word 28 = .ok (.invokevirtual 186, 3) := by decide +kernel
theorem dX8_word_31 : decode cX8_word 31 = .ok (.return_, 1) := by decide +kernel
theorem dX8_isNumber_0 : decode cX8_isNumber 0 = .ok (.aload_n 0, 1) := by decide +kernel
theorem dX8_isNumber_1 : decode cX8_isNumber 1 = .ok (.getfield 162, 3) := by decide +kernel
theorem dX8_isNumber_4 : decode cX8_isNumber 4 = .ok (.ifCond .ne 15, 3) := by decide +kernel
theorem dX8_isNumber_7 : decode cX8_isNumber 7 = .ok (.aload_n 0, 1) := by decide +kernel
theorem dX8_isNumber_8 : decode cX8_isNumber 8 = .ok (.getfield 140, 3) := by decide +kernel
theorem dX8_isNumber_11 : decode cX8_isNumber 11 = .ok (.iconst 2, 1) := by decide +kernel
theorem dX8_isNumber_12 : decode cX8_isNumber 12 = .ok (.if_icmp .ne 7, 3) := by decide +kernel
theorem dX8_isNumber_15 : decode cX8_isNumber 15 = .ok (.iconst 1, 1) := by decide +kernel
theorem dX8_isNumber_16 : decode cX8_isNumber 16 = .ok (.goto 4, 3) := by decide +kernel
theorem dX8_isNumber_19 : decode cX8_isNumber 19 = .ok (.iconst 0, 1) := by decide +kernel
theorem dX8_isNumber_20 : decode cX8_isNumber 20 = .ok (.ireturn, 1) := by decide +kernel
theorem dX8_readNumber_0 : decode cX8_readNumber 0 = .ok (.aload_n 0, 1) := by decide +kernel
theorem dX8_readNumber_1 : decode cX8_readNumber 1 = .ok (.getfield 162, 3) := by decide +kernel
theorem dX8_readNumber_4 : decode cX8_readNumber 4 = .ok (.ifCond .eq 5, 3) := by decide +kernel
theorem dX8_readNumber_7 : decode cX8_readNumber 7 = .ok (.iconst 0, 1) := by decide +kernel
theorem dX8_readNumber_8 : decode cX8_readNumber 8 = .ok (.ireturn, 1) := by decide +kernel
theorem dX8_readNumber_9 : decode cX8_readNumber 9 = .ok (.aload_n 0, 1) := by decide +kernel
theorem dX8_readNumber_10 : decode cX8_readNumber 10 = .ok (.getfield 140, 3) := by decide +kernel
theorem dX8_readNumber_13 : decode cX8_readNumber 13 = .ok (.iconst 2, 1) := by decide +kernel
theorem dX8_readNumber_14 : decode cX8_readNumber 14 = .ok (.if_icmp .eq 11, 3) := by decide +kernel
theorem dX8_readNumber_17 : decode cX8_readNumber 17 = .ok (.aload_n 0, 1) := by decide +kernel
theorem dX8_readNumber_18 : decode cX8_readNumber 18 = .ok (.iconst 1, 1) := by decide +kernel
theorem dX8_readNumber_19 : decode cX8_readNumber 19 = .ok (.invokevirtual 182, 3) := by decide +kernel
theorem dX8_readNumber_22 : decode cX8_readNumber 22 = .ok (.goto 58, 3) := by decide +kernel
theorem dX8_readNumber_25 : decode cX8_readNumber 25 = .ok (.aload_n 0, 1) := by decide +kernel
theorem dX8_readNumber_26 : decode cX8_readNumber 26 = .ok (.getfield 159, 3) := by decide +kernel
theorem dX8_readNumber_29 : decode cX8_readNumber 29 = .ok (.aload_n 0, 1) := by decide +kernel
theorem dX8_readNumber_30 : decode cX8_readNumber 30 = .ok (.getfield 137, 3) := by decide +kernel
theorem dX8_readNumber_33 : decode cX8_readNumber 33 = .ok (.isub, 1) := by decide +kernel
theorem dX8_readNumber_34 : decode cX8_readNumber 34 = .ok (.iconst 3, 1) := by decide +kernel
theorem dX8_readNumber_35 : decode cX8_readNumber 35 = .ok (.if_icmp .gt 24, 3) := by decide +kernel
theorem dX8_readNumber_38 : decode cX8_readNumber 38 = .ok (.aload_n 0, 1) := by decide +kernel
theorem dX8_readNumber_39 : decode cX8_readNumber 39 = .ok (.getfield 150, 3) := by decide +kernel
theorem dX8_readNumber_42 : decode cX8_readNumber 42 = .ok (.iload_n 1, 1) := by decide +kernel
theorem dX8_readNumber_43 : decode cX8_readNumber 43 = .ok (.if_icmp .lt 16, 3) := by decide +kernel
theorem dX8_readNumber_46 : decode cX8_readNumber 46 = .ok (.aload_n 0, 1) := by decide +kernel
theorem dX8_readNumber_47 : decode cX8_readNumber 47 = .ok (.getfield 150, 3) := by decide +kernel
theorem dX8_readNumber_50 : decode cX8_readNumber 50 = .ok (.iload_n 2, 1) := by decide +kernel
theorem dX8_readNumber_51 : decode cX8_readNumber 51 = .ok (.if_icmp .gt 8, 3) := by decide +kernel
theorem dX8_readNumber_54 : decode cX8_readNumber 54 = .ok (.iload 4, 2) := by decide +kernel
theorem dX8_readNumber_56 : decode cX8_readNumber 56 = .ok (.ifCond .eq 11, 3) := by decide +kernel
theorem dX8_readNumber_59 : decode cX8_readNumber 59 = .ok (.aload_n 0, 1) := by decide +kernel
theorem dX8_readNumber_60 : decode cX8_readNumber 60 = .ok (.iconst 2, 1) := by decide +kernel
theorem dX8_readNumber_61 : decode cX8_readNumber 61 = .ok (.invokevirtual 182, 3) := by decide +kernel
theorem dX8_readNumber_64 : decode cX8_readNumber 64 = .ok (.goto 16, 3) := by decide +kernel
theorem dX8_readNumber_67 : decode cX8_readNumber 67 = .ok (.aload_n 0, 1) := by decide +kernel
theorem dX8_readNumber_68 : decode cX8_readNumber 68 = .ok (.getfield 150, 3) := by decide +kernel
theorem dX8_readNumber_71 : decode cX8_readNumber 71 = .ok (.iload_n 3, 1) := by decide +kernel
theorem dX8_readNumber_72 : decode cX8_readNumber 72 = .ok (.if_icmp .lt 8, 3) := by decide +kernel
theorem dX8_readNumber_75 : decode cX8_readNumber 75 = .ok (.aload_n 0, 1) := by decide +kernel
theorem dX8_readNumber_76 : decode cX8_readNumber 76 = .ok (.iconst 3, 1) := by decide +kernel
theorem dX8_readNumber_77 : decode cX8_readNumber 77 = .ok (.invokevirtual 182, 3) := by decide +kernel
theorem dX8_readNumber_80 : decode cX8_readNumber 80 = .ok (.aload_n 0, 1) := by decide +kernel
theorem dX8_readNumber_81 : decode cX8_readNumber 81 = .ok (.getfield 150, 3) := by decide +kernel
theorem dX8_readNumber_84 : decode cX8_readNumber 84 = .ok (.ireturn, 1) := by decide +kernel
theorem dX8_semi_0 : decode cX8_semi 0 = .ok (.aload_n 0, 1) := by decide +kernel
theorem dX8_semi_1 : decode cX8_semi 1 = .ok (.getfield 162, 3) := by decide +kernel
theorem dX8_semi_4 : decode cX8_semi 4 = .ok (.ifCond .ne 16, 3) := by decide +kernel
theorem dX8_semi_7 : decode cX8_semi 7 = .ok (.aload_n 0, 1) := by decide +kernel
theorem dX8_semi_8 : decode cX8_semi 8 = .ok (.getfield 140, 3) := by decide +kernel
theorem dX8_semi_11 : decode cX8_semi 11 = .ok (.iconst 3, 1) := by decide +kernel
theorem dX8_semi_12 : decode cX8_semi 12 = .ok (.if_icmp .eq 8, 3) := by decide +kernel
theorem dX8_semi_15 : decode cX8_semi 15 = .ok (.aload_n 0, 1) := by decide +kernel
theorem dX8_semi_16 : decode cX8_semi 16 = .ok (.iconst 1, 1) := by decide +kernel
theorem dX8_semi_17 : decode cX8_semi 17 = .ok (.invokevirtual 182, 3) := by decide +kernel
theorem dX8_semi_20 : decode cX8_semi 20 = .ok (.aload_n 0, 1) := by decide +kernel
theorem dX8_semi_21 : decode cX8_semi 21 = .ok (.getfield 162, 3) := by decide +kernel
theorem dX8_semi_24 : decode cX8_semi 24 = .ok (.ifCond .ne 7, 3) := by decide +kernel
theorem dX8_semi_27 : decode cX8_semi 27 = .ok (.aload_n 0, 1) := by decide +kernel
theorem dX8_semi_28 : decode cX8_semi 28 = .ok (.invokevirtual 186, 3) := by decide +kernel
theorem dX8_semi_31 : decode cX8_semi 31 = .ok (.return_, 1) := by decide +kernel
theorem dX8_readLikes_0 : decode cX8_readLikes 0 = .ok (.bipush 8, 2) := by decide +kernel
theorem dX8_readLikes_2 : decode cX8_readLikes 2 = .ok (.iload_n 1, 1) := by decide +kernel
theorem dX8_readLikes_3 : decode cX8_readLikes 3 = .ok (.iadd, 1) := by decide +kernel
theorem dX8_readLikes_4 : decode cX8_readLikes 4 = .ok (.bipush 10, 2) := by decide +kernel
theorem dX8_readLikes_6 : decode cX8_readLikes 6 = .ok (.imul, 1) := by decide +kernel
theorem dX8_readLikes_7 : decode cX8_readLikes 7 = .ok (.istore_n 2, 1) := by decide +kernel
theorem dX8_readLikes_8 : decode cX8_readLikes 8 = .ok (.iconst 0, 1) := by decide +kernel
theorem dX8_readLikes_9 : decode cX8_readLikes 9 = .ok (.istore_n 3, 1) := by decide +kernel
theorem dX8_readLikes_10 : decode cX8_readLikes 10 = .ok (.iconst 0, 1) := by decide +kernel
theorem dX8_readLikes_11 : decode cX8_readLikes 11 = .ok (.istore 4, 2) := by decide +kernel
theorem dX8_readLikes_13 : decode cX8_readLikes 13 = .ok (.iconst 1, 1) := by decide +kernel
theorem dX8_readLikes_14 : decode cX8_readLikes 14 = .ok (.istore 5, 2) := by decide +kernel
theorem dX8_readLikes_16 : decode cX8_readLikes 16 = .ok (.iload 5, 2) := by decide +kernel
theorem dX8_readLikes_18 : decode cX8_readLikes 18 = .ok (.ifCond .eq 128, 3) := by decide +kernel
theorem dX8_readLikes_21 : decode cX8_readLikes 21 = .ok (.aload_n 0, 1) := by decide +kernel
theorem dX8_readLikes_22 : decode cX8_readLikes 22 = .ok (.iconst 0, 1) := by decide +kernel
theorem dX8_readLikes_23 : decode cX8_readLikes 23 = .ok (.sipush 999, 3) := by decide +kernel
theorem dX8_readLikes_26 : decode cX8_readLikes 26 = .ok (.aload_n 0, 1) := by decide +kernel
theorem dX8_readLikes_27 : decode cX8_readLikes 27 = .ok (.getfield 7, 3) := by decide +kernel
theorem dX8_readLikes_30 : decode cX8_readLikes 30 = .ok (.iconst 1, 1) := by decide +kernel
theorem dX8_readLikes_31 : decode cX8_readLikes 31 = .ok (.iaload, 1) := by decide +kernel
theorem dX8_readLikes_32 : decode cX8_readLikes 32 = .ok (.iconst 0, 1) := by decide +kernel
theorem dX8_readLikes_33 : decode cX8_readLikes 33 = .ok (.invokevirtual 189, 3) := by decide +kernel
theorem dX8_readLikes_36 : decode cX8_readLikes 36 = .ok (.istore 6, 2) := by decide +kernel
theorem dX8_readLikes_38 : decode cX8_readLikes 38 = .ok (.aload_n 0, 1) := by decide +kernel
theorem dX8_readLikes_39 : decode cX8_readLikes 39 = .ok (.getfield 162, 3) := by decide +kernel
theorem dX8_readLikes_42 : decode cX8_readLikes 42 = .ok (.ifCond .ne 18, 3) := by decide +kernel
theorem dX8_readLikes_45 : decode cX8_readLikes 45 = .ok (.iload_n 3, 1) := by decide +kernel
theorem dX8_readLikes_46 : decode cX8_readLikes 46 = .ok (.iload 6, 2) := by decide +kernel
theorem dX8_readLikes_48 : decode cX8_readLikes 48 = .ok (.ishr, 1) := by decide +kernel
theorem dX8_readLikes_49 : decode cX8_readLikes 49 = .ok (.iconst 1, 1) := by decide +kernel
theorem dX8_readLikes_50 : decode cX8_readLikes 50 = .ok (.iand, 1) := by decide +kernel
theorem dX8_readLikes_51 : decode cX8_readLikes 51 = .ok (.iconst 1, 1) := by decide +kernel
theorem dX8_readLikes_52 : decode cX8_readLikes 52 = .ok (.if_icmp .ne 8, 3) := by decide +kernel
theorem dX8_readLikes_55 : decode cX8_readLikes 55 = .ok (.aload_n 0, 1) := by decide +kernel
theorem dX8_readLikes_56 : decode cX8_readLikes 56 = .ok (.iconst 4, 1) := by decide +kernel
theorem dX8_readLikes_57 : decode cX8_readLikes 57 = .ok (.invokevirtual 182, 3) := by decide +kernel
theorem dX8_readLikes_60 : decode cX8_readLikes 60 = .ok (.aload_n 0, 1) := by decide +kernel
theorem dX8_readLikes_61 : decode cX8_readLikes 61 = .ok (.getfield 162, 3) := by decide +kernel
theorem dX8_readLikes_64 : decode cX8_readLikes 64 = .ok (.ifCond .eq 4, 3) := by decide +kernel
theorem dX8_readLikes_67 : decode cX8_readLikes 67 = .ok (.return_, 1) := by decide +kernel
theorem dX8_readLikes_68 : decode cX8_readLikes 68 = .ok (.aload_n 0, 1) := by decide +kernel
theorem dX8_readLikes_69 : decode cX8_readLikes 69 = .ok (.invokevirtual 186, 3) := by decide +kernel
theorem dX8_readLikes_72 : decode cX8_readLikes 72 = .ok (.iload_n 3, 1) := by decide +kernel
theorem dX8_readLikes_73 : decode cX8_readLikes 73 = .ok (.iconst 1, 1) := by decide +kernel
theorem dX8_readLikes_74 : decode cX8_readLikes 74 = .ok (.iload 6, 2) := by decide +kernel
theorem dX8_readLikes_76 : decode cX8_readLikes 76 = .ok (.ishl, 1) := by decide +kernel
theorem dX8_readLikes_77 : decode cX8_readLikes 77 = .ok (.ior, 1) := by decide +kernel
theorem dX8_readLikes_78 : decode cX8_readLikes 78 = .ok (.istore_n 3, 1) := by decide +kernel
theorem dX8_readLikes_79 : decode cX8_readLikes 79 = .ok (.aload_n 0, 1) := by decide +kernel
theorem dX8_readLikes_80 : decode cX8_readLikes 80 = .ok (.getfield 31, 3) := by decide +kernel
theorem dX8_readLikes_83 : decode cX8_readLikes 83 = .ok (.iload_n 2, 1) := by decide +kernel
theorem dX8_readLikes_84 : decode cX8_readLikes 84 = .ok (.iload 6, 2) := by decide +kernel
theorem dX8_readLikes_86 : decode cX8_readLikes 86 = .ok (.iadd, 1) := by decide +kernel
theorem dX8_readLikes_87 : decode cX8_readLikes 87 = .ok (.iload 4, 2) := by decide +kernel
theorem dX8_readLikes_89 : decode cX8_readLikes 89 = .ok (.iastore, 1) := by decide +kernel
theorem dX8_readLikes_90 : decode cX8_readLikes 90 = .ok (.aload_n 0, 1) := by decide +kernel
theorem dX8_readLikes_91 : decode cX8_readLikes 91 = .ok (.ldc 193, 2) := by decide +kernel
theorem dX8_readLikes_93 : decode cX8_readLikes 93 = .ok (.invokevirtual 178, 3) := by decide +kernel
theorem dX8_readLikes_96 : decode cX8_readLikes 96 = .ok (.istore 7, 2) := by decide +kernel
theorem dX8_readLikes_98 : decode cX8_readLikes 98 = .ok (.iload 7, 2) := by decide +kernel
theorem dX8_readLikes_100 : decode cX8_readLikes 100 = .ok (.ifCond .ne 12, 3) := by decide +kernel
theorem dX8_readLikes_103 : decode cX8_readLikes 103 = .ok (.aload_n 0, 1) := by decide +kernel
theorem dX8_readLikes_104 : decode cX8_readLikes 104 = .ok (.ldc 195, 2) := by decide +kernel
theorem dX8_readLikes_106 : decode cX8_readLikes 106 = .ok (.invokevirtual 178, 3) := by decide +kernel
theorem dX8_readLikes_109 : decode cX8_readLikes 109 = .ok (.ifCond .eq 7, 3) := by decide +kernel
theorem dX8_readLikes_112 : decode cX8_readLikes 112 = .ok (.iconst 1, 1) := by decide +kernel
theorem dX8_readLikes_113 : decode cX8_readLikes 113 = .ok (.goto 4, 3) := by decide +kernel
theorem dX8_readLikes_116 : decode cX8_readLikes 116 = .ok (.iconst 0, 1) := by decide +kernel
theorem dX8_readLikes_117 : decode cX8_readLikes 117 = .ok (.istore 5, 2) := by decide +kernel
theorem dX8_readLikes_119 : decode cX8_readLikes 119 = .ok (.iload 5, 2) := by decide +kernel
theorem dX8_readLikes_121 : decode cX8_readLikes 121 = .ok (.ifCond .eq 7, 3) := by decide +kernel
theorem dX8_readLikes_124 : decode cX8_readLikes 124 = .ok (.aload_n 0, 1) := by decide +kernel
theorem dX8_readLikes_125 : decode cX8_readLikes 125 = .ok (.invokevirtual 186, 3) := by decide +kernel
theorem dX8_readLikes_128 : decode cX8_readLikes 128 = .ok (.iload 4, 2) := by decide +kernel
theorem dX8_readLikes_130 : decode cX8_readLikes 130 = .ok (.iload 7, 2) := by decide +kernel
theorem dX8_readLikes_132 : decode cX8_readLikes 132 = .ok (.ifCond .eq 7, 3) := by decide +kernel
theorem dX8_readLikes_135 : decode cX8_readLikes 135 = .ok (.iconst 1, 1) := by decide +kernel
theorem dX8_readLikes_136 : decode cX8_readLikes 136 = .ok (.goto 4, 3) := by decide +kernel
theorem dX8_readLikes_139 : decode cX8_readLikes 139 = .ok (.iconst 0, 1) := by decide +kernel
theorem dX8_readLikes_140 : decode cX8_readLikes 140 = .ok (.iadd, 1) := by decide +kernel
theorem dX8_readLikes_141 : decode cX8_readLikes 141 = .ok (.istore 4, 2) := by decide +kernel
theorem dX8_readLikes_143 : decode cX8_readLikes 143 = .ok (.goto (-127), 3) := by decide +kernel
theorem dX8_readLikes_146 : decode cX8_readLikes 146 = .ok (.iconst 0, 1) := by decide +kernel
theorem dX8_readLikes_147 : decode cX8_readLikes 147 = .ok (.istore 6, 2) := by decide +kernel
theorem dX8_readLikes_149 : decode cX8_readLikes 149 = .ok (.iload 6, 2) := by decide +kernel
theorem dX8_readLikes_151 : decode cX8_readLikes 151 = .ok (.bipush 10, 2) := by decide +kernel
theorem dX8_readLikes_153 : decode cX8_readLikes 153 = .ok (.if_icmp .ge 31, 3) := by decide +kernel
theorem dX8_readLikes_156 : decode cX8_readLikes 156 = .ok (.iload_n 3, 1) := by decide +kernel
theorem dX8_readLikes_157 : decode cX8_readLikes 157 = .ok (.iload 6, 2) := by decide +kernel
theorem dX8_readLikes_159 : decode cX8_readLikes 159 = .ok (.ishr, 1) := by decide +kernel
theorem dX8_readLikes_160 : decode cX8_readLikes 160 = .ok (.iconst 1, 1) := by decide +kernel
theorem dX8_readLikes_161 : decode cX8_readLikes 161 = .ok (.iand, 1) := by decide +kernel
theorem dX8_readLikes_162 : decode cX8_readLikes 162 = .ok (.ifCond .ne 16, 3) := by decide +kernel
theorem dX8_readLikes_165 : decode cX8_readLikes 165 = .ok (.aload_n 0, 1) := by decide +kernel
theorem dX8_readLikes_166 : decode cX8_readLikes 166 = .ok (.getfield 31, 3) := by decide +kernel
theorem dX8_readLikes_169 : decode cX8_readLikes 169 = .ok (.iload_n 2, 1) := by decide +kernel
theorem dX8_readLikes_170 : decode cX8_readLikes 170 = .ok (.iload 6, 2) := by decide +kernel
theorem dX8_readLikes_172 : decode cX8_readLikes 172 = .ok (.iadd, 1) := by decide +kernel
theorem dX8_readLikes_173 : decode cX8_readLikes 173 = .ok (.iload 4, 2) := by decide +kernel
theorem dX8_readLikes_175 : decode cX8_readLikes 175 = .ok (.iconst 1, 1) := by decide +kernel
theorem dX8_readLikes_176 : decode cX8_readLikes 176 = .ok (.iadd, 1) := by decide +kernel
theorem dX8_readLikes_177 : decode cX8_readLikes 177 = .ok (.iastore, 1) := by decide +kernel
theorem dX8_readLikes_178 : decode cX8_readLikes 178 = .ok (.iinc 6 1, 3) := by decide +kernel
theorem dX8_readLikes_181 : decode cX8_readLikes 181 = .ok (.goto (-32), 3) := by decide +kernel
theorem dX8_readLikes_184 : decode cX8_readLikes 184 = .ok (.return_, 1) := by decide +kernel
theorem dX8_readPerson_0 : decode cX8_readPerson 0 = .ok (.aload_n 0, 1) := by decide +kernel
theorem dX8_readPerson_1 : decode cX8_readPerson 1 = .ok (.getfield 13, 3) := by decide +kernel
theorem dX8_readPerson_4 : decode cX8_readPerson 4 = .ok (.iconst 1, 1) := by decide +kernel
theorem dX8_readPerson_5 : decode cX8_readPerson 5 = .ok (.iaload, 1) := by decide +kernel
theorem dX8_readPerson_6 : decode cX8_readPerson 6 = .ok (.bipush 8, 2) := by decide +kernel
theorem dX8_readPerson_8 : decode cX8_readPerson 8 = .ok (.if_icmp .ne 8, 3) := by decide +kernel
theorem dX8_readPerson_11 : decode cX8_readPerson 11 = .ok (.aload_n 0, 1) := by decide +kernel
theorem dX8_readPerson_12 : decode cX8_readPerson 12 = .ok (.iconst 2, 1) := by decide +kernel
theorem dX8_readPerson_13 : decode cX8_readPerson 13 = .ok (.invokevirtual 182, 3) := by decide +kernel
theorem dX8_readPerson_16 : decode cX8_readPerson 16 = .ok (.aload_n 0, 1) := by decide +kernel
theorem dX8_readPerson_17 : decode cX8_readPerson 17 = .ok (.getfield 162, 3) := by decide +kernel
theorem dX8_readPerson_20 : decode cX8_readPerson 20 = .ok (.ifCond .eq 4, 3) := by decide +kernel
theorem dX8_readPerson_23 : decode cX8_readPerson 23 = .ok (.return_, 1) := by decide +kernel
theorem dX8_readPerson_24 : decode cX8_readPerson 24 = .ok (.aload_n 0, 1) := by decide +kernel
theorem dX8_readPerson_25 : decode cX8_readPerson 25 = .ok (.invokevirtual 186, 3) := by decide +kernel
theorem dX8_readPerson_28 : decode cX8_readPerson 28 = .ok (.aload_n 0, 1) := by decide +kernel
theorem dX8_readPerson_29 : decode cX8_readPerson 29 = .ok (.ldc 197, 2) := by decide +kernel
theorem dX8_readPerson_31 : decode cX8_readPerson 31 = .ok (.invokevirtual 198, 3) := by decide +kernel
theorem dX8_readPerson_34 : decode cX8_readPerson 34 = .ok (.aload_n 0, 1) := by decide +kernel
theorem dX8_readPerson_35 : decode cX8_readPerson 35 = .ok (.iconst 1, 1) := by decide +kernel
theorem dX8_readPerson_36 : decode cX8_readPerson 36 = .ok (.bipush 99, 2) := by decide +kernel
theorem dX8_readPerson_38 : decode cX8_readPerson 38 = .ok (.sipush 1000, 3) := by decide +kernel
theorem dX8_readPerson_41 : decode cX8_readPerson 41 = .ok (.iconst 0, 1) := by decide +kernel
theorem dX8_readPerson_42 : decode cX8_readPerson 42 = .ok (.invokevirtual 189, 3) := by decide +kernel
theorem dX8_readPerson_45 : decode cX8_readPerson 45 = .ok (.istore_n 1, 1) := by decide +kernel
theorem dX8_readPerson_46 : decode cX8_readPerson 46 = .ok (.aload_n 0, 1) := by decide +kernel
theorem dX8_readPerson_47 : decode cX8_readPerson 47 = .ok (.getfield 162, 3) := by decide +kernel
theorem dX8_readPerson_50 : decode cX8_readPerson 50 = .ok (.ifCond .eq 4, 3) := by decide +kernel
theorem dX8_readPerson_53 : decode cX8_readPerson 53 = .ok (.return_, 1) := by decide +kernel
theorem dX8_readPerson_54 : decode cX8_readPerson 54 = .ok (.aload_n 0, 1) := by decide +kernel
theorem dX8_readPerson_55 : decode cX8_readPerson 55 = .ok (.invokevirtual 186, 3) := by decide +kernel
theorem dX8_readPerson_58 : decode cX8_readPerson 58 = .ok (.aload_n 0, 1) := by decide +kernel
theorem dX8_readPerson_59 : decode cX8_readPerson 59 = .ok (.getfield 13, 3) := by decide +kernel
theorem dX8_readPerson_62 : decode cX8_readPerson 62 = .ok (.iconst 1, 1) := by decide +kernel
theorem dX8_readPerson_63 : decode cX8_readPerson 63 = .ok (.iaload, 1) := by decide +kernel
theorem dX8_readPerson_64 : decode cX8_readPerson 64 = .ok (.istore_n 2, 1) := by decide +kernel
theorem dX8_readPerson_65 : decode cX8_readPerson 65 = .ok (.aload_n 0, 1) := by decide +kernel
theorem dX8_readPerson_66 : decode cX8_readPerson 66 = .ok (.getfield 28, 3) := by decide +kernel
theorem dX8_readPerson_69 : decode cX8_readPerson 69 = .ok (.bipush 8, 2) := by decide +kernel
theorem dX8_readPerson_71 : decode cX8_readPerson 71 = .ok (.iload_n 2, 1) := by decide +kernel
theorem dX8_readPerson_72 : decode cX8_readPerson 72 = .ok (.iadd, 1) := by decide +kernel
theorem dX8_readPerson_73 : decode cX8_readPerson 73 = .ok (.iload_n 1, 1) := by decide +kernel
theorem dX8_readPerson_74 : decode cX8_readPerson 74 = .ok (.iastore, 1) := by decide +kernel
theorem dX8_readPerson_75 : decode cX8_readPerson 75 = .ok (.aload_n 0, 1) := by decide +kernel
theorem dX8_readPerson_76 : decode cX8_readPerson 76 = .ok (.getfield 40, 3) := by decide +kernel
theorem dX8_readPerson_79 : decode cX8_readPerson 79 = .ok (.bipush 8, 2) := by decide +kernel
theorem dX8_readPerson_81 : decode cX8_readPerson 81 = .ok (.iload_n 2, 1) := by decide +kernel
theorem dX8_readPerson_82 : decode cX8_readPerson 82 = .ok (.iadd, 1) := by decide +kernel
theorem dX8_readPerson_83 : decode cX8_readPerson 83 = .ok (.aload_n 0, 1) := by decide +kernel
theorem dX8_readPerson_84 : decode cX8_readPerson 84 = .ok (.ldc 202, 2) := by decide +kernel
theorem dX8_readPerson_86 : decode cX8_readPerson 86 = .ok (.invokevirtual 178, 3) := by decide +kernel
theorem dX8_readPerson_89 : decode cX8_readPerson 89 = .ok (.bastore, 1) := by decide +kernel
theorem dX8_readPerson_90 : decode cX8_readPerson 90 = .ok (.iconst 0, 1) := by decide +kernel
theorem dX8_readPerson_91 : decode cX8_readPerson 91 = .ok (.istore_n 3, 1) := by decide +kernel
theorem dX8_readPerson_92 : decode cX8_readPerson 92 = .ok (.iload_n 3, 1) := by decide +kernel
theorem dX8_readPerson_93 : decode cX8_readPerson 93 = .ok (.bipush 10, 2) := by decide +kernel
theorem dX8_readPerson_95 : decode cX8_readPerson 95 = .ok (.if_icmp .ge 24, 3) := by decide +kernel
theorem dX8_readPerson_98 : decode cX8_readPerson 98 = .ok (.aload_n 0, 1) := by decide +kernel
theorem dX8_readPerson_99 : decode cX8_readPerson 99 = .ok (.getfield 31, 3) := by decide +kernel
theorem dX8_readPerson_102 : decode cX8_readPerson 102 = .ok (.bipush 8, 2) := by decide +kernel
theorem dX8_readPerson_104 : decode cX8_readPerson 104 = .ok (.iload_n 2, 1) := by decide +kernel
theorem dX8_readPerson_105 : decode cX8_readPerson 105 = .ok (.iadd, 1) := by decide +kernel
theorem dX8_readPerson_106 : decode cX8_readPerson 106 = .ok (.bipush 10, 2) := by decide +kernel
theorem dX8_readPerson_108 : decode cX8_readPerson 108 = .ok (.imul, 1) := by decide +kernel
theorem dX8_readPerson_109 : decode cX8_readPerson 109 = .ok (.iload_n 3, 1) := by decide +kernel
theorem dX8_readPerson_110 : decode cX8_readPerson 110 = .ok (.iadd, 1) := by decide +kernel
theorem dX8_readPerson_111 : decode cX8_readPerson 111 = .ok (.iconst 0, 1) := by decide +kernel
theorem dX8_readPerson_112 : decode cX8_readPerson 112 = .ok (.iastore, 1) := by decide +kernel
theorem dX8_readPerson_113 : decode cX8_readPerson 113 = .ok (.iinc 3 1, 3) := by decide +kernel
theorem dX8_readPerson_116 : decode cX8_readPerson 116 = .ok (.goto (-24), 3) := by decide +kernel
theorem dX8_readPerson_119 : decode cX8_readPerson 119 = .ok (.aload_n 0, 1) := by decide +kernel
theorem dX8_readPerson_120 : decode cX8_readPerson 120 = .ok (.getfield 40, 3) := by decide +kernel
theorem dX8_readPerson_123 : decode cX8_readPerson 123 = .ok (.bipush 8, 2) := by decide +kernel
theorem dX8_readPerson_125 : decode cX8_readPerson 125 = .ok (.iload_n 2, 1) := by decide +kernel
theorem dX8_readPerson_126 : decode cX8_readPerson 126 = .ok (.iadd, 1) := by decide +kernel
theorem dX8_readPerson_127 : decode cX8_readPerson 127 = .ok (.baload, 1) := by decide +kernel
theorem dX8_readPerson_128 : decode cX8_readPerson 128 = .ok (.ifCond .eq 12, 3) := by decide +kernel
theorem dX8_readPerson_131 : decode cX8_readPerson 131 = .ok (.aload_n 0, 1) := by decide +kernel
theorem dX8_readPerson_132 : decode cX8_readPerson 132 = .ok (.invokevirtual 186, 3) := by decide +kernel
theorem dX8_readPerson_135 : decode cX8_readPerson 135 = .ok (.aload_n 0, 1) := by decide +kernel
theorem dX8_readPerson_136 : decode cX8_readPerson 136 = .ok (.iload_n 2, 1) := by decide +kernel
theorem dX8_readPerson_137 : decode cX8_readPerson 137 = .ok (.invokevirtual 204, 3) := by decide +kernel
theorem dX8_readPerson_140 : decode cX8_readPerson 140 = .ok (.aload_n 0, 1) := by decide +kernel
theorem dX8_readPerson_141 : decode cX8_readPerson 141 = .ok (.getfield 162, 3) := by decide +kernel
theorem dX8_readPerson_144 : decode cX8_readPerson 144 = .ok (.ifCond .ne 13, 3) := by decide +kernel
theorem dX8_readPerson_147 : decode cX8_readPerson 147 = .ok (.aload_n 0, 1) := by decide +kernel
theorem dX8_readPerson_148 : decode cX8_readPerson 148 = .ok (.getfield 13, 3) := by decide +kernel
theorem dX8_readPerson_151 : decode cX8_readPerson 151 = .ok (.iconst 1, 1) := by decide +kernel
theorem dX8_readPerson_152 : decode cX8_readPerson 152 = .ok (.dup2, 1) := by decide +kernel
theorem dX8_readPerson_153 : decode cX8_readPerson 153 = .ok (.iaload, 1) := by decide +kernel
theorem dX8_readPerson_154 : decode cX8_readPerson 154 = .ok (.iconst 1, 1) := by decide +kernel
theorem dX8_readPerson_155 : decode cX8_readPerson 155 = .ok (.iadd, 1) := by decide +kernel
theorem dX8_readPerson_156 : decode cX8_readPerson 156 = .ok (.iastore, 1) := by decide +kernel
theorem dX8_readPerson_157 : decode cX8_readPerson 157 = .ok (.return_, 1) := by decide +kernel
theorem dX8_readLaw_0 : decode cX8_readLaw 0 = .ok (.aload_n 0, 1) := by decide +kernel
theorem dX8_readLaw_1 : decode cX8_readLaw 1 = .ok (.invokevirtual 186, 3) := by decide +kernel
theorem dX8_readLaw_4 : decode cX8_readLaw 4 = .ok (.aload_n 0, 1) := by decide +kernel
theorem dX8_readLaw_5 : decode cX8_readLaw 5 = .ok (.ldc 207, 2) := by decide +kernel
theorem dX8_readLaw_7 : decode cX8_readLaw 7 = .ok (.invokevirtual 178, 3) := by decide +kernel
theorem dX8_readLaw_10 : decode cX8_readLaw 10 = .ok (.ifCond .eq 17, 3) := by decide +kernel
theorem dX8_readLaw_13 : decode cX8_readLaw 13 = .ok (.aload_n 0, 1) := by decide +kernel
theorem dX8_readLaw_14 : decode cX8_readLaw 14 = .ok (.invokevirtual 186, 3) := by decide +kernel
theorem dX8_readLaw_17 : decode cX8_readLaw 17 = .ok (.aload_n 0, 1) := by decide +kernel
theorem dX8_readLaw_18 : decode cX8_readLaw 18 = .ok (.getfield 16, 3) := by decide +kernel
theorem dX8_readLaw_21 : decode cX8_readLaw 21 = .ok (.iconst 1, 1) := by decide +kernel
theorem dX8_readLaw_22 : decode cX8_readLaw 22 = .ok (.iconst 0, 1) := by decide +kernel
theorem dX8_readLaw_23 : decode cX8_readLaw 23 = .ok (.iastore, 1) := by decide +kernel
theorem dX8_readLaw_24 : decode cX8_readLaw 24 = .ok (.goto 161, 3) := by decide +kernel
theorem dX8_readLaw_27 : decode cX8_readLaw 27 = .ok (.aload_n 0, 1) := by decide +kernel
theorem dX8_readLaw_28 : decode cX8_readLaw 28 = .ok (.ldc 209, 2) := by decide +kernel
theorem dX8_readLaw_30 : decode cX8_readLaw 30 = .ok (.invokevirtual 178, 3) := by decide +kernel
theorem dX8_readLaw_33 : decode cX8_readLaw 33 = .ok (.ifCond .eq 46, 3) := by decide +kernel
theorem dX8_readLaw_36 : decode cX8_readLaw 36 = .ok (.aload_n 0, 1) := by decide +kernel
theorem dX8_readLaw_37 : decode cX8_readLaw 37 = .ok (.invokevirtual 186, 3) := by decide +kernel
theorem dX8_readLaw_40 : decode cX8_readLaw 40 = .ok (.aload_n 0, 1) := by decide +kernel
theorem dX8_readLaw_41 : decode cX8_readLaw 41 = .ok (.getfield 19, 3) := by decide +kernel
theorem dX8_readLaw_44 : decode cX8_readLaw 44 = .ok (.iconst 1, 1) := by decide +kernel
theorem dX8_readLaw_45 : decode cX8_readLaw 45 = .ok (.aload_n 0, 1) := by decide +kernel
theorem dX8_readLaw_46 : decode cX8_readLaw 46 = .ok (.iconst 1, 1) := by decide +kernel
theorem dX8_readLaw_47 : decode cX8_readLaw 47 = .ok (.sipush 999, 3) := by decide +kernel
theorem dX8_readLaw_50 : decode cX8_readLaw 50 = .ok (.sipush 1000, 3) := by decide +kernel
theorem dX8_readLaw_53 : decode cX8_readLaw 53 = .ok (.iconst 0, 1) := by decide +kernel
theorem dX8_readLaw_54 : decode cX8_readLaw 54 = .ok (.invokevirtual 189, 3) := by decide +kernel
theorem dX8_readLaw_57 : decode cX8_readLaw 57 = .ok (.iastore, 1) := by decide +kernel
theorem dX8_readLaw_58 : decode cX8_readLaw 58 = .ok (.aload_n 0, 1) := by decide +kernel
theorem dX8_readLaw_59 : decode cX8_readLaw 59 = .ok (.getfield 16, 3) := by decide +kernel
theorem dX8_readLaw_62 : decode cX8_readLaw 62 = .ok (.iconst 1, 1) := by decide +kernel
theorem dX8_readLaw_63 : decode cX8_readLaw 63 = .ok (.iconst 1, 1) := by decide +kernel
theorem dX8_readLaw_64 : decode cX8_readLaw 64 = .ok (.iastore, 1) := by decide +kernel
theorem dX8_readLaw_65 : decode cX8_readLaw 65 = .ok (.aload_n 0, 1) := by decide +kernel
theorem dX8_readLaw_66 : decode cX8_readLaw 66 = .ok (.getfield 162, 3) := by decide +kernel
theorem dX8_readLaw_69 : decode cX8_readLaw 69 = .ok (.ifCond .ne 116, 3) := by decide +kernel
theorem dX8_readLaw_72 : decode cX8_readLaw 72 = .ok (.aload_n 0, 1) := by decide +kernel
theorem dX8_readLaw_73 : decode cX8_readLaw 73 = .ok (.invokevirtual 186, 3) := by decide +kernel
theorem dX8_readLaw_76 : decode cX8_readLaw 76 = .ok (.goto 109, 3) := by decide +kernel
theorem dX8_readLaw_79 : decode cX8_readLaw 79 = .ok (.aload_n 0, 1) := by decide +kernel
theorem dX8_readLaw_80 : decode cX8_readLaw 80 = .ok (.ldc 210, 2) := by decide +kernel
theorem dX8_readLaw_82 : decode cX8_readLaw 82 = .ok (.invokevirtual 178, 3) := by decide +kernel
theorem dX8_readLaw_85 : decode cX8_readLaw 85 = .ok (.ifCond .eq 95, 3) := by decide +kernel
theorem dX8_readLaw_88 : decode cX8_readLaw 88 = .ok (.aload_n 0, 1) := by decide +kernel
theorem dX8_readLaw_89 : decode cX8_readLaw 89 = .ok (.invokevirtual 186, 3) := by decide +kernel
theorem dX8_readLaw_92 : decode cX8_readLaw 92 = .ok (.aload_n 0, 1) := by decide +kernel
theorem dX8_readLaw_93 : decode cX8_readLaw 93 = .ok (.getfield 16, 3) := by decide +kernel
theorem dX8_readLaw_96 : decode cX8_readLaw 96 = .ok (.iconst 1, 1) := by decide +kernel
theorem dX8_readLaw_97 : decode cX8_readLaw 97 = .ok (.iconst 2, 1) := by decide +kernel
theorem dX8_readLaw_98 : decode cX8_readLaw 98 = .ok (.iastore, 1) := by decide +kernel
theorem dX8_readLaw_99 : decode cX8_readLaw 99 = .ok (.aload_n 0, 1) := by decide +kernel
theorem dX8_readLaw_100 : decode cX8_readLaw 100 = .ok (.getfield 22, 3) := by decide +kernel
theorem dX8_readLaw_103 : decode cX8_readLaw 103 = .ok (.iconst 1, 1) := by decide +kernel
theorem dX8_readLaw_104 : decode cX8_readLaw 104 = .ok (.iconst 0, 1) := by decide +kernel
theorem dX8_readLaw_105 : decode cX8_readLaw 105 = .ok (.iastore, 1) := by decide +kernel
theorem dX8_readLaw_106 : decode cX8_readLaw 106 = .ok (.aload_n 0, 1) := by decide +kernel
theorem dX8_readLaw_107 : decode cX8_readLaw 107 = .ok (.iconst 0, 1) := by decide +kernel
theorem dX8_readLaw_108 : decode cX8_readLaw 108 = .ok (.bipush 9, 2) := by decide +kernel
theorem dX8_readLaw_110 : decode cX8_readLaw 110 = .ok (.sipush 1000, 3) := by decide +kernel
theorem dX8_readLaw_113 : decode cX8_readLaw 113 = .ok (.aload_n 0, 1) := by decide +kernel
theorem dX8_readLaw_114 : decode cX8_readLaw 114 = .ok (.getfield 22, 3) := by decide +kernel
theorem dX8_readLaw_117 : decode cX8_readLaw 117 = .ok (.iconst 1, 1) := by decide +kernel
theorem dX8_readLaw_118 : decode cX8_readLaw 118 = .ok (.iaload, 1) := by decide +kernel
theorem dX8_readLaw_119 : decode cX8_readLaw 119 = .ok (.bipush 8, 2) := by decide +kernel
theorem dX8_readLaw_121 : decode cX8_readLaw 121 = .ok (.if_icmp .ne 7, 3) := by decide +kernel
theorem dX8_readLaw_124 : decode cX8_readLaw 124 = .ok (.iconst 1, 1) := by decide +kernel
theorem dX8_readLaw_125 : decode cX8_readLaw 125 = .ok (.goto 4, 3) := by decide +kernel
theorem dX8_readLaw_128 : decode cX8_readLaw 128 = .ok (.iconst 0, 1) := by decide +kernel
theorem dX8_readLaw_129 : decode cX8_readLaw 129 = .ok (.invokevirtual 189, 3) := by decide +kernel
theorem dX8_readLaw_132 : decode cX8_readLaw 132 = .ok (.istore_n 1, 1) := by decide +kernel
theorem dX8_readLaw_133 : decode cX8_readLaw 133 = .ok (.aload_n 0, 1) := by decide +kernel
theorem dX8_readLaw_134 : decode cX8_readLaw 134 = .ok (.getfield 162, 3) := by decide +kernel
theorem dX8_readLaw_137 : decode cX8_readLaw 137 = .ok (.ifCond .eq 4, 3) := by decide +kernel
theorem dX8_readLaw_140 : decode cX8_readLaw 140 = .ok (.return_, 1) := by decide +kernel
theorem dX8_readLaw_141 : decode cX8_readLaw 141 = .ok (.aload_n 0, 1) := by decide +kernel
theorem dX8_readLaw_142 : decode cX8_readLaw 142 = .ok (.getfield 34, 3) := by decide +kernel
theorem dX8_readLaw_145 : decode cX8_readLaw 145 = .ok (.bipush 8, 2) := by decide +kernel
theorem dX8_readLaw_147 : decode cX8_readLaw 147 = .ok (.aload_n 0, 1) := by decide +kernel
theorem dX8_readLaw_148 : decode cX8_readLaw 148 = .ok (.getfield 22, 3) := by decide +kernel
theorem dX8_readLaw_151 : decode cX8_readLaw 151 = .ok (.iconst 1, 1) := by decide +kernel
theorem dX8_readLaw_152 : decode cX8_readLaw 152 = .ok (.iaload, 1) := by decide +kernel
theorem dX8_readLaw_153 : decode cX8_readLaw 153 = .ok (.iadd, 1) := by decide +kernel
theorem dX8_readLaw_154 : decode cX8_readLaw 154 = .ok (.iload_n 1, 1) := by decide +kernel
theorem dX8_readLaw_155 : decode cX8_readLaw 155 = .ok (.iastore, 1) := by decide +kernel
theorem dX8_readLaw_156 : decode cX8_readLaw 156 = .ok (.aload_n 0, 1) := by decide +kernel
theorem dX8_readLaw_157 : decode cX8_readLaw 157 = .ok (.getfield 22, 3) := by decide +kernel
theorem dX8_readLaw_160 : decode cX8_readLaw 160 = .ok (.iconst 1, 1) := by decide +kernel
theorem dX8_readLaw_161 : decode cX8_readLaw 161 = .ok (.dup2, 1) := by decide +kernel
theorem dX8_readLaw_162 : decode cX8_readLaw 162 = .ok (.iaload, 1) := by decide +kernel
theorem dX8_readLaw_163 : decode cX8_readLaw 163 = .ok (.iconst 1, 1) := by decide +kernel
theorem dX8_readLaw_164 : decode cX8_readLaw 164 = .ok (.iadd, 1) := by decide +kernel
theorem dX8_readLaw_165 : decode cX8_readLaw 165 = .ok (.iastore, 1) := by decide +kernel
theorem dX8_readLaw_166 : decode cX8_readLaw 166 = .ok (.aload_n 0, 1) := by decide +kernel
theorem dX8_readLaw_167 : decode cX8_readLaw 167 = .ok (.invokevirtual 186, 3) := by decide +kernel
theorem dX8_readLaw_170 : decode cX8_readLaw 170 = .ok (.aload_n 0, 1) := by decide +kernel
theorem dX8_readLaw_171 : decode cX8_readLaw 171 = .ok (.invokevirtual 211, 3) := by decide +kernel
theorem dX8_readLaw_174 : decode cX8_readLaw 174 = .ok (.ifCond .ne (-68), 3) := by decide +kernel
theorem dX8_readLaw_177 : decode cX8_readLaw 177 = .ok (.goto 8, 3) := by decide +kernel
theorem dX8_readLaw_180 : decode cX8_readLaw 180 = .ok (.aload_n 0, 1) := by decide +kernel
theorem dX8_readLaw_181 : decode cX8_readLaw 181 = .ok (.iconst 1, 1) := by decide +kernel
theorem dX8_readLaw_182 : decode cX8_readLaw 182 = .ok (.invokevirtual 182, 3) := by decide +kernel
theorem dX8_readLaw_185 : decode cX8_readLaw 185 = .ok (.return_, 1) := by decide +kernel
theorem dX8_readTurns_0 : decode cX8_readTurns 0 = .ok (.aload_n 0, 1) := by decide +kernel
theorem dX8_readTurns_1 : decode cX8_readTurns 1 = .ok (.invokevirtual 186, 3) := by decide +kernel
theorem dX8_readTurns_4 : decode cX8_readTurns 4 = .ok (.aload_n 0, 1) := by decide +kernel
theorem dX8_readTurns_5 : decode cX8_readTurns 5 = .ok (.getfield 25, 3) := by decide +kernel
theorem dX8_readTurns_8 : decode cX8_readTurns 8 = .ok (.iconst 1, 1) := by decide +kernel
theorem dX8_readTurns_9 : decode cX8_readTurns 9 = .ok (.iconst 0, 1) := by decide +kernel
theorem dX8_readTurns_10 : decode cX8_readTurns 10 = .ok (.iastore, 1) := by decide +kernel
theorem dX8_readTurns_11 : decode cX8_readTurns 11 = .ok (.aload_n 0, 1) := by decide +kernel
theorem dX8_readTurns_12 : decode cX8_readTurns 12 = .ok (.iconst 0, 1) := by decide +kernel
theorem dX8_readTurns_13 : decode cX8_readTurns 13 = .ok (.sipush 999, 3) := by decide +kernel
theorem dX8_readTurns_16 : decode cX8_readTurns 16 = .ok (.aload_n 0, 1) := by decide +kernel
theorem dX8_readTurns_17 : decode cX8_readTurns 17 = .ok (.getfield 13, 3) := by decide +kernel
theorem dX8_readTurns_20 : decode cX8_readTurns 20 = .ok (.iconst 1, 1) := by decide +kernel
theorem dX8_readTurns_21 : decode cX8_readTurns 21 = .ok (.iaload, 1) := by decide +kernel
theorem dX8_readTurns_22 : decode cX8_readTurns 22 = .ok (.aload_n 0, 1) := by decide +kernel
theorem dX8_readTurns_23 : decode cX8_readTurns 23 = .ok (.getfield 25, 3) := by decide +kernel
theorem dX8_readTurns_26 : decode cX8_readTurns 26 = .ok (.iconst 1, 1) := by decide +kernel
theorem dX8_readTurns_27 : decode cX8_readTurns 27 = .ok (.iaload, 1) := by decide +kernel
theorem dX8_readTurns_28 : decode cX8_readTurns 28 = .ok (.aload_n 0, 1) := by decide +kernel
theorem dX8_readTurns_29 : decode cX8_readTurns 29 = .ok (.getfield 7, 3) := by decide +kernel
theorem dX8_readTurns_32 : decode cX8_readTurns 32 = .ok (.iconst 1, 1) := by decide +kernel
theorem dX8_readTurns_33 : decode cX8_readTurns 33 = .ok (.iaload, 1) := by decide +kernel
theorem dX8_readTurns_34 : decode cX8_readTurns 34 = .ok (.iconst 1, 1) := by decide +kernel
theorem dX8_readTurns_35 : decode cX8_readTurns 35 = .ok (.isub, 1) := by decide +kernel
theorem dX8_readTurns_36 : decode cX8_readTurns 36 = .ok (.if_icmp .ne 7, 3) := by decide +kernel
theorem dX8_readTurns_39 : decode cX8_readTurns 39 = .ok (.iconst 1, 1) := by decide +kernel
theorem dX8_readTurns_40 : decode cX8_readTurns 40 = .ok (.goto 4, 3) := by decide +kernel
theorem dX8_readTurns_43 : decode cX8_readTurns 43 = .ok (.iconst 0, 1) := by decide +kernel
theorem dX8_readTurns_44 : decode cX8_readTurns 44 = .ok (.invokevirtual 189, 3) := by decide +kernel
theorem dX8_readTurns_47 : decode cX8_readTurns 47 = .ok (.istore_n 1, 1) := by decide +kernel
theorem dX8_readTurns_48 : decode cX8_readTurns 48 = .ok (.aload_n 0, 1) := by decide +kernel
theorem dX8_readTurns_49 : decode cX8_readTurns 49 = .ok (.getfield 162, 3) := by decide +kernel
theorem dX8_readTurns_52 : decode cX8_readTurns 52 = .ok (.ifCond .eq 4, 3) := by decide +kernel
theorem dX8_readTurns_55 : decode cX8_readTurns 55 = .ok (.return_, 1) := by decide +kernel
theorem dX8_readTurns_56 : decode cX8_readTurns 56 = .ok (.aload_n 0, 1) := by decide +kernel
theorem dX8_readTurns_57 : decode cX8_readTurns 57 = .ok (.getfield 37, 3) := by decide +kernel
theorem dX8_readTurns_60 : decode cX8_readTurns 60 = .ok (.bipush 9, 2) := by decide +kernel
theorem dX8_readTurns_62 : decode cX8_readTurns 62 = .ok (.aload_n 0, 1) := by decide +kernel
theorem dX8_readTurns_63 : decode cX8_readTurns 63 = .ok (.getfield 25, 3) := by decide +kernel
theorem dX8_readTurns_66 : decode cX8_readTurns 66 = .ok (.iconst 1, 1) := by decide +kernel
theorem dX8_readTurns_67 : decode cX8_readTurns 67 = .ok (.iaload, 1) := by decide +kernel
theorem dX8_readTurns_68 : decode cX8_readTurns 68 = .ok (.iadd, 1) := by decide +kernel
theorem dX8_readTurns_69 : decode cX8_readTurns 69 = .ok (.iload_n 1, 1) := by decide +kernel
theorem dX8_readTurns_70 : decode cX8_readTurns 70 = .ok (.iastore, 1) := by decide +kernel
theorem dX8_readTurns_71 : decode cX8_readTurns 71 = .ok (.aload_n 0, 1) := by decide +kernel
theorem dX8_readTurns_72 : decode cX8_readTurns 72 = .ok (.getfield 25, 3) := by decide +kernel
theorem dX8_readTurns_75 : decode cX8_readTurns 75 = .ok (.iconst 1, 1) := by decide +kernel
theorem dX8_readTurns_76 : decode cX8_readTurns 76 = .ok (.dup2, 1) := by decide +kernel
theorem dX8_readTurns_77 : decode cX8_readTurns 77 = .ok (.iaload, 1) := by decide +kernel
theorem dX8_readTurns_78 : decode cX8_readTurns 78 = .ok (.iconst 1, 1) := by decide +kernel
theorem dX8_readTurns_79 : decode cX8_readTurns 79 = .ok (.iadd, 1) := by decide +kernel
theorem dX8_readTurns_80 : decode cX8_readTurns 80 = .ok (.iastore, 1) := by decide +kernel
theorem dX8_readTurns_81 : decode cX8_readTurns 81 = .ok (.aload_n 0, 1) := by decide +kernel
theorem dX8_readTurns_82 : decode cX8_readTurns 82 = .ok (.invokevirtual 186, 3) := by decide +kernel
theorem dX8_readTurns_85 : decode cX8_readTurns 85 = .ok (.aload_n 0, 1) := by decide +kernel
theorem dX8_readTurns_86 : decode cX8_readTurns 86 = .ok (.invokevirtual 211, 3) := by decide +kernel
theorem dX8_readTurns_89 : decode cX8_readTurns 89 = .ok (.ifCond .ne (-78), 3) := by decide +kernel
theorem dX8_readTurns_92 : decode cX8_readTurns 92 = .ok (.return_, 1) := by decide +kernel
theorem dX8_readLine_0 : decode cX8_readLine 0 = .ok (.aload_n 0, 1) := by decide +kernel
theorem dX8_readLine_1 : decode cX8_readLine 1 = .ok (.ldc 215, 2) := by decide +kernel
theorem dX8_readLine_3 : decode cX8_readLine 3 = .ok (.invokevirtual 178, 3) := by decide +kernel
theorem dX8_readLine_6 : decode cX8_readLine 6 = .ok (.ifCond .eq 10, 3) := by decide +kernel
theorem dX8_readLine_9 : decode cX8_readLine 9 = .ok (.aload_n 0, 1) := by decide +kernel
theorem dX8_readLine_10 : decode cX8_readLine 10 = .ok (.invokevirtual 217, 3) := by decide +kernel
theorem dX8_readLine_13 : decode cX8_readLine 13 = .ok (.goto 40, 3) := by decide +kernel
theorem dX8_readLine_16 : decode cX8_readLine 16 = .ok (.aload_n 0, 1) := by decide +kernel
theorem dX8_readLine_17 : decode cX8_readLine 17 = .ok (.ldc 220, 2) := by decide +kernel
theorem dX8_readLine_19 : decode cX8_readLine 19 = .ok (.invokevirtual 178, 3) := by decide +kernel
theorem dX8_readLine_22 : decode cX8_readLine 22 = .ok (.ifCond .eq 10, 3) := by decide +kernel
theorem dX8_readLine_25 : decode cX8_readLine 25 = .ok (.aload_n 0, 1) := by decide +kernel
theorem dX8_readLine_26 : decode cX8_readLine 26 = .ok (.invokevirtual 221, 3) := by decide +kernel
theorem dX8_readLine_29 : decode cX8_readLine 29 = .ok (.goto 24, 3) := by decide +kernel
theorem dX8_readLine_32 : decode cX8_readLine 32 = .ok (.aload_n 0, 1) := by decide +kernel
theorem dX8_readLine_33 : decode cX8_readLine 33 = .ok (.ldc 224, 2) := by decide +kernel
theorem dX8_readLine_35 : decode cX8_readLine 35 = .ok (.invokevirtual 178, 3) := by decide +kernel
theorem dX8_readLine_38 : decode cX8_readLine 38 = .ok (.ifCond .eq 10, 3) := by decide +kernel
theorem dX8_readLine_41 : decode cX8_readLine 41 = .ok (.aload_n 0, 1) := by decide +kernel
theorem dX8_readLine_42 : decode cX8_readLine 42 = .ok (.invokevirtual 226, 3) := by decide +kernel
theorem dX8_readLine_45 : decode cX8_readLine 45 = .ok (.goto 8, 3) := by decide +kernel
theorem dX8_readLine_48 : decode cX8_readLine 48 = .ok (.aload_n 0, 1) := by decide +kernel
theorem dX8_readLine_49 : decode cX8_readLine 49 = .ok (.iconst 1, 1) := by decide +kernel
theorem dX8_readLine_50 : decode cX8_readLine 50 = .ok (.invokevirtual 182, 3) := by decide +kernel
theorem dX8_readLine_53 : decode cX8_readLine 53 = .ok (.aload_n 0, 1) := by decide +kernel
theorem dX8_readLine_54 : decode cX8_readLine 54 = .ok (.invokevirtual 229, 3) := by decide +kernel
theorem dX8_readLine_57 : decode cX8_readLine 57 = .ok (.return_, 1) := by decide +kernel
theorem dX8_hall_0 : decode cX8_hall 0 = .ok (.aload_n 0, 1) := by decide +kernel
theorem dX8_hall_1 : decode cX8_hall 1 = .ok (.iconst 0, 1) := by decide +kernel
theorem dX8_hall_2 : decode cX8_hall 2 = .ok (.putfield 117, 3) := by decide +kernel
theorem dX8_hall_5 : decode cX8_hall 5 = .ok (.iload_n 1, 1) := by decide +kernel
theorem dX8_hall_6 : decode cX8_hall 6 = .ok (.ifCond .lt 11, 3) := by decide +kernel
theorem dX8_hall_9 : decode cX8_hall 9 = .ok (.iload_n 1, 1) := by decide +kernel
theorem dX8_hall_10 : decode cX8_hall 10 = .ok (.aload_n 0, 1) := by decide +kernel
theorem dX8_hall_11 : decode cX8_hall 11 = .ok (.getfield 124, 3) := by decide +kernel
theorem dX8_hall_14 : decode cX8_hall 14 = .ok (.if_icmp .le 9, 3) := by decide +kernel
theorem dX8_hall_17 : decode cX8_hall 17 = .ok (.aload_n 0, 1) := by decide +kernel
theorem dX8_hall_18 : decode cX8_hall 18 = .ok (.iconst 1, 1) := by decide +kernel
theorem dX8_hall_19 : decode cX8_hall 19 = .ok (.invokevirtual 232, 3) := by decide +kernel
theorem dX8_hall_22 : decode cX8_hall 22 = .ok (.ireturn, 1) := by decide +kernel
theorem dX8_hall_23 : decode cX8_hall 23 = .ok (.aload_n 0, 1) := by decide +kernel
theorem dX8_hall_24 : decode cX8_hall 24 = .ok (.iconst 0, 1) := by decide +kernel
theorem dX8_hall_25 : decode cX8_hall 25 = .ok (.putfield 124, 3) := by decide +kernel
theorem dX8_hall_28 : decode cX8_hall 28 = .ok (.aload_n 0, 1) := by decide +kernel
theorem dX8_hall_29 : decode cX8_hall 29 = .ok (.iload_n 1, 1) := by decide +kernel
theorem dX8_hall_30 : decode cX8_hall 30 = .ok (.putfield 127, 3) := by decide +kernel
theorem dX8_hall_33 : decode cX8_hall 33 = .ok (.aload_n 0, 1) := by decide +kernel
theorem dX8_hall_34 : decode cX8_hall 34 = .ok (.iconst 0, 1) := by decide +kernel
theorem dX8_hall_35 : decode cX8_hall 35 = .ok (.putfield 130, 3) := by decide +kernel
theorem dX8_hall_38 : decode cX8_hall 38 = .ok (.aload_n 0, 1) := by decide +kernel
theorem dX8_hall_39 : decode cX8_hall 39 = .ok (.iconst 0, 1) := by decide +kernel
theorem dX8_hall_40 : decode cX8_hall 40 = .ok (.putfield 162, 3) := by decide +kernel
theorem dX8_hall_43 : decode cX8_hall 43 = .ok (.aload_n 0, 1) := by decide +kernel
theorem dX8_hall_44 : decode cX8_hall 44 = .ok (.iconst (-1), 1) := by decide +kernel
theorem dX8_hall_45 : decode cX8_hall 45 = .ok (.putfield 47, 3) := by decide +kernel
theorem dX8_hall_48 : decode cX8_hall 48 = .ok (.aload_n 0, 1) := by decide +kernel
theorem dX8_hall_49 : decode cX8_hall 49 = .ok (.getfield 13, 3) := by decide +kernel
theorem dX8_hall_52 : decode cX8_hall 52 = .ok (.iconst 1, 1) := by decide +kernel
theorem dX8_hall_53 : decode cX8_hall 53 = .ok (.iconst 0, 1) := by decide +kernel
theorem dX8_hall_54 : decode cX8_hall 54 = .ok (.iastore, 1) := by decide +kernel
theorem dX8_hall_55 : decode cX8_hall 55 = .ok (.aload_n 0, 1) := by decide +kernel
theorem dX8_hall_56 : decode cX8_hall 56 = .ok (.getfield 16, 3) := by decide +kernel
theorem dX8_hall_59 : decode cX8_hall 59 = .ok (.iconst 1, 1) := by decide +kernel
theorem dX8_hall_60 : decode cX8_hall 60 = .ok (.iconst 0, 1) := by decide +kernel
theorem dX8_hall_61 : decode cX8_hall 61 = .ok (.iastore, 1) := by decide +kernel
theorem dX8_hall_62 : decode cX8_hall 62 = .ok (.aload_n 0, 1) := by decide +kernel
theorem dX8_hall_63 : decode cX8_hall 63 = .ok (.getfield 19, 3) := by decide +kernel
theorem dX8_hall_66 : decode cX8_hall 66 = .ok (.iconst 1, 1) := by decide +kernel
theorem dX8_hall_67 : decode cX8_hall 67 = .ok (.iconst 1, 1) := by decide +kernel
theorem dX8_hall_68 : decode cX8_hall 68 = .ok (.iastore, 1) := by decide +kernel
theorem dX8_hall_69 : decode cX8_hall 69 = .ok (.aload_n 0, 1) := by decide +kernel
theorem dX8_hall_70 : decode cX8_hall 70 = .ok (.getfield 22, 3) := by decide +kernel
theorem dX8_hall_73 : decode cX8_hall 73 = .ok (.iconst 1, 1) := by decide +kernel
theorem dX8_hall_74 : decode cX8_hall 74 = .ok (.iconst 0, 1) := by decide +kernel
theorem dX8_hall_75 : decode cX8_hall 75 = .ok (.iastore, 1) := by decide +kernel
theorem dX8_hall_76 : decode cX8_hall 76 = .ok (.aload_n 0, 1) := by decide +kernel
theorem dX8_hall_77 : decode cX8_hall 77 = .ok (.getfield 25, 3) := by decide +kernel
theorem dX8_hall_80 : decode cX8_hall 80 = .ok (.iconst 1, 1) := by decide +kernel
theorem dX8_hall_81 : decode cX8_hall 81 = .ok (.iconst 0, 1) := by decide +kernel
theorem dX8_hall_82 : decode cX8_hall 82 = .ok (.iastore, 1) := by decide +kernel
theorem dX8_hall_83 : decode cX8_hall 83 = .ok (.aload_n 0, 1) := by decide +kernel
theorem dX8_hall_84 : decode cX8_hall 84 = .ok (.invokevirtual 186, 3) := by decide +kernel
theorem dX8_hall_87 : decode cX8_hall 87 = .ok (.aload_n 0, 1) := by decide +kernel
theorem dX8_hall_88 : decode cX8_hall 88 = .ok (.ldc 235, 2) := by decide +kernel
theorem dX8_hall_90 : decode cX8_hall 90 = .ok (.invokevirtual 198, 3) := by decide +kernel
theorem dX8_hall_93 : decode cX8_hall 93 = .ok (.aload_n 0, 1) := by decide +kernel
theorem dX8_hall_94 : decode cX8_hall 94 = .ok (.getfield 7, 3) := by decide +kernel
theorem dX8_hall_97 : decode cX8_hall 97 = .ok (.iconst 1, 1) := by decide +kernel
theorem dX8_hall_98 : decode cX8_hall 98 = .ok (.aload_n 0, 1) := by decide +kernel
theorem dX8_hall_99 : decode cX8_hall 99 = .ok (.iconst 2, 1) := by decide +kernel
theorem dX8_hall_100 : decode cX8_hall 100 = .ok (.bipush 9, 2) := by decide +kernel
theorem dX8_hall_102 : decode cX8_hall 102 = .ok (.sipush 1000, 3) := by decide +kernel
theorem dX8_hall_105 : decode cX8_hall 105 = .ok (.iconst 0, 1) := by decide +kernel
theorem dX8_hall_106 : decode cX8_hall 106 = .ok (.invokevirtual 189, 3) := by decide +kernel
theorem dX8_hall_109 : decode cX8_hall 109 = .ok (.iastore, 1) := by decide +kernel
theorem dX8_hall_110 : decode cX8_hall 110 = .ok (.aload_n 0, 1) := by decide +kernel
theorem dX8_hall_111 : decode cX8_hall 111 = .ok (.getfield 162, 3) := by decide +kernel
theorem dX8_hall_114 : decode cX8_hall 114 = .ok (.ifCond .ne 7, 3) := by decide +kernel
theorem dX8_hall_117 : decode cX8_hall 117 = .ok (.aload_n 0, 1) := by decide +kernel
theorem dX8_hall_118 : decode cX8_hall 118 = .ok (.invokevirtual 186, 3) := by decide +kernel
theorem dX8_hall_121 : decode cX8_hall 121 = .ok (.aload_n 0, 1) := by decide +kernel
theorem dX8_hall_122 : decode cX8_hall 122 = .ok (.invokevirtual 229, 3) := by decide +kernel
theorem dX8_hall_125 : decode cX8_hall 125 = .ok (.aload_n 0, 1) := by decide +kernel
theorem dX8_hall_126 : decode cX8_hall 126 = .ok (.getfield 162, 3) := by decide +kernel
theorem dX8_hall_129 : decode cX8_hall 129 = .ok (.ifCond .ne 17, 3) := by decide +kernel
theorem dX8_hall_132 : decode cX8_hall 132 = .ok (.aload_n 0, 1) := by decide +kernel
theorem dX8_hall_133 : decode cX8_hall 133 = .ok (.getfield 140, 3) := by decide +kernel
theorem dX8_hall_136 : decode cX8_hall 136 = .ok (.ifCond .eq 10, 3) := by decide +kernel
theorem dX8_hall_139 : decode cX8_hall 139 = .ok (.aload_n 0, 1) := by decide +kernel
theorem dX8_hall_140 : decode cX8_hall 140 = .ok (.invokevirtual 236, 3) := by decide +kernel
theorem dX8_hall_143 : decode cX8_hall 143 = .ok (.goto (-18), 3) := by decide +kernel
theorem dX8_hall_146 : decode cX8_hall 146 = .ok (.aload_n 0, 1) := by decide +kernel
theorem dX8_hall_147 : decode cX8_hall 147 = .ok (.getfield 162, 3) := by decide +kernel
theorem dX8_hall_150 : decode cX8_hall 150 = .ok (.ifCond .eq 16, 3) := by decide +kernel
theorem dX8_hall_153 : decode cX8_hall 153 = .ok (.aload_n 0, 1) := by decide +kernel
theorem dX8_hall_154 : decode cX8_hall 154 = .ok (.aload_n 0, 1) := by decide +kernel
theorem dX8_hall_155 : decode cX8_hall 155 = .ok (.getfield 165, 3) := by decide +kernel
theorem dX8_hall_158 : decode cX8_hall 158 = .ok (.putfield 47, 3) := by decide +kernel
theorem dX8_hall_161 : decode cX8_hall 161 = .ok (.aload_n 0, 1) := by decide +kernel
theorem dX8_hall_162 : decode cX8_hall 162 = .ok (.getfield 162, 3) := by decide +kernel
theorem dX8_hall_165 : decode cX8_hall 165 = .ok (.ireturn, 1) := by decide +kernel
theorem dX8_hall_166 : decode cX8_hall 166 = .ok (.aload_n 0, 1) := by decide +kernel
theorem dX8_hall_167 : decode cX8_hall 167 = .ok (.getfield 7, 3) := by decide +kernel
theorem dX8_hall_170 : decode cX8_hall 170 = .ok (.iconst 0, 1) := by decide +kernel
theorem dX8_hall_171 : decode cX8_hall 171 = .ok (.aload_n 0, 1) := by decide +kernel
theorem dX8_hall_172 : decode cX8_hall 172 = .ok (.getfield 7, 3) := by decide +kernel
theorem dX8_hall_175 : decode cX8_hall 175 = .ok (.iconst 1, 1) := by decide +kernel
theorem dX8_hall_176 : decode cX8_hall 176 = .ok (.iaload, 1) := by decide +kernel
theorem dX8_hall_177 : decode cX8_hall 177 = .ok (.iastore, 1) := by decide +kernel
theorem dX8_hall_178 : decode cX8_hall 178 = .ok (.aload_n 0, 1) := by decide +kernel
theorem dX8_hall_179 : decode cX8_hall 179 = .ok (.getfield 13, 3) := by decide +kernel
theorem dX8_hall_182 : decode cX8_hall 182 = .ok (.iconst 0, 1) := by decide +kernel
theorem dX8_hall_183 : decode cX8_hall 183 = .ok (.aload_n 0, 1) := by decide +kernel
theorem dX8_hall_184 : decode cX8_hall 184 = .ok (.getfield 13, 3) := by decide +kernel
theorem dX8_hall_187 : decode cX8_hall 187 = .ok (.iconst 1, 1) := by decide +kernel
theorem dX8_hall_188 : decode cX8_hall 188 = .ok (.iaload, 1) := by decide +kernel
theorem dX8_hall_189 : decode cX8_hall 189 = .ok (.iastore, 1) := by decide +kernel
theorem dX8_hall_190 : decode cX8_hall 190 = .ok (.aload_n 0, 1) := by decide +kernel
theorem dX8_hall_191 : decode cX8_hall 191 = .ok (.getfield 16, 3) := by decide +kernel
theorem dX8_hall_194 : decode cX8_hall 194 = .ok (.iconst 0, 1) := by decide +kernel
theorem dX8_hall_195 : decode cX8_hall 195 = .ok (.aload_n 0, 1) := by decide +kernel
theorem dX8_hall_196 : decode cX8_hall 196 = .ok (.getfield 16, 3) := by decide +kernel
theorem dX8_hall_199 : decode cX8_hall 199 = .ok (.iconst 1, 1) := by decide +kernel
theorem dX8_hall_200 : decode cX8_hall 200 = .ok (.iaload, 1) := by decide +kernel
theorem dX8_hall_201 : decode cX8_hall 201 = .ok (.iastore, 1) := by decide +kernel
theorem dX8_hall_202 : decode cX8_hall 202 = .ok (.aload_n 0, 1) := by decide +kernel
theorem dX8_hall_203 : decode cX8_hall 203 = .ok (.getfield 19, 3) := by decide +kernel
theorem dX8_hall_206 : decode cX8_hall 206 = .ok (.iconst 0, 1) := by decide +kernel
theorem dX8_hall_207 : decode cX8_hall 207 = .ok (.aload_n 0, 1) := by decide +kernel
theorem dX8_hall_208 : decode cX8_hall 208 = .ok (.getfield 19, 3) := by decide +kernel
theorem dX8_hall_211 : decode cX8_hall 211 = .ok (.iconst 1, 1) := by decide +kernel
theorem dX8_hall_212 : decode cX8_hall 212 = .ok (.iaload, 1) := by decide +kernel
theorem dX8_hall_213 : decode cX8_hall 213 = .ok (.iastore, 1) := by decide +kernel
theorem dX8_hall_214 : decode cX8_hall 214 = .ok (.aload_n 0, 1) := by decide +kernel
theorem dX8_hall_215 : decode cX8_hall 215 = .ok (.getfield 22, 3) := by decide +kernel
theorem dX8_hall_218 : decode cX8_hall 218 = .ok (.iconst 0, 1) := by decide +kernel
theorem dX8_hall_219 : decode cX8_hall 219 = .ok (.aload_n 0, 1) := by decide +kernel
theorem dX8_hall_220 : decode cX8_hall 220 = .ok (.getfield 22, 3) := by decide +kernel
theorem dX8_hall_223 : decode cX8_hall 223 = .ok (.iconst 1, 1) := by decide +kernel
theorem dX8_hall_224 : decode cX8_hall 224 = .ok (.iaload, 1) := by decide +kernel
theorem dX8_hall_225 : decode cX8_hall 225 = .ok (.iastore, 1) := by decide +kernel
theorem dX8_hall_226 : decode cX8_hall 226 = .ok (.aload_n 0, 1) := by decide +kernel
theorem dX8_hall_227 : decode cX8_hall 227 = .ok (.getfield 25, 3) := by decide +kernel
theorem dX8_hall_230 : decode cX8_hall 230 = .ok (.iconst 0, 1) := by decide +kernel
theorem dX8_hall_231 : decode cX8_hall 231 = .ok (.aload_n 0, 1) := by decide +kernel
theorem dX8_hall_232 : decode cX8_hall 232 = .ok (.getfield 25, 3) := by decide +kernel
theorem dX8_hall_235 : decode cX8_hall 235 = .ok (.iconst 1, 1) := by decide +kernel
theorem dX8_hall_236 : decode cX8_hall 236 = .ok (.iaload, 1) := by decide +kernel
theorem dX8_hall_237 : decode cX8_hall 237 = .ok (.iastore, 1) := by decide +kernel
theorem dX8_hall_238 : decode cX8_hall 238 = .ok (.iconst 0, 1) := by decide +kernel
theorem dX8_hall_239 : decode cX8_hall 239 = .ok (.istore_n 2, 1) := by decide +kernel
theorem dX8_hall_240 : decode cX8_hall 240 = .ok (.iload_n 2, 1) := by decide +kernel
theorem dX8_hall_241 : decode cX8_hall 241 = .ok (.bipush 8, 2) := by decide +kernel
theorem dX8_hall_243 : decode cX8_hall 243 = .ok (.if_icmp .ge 78, 3) := by decide +kernel
theorem dX8_hall_246 : decode cX8_hall 246 = .ok (.aload_n 0, 1) := by decide +kernel
theorem dX8_hall_247 : decode cX8_hall 247 = .ok (.getfield 28, 3) := by decide +kernel
theorem dX8_hall_250 : decode cX8_hall 250 = .ok (.iload_n 2, 1) := by decide +kernel
theorem dX8_hall_251 : decode cX8_hall 251 = .ok (.aload_n 0, 1) := by decide +kernel
theorem dX8_hall_252 : decode cX8_hall 252 = .ok (.getfield 28, 3) := by decide +kernel
theorem dX8_hall_255 : decode cX8_hall 255 = .ok (.bipush 8, 2) := by decide +kernel
theorem dX8_hall_257 : decode cX8_hall 257 = .ok (.iload_n 2, 1) := by decide +kernel
theorem dX8_hall_258 : decode cX8_hall 258 = .ok (.iadd, 1) := by decide +kernel
theorem dX8_hall_259 : decode cX8_hall 259 = .ok (.iaload, 1) := by decide +kernel
theorem dX8_hall_260 : decode cX8_hall 260 = .ok (.iastore, 1) := by decide +kernel
theorem dX8_hall_261 : decode cX8_hall 261 = .ok (.aload_n 0, 1) := by decide +kernel
theorem dX8_hall_262 : decode cX8_hall 262 = .ok (.getfield 40, 3) := by decide +kernel
theorem dX8_hall_265 : decode cX8_hall 265 = .ok (.iload_n 2, 1) := by decide +kernel
theorem dX8_hall_266 : decode cX8_hall 266 = .ok (.aload_n 0, 1) := by decide +kernel
theorem dX8_hall_267 : decode cX8_hall 267 = .ok (.getfield 40, 3) := by decide +kernel
theorem dX8_hall_270 : decode cX8_hall 270 = .ok (.bipush 8, 2) := by decide +kernel
theorem dX8_hall_272 : decode cX8_hall 272 = .ok (.iload_n 2, 1) := by decide +kernel
theorem dX8_hall_273 : decode cX8_hall 273 = .ok (.iadd, 1) := by decide +kernel
theorem dX8_hall_274 : decode cX8_hall 274 = .ok (.baload, 1) := by decide +kernel
theorem dX8_hall_275 : decode cX8_hall 275 = .ok (.bastore, 1) := by decide +kernel
theorem dX8_hall_276 : decode cX8_hall 276 = .ok (.iconst 0, 1) := by decide +kernel
theorem dX8_hall_277 : decode cX8_hall 277 = .ok (.istore_n 3, 1) := by decide +kernel
theorem dX8_hall_278 : decode cX8_hall 278 = .ok (.iload_n 3, 1) := by decide +kernel
theorem dX8_hall_279 : decode cX8_hall 279 = .ok (.bipush 10, 2) := by decide +kernel
theorem dX8_hall_281 : decode cX8_hall 281 = .ok (.if_icmp .ge 34, 3) := by decide +kernel
theorem dX8_hall_284 : decode cX8_hall 284 = .ok (.aload_n 0, 1) := by decide +kernel
theorem dX8_hall_285 : decode cX8_hall 285 = .ok (.getfield 31, 3) := by decide +kernel
theorem dX8_hall_288 : decode cX8_hall 288 = .ok (.iload_n 2, 1) := by decide +kernel
theorem dX8_hall_289 : decode cX8_hall 289 = .ok (.bipush 10, 2) := by decide +kernel
theorem dX8_hall_291 : decode cX8_hall 291 = .ok (.imul, 1) := by decide +kernel
theorem dX8_hall_292 : decode cX8_hall 292 = .ok (.iload_n 3, 1) := by decide +kernel
theorem dX8_hall_293 : decode cX8_hall 293 = .ok (.iadd, 1) := by decide +kernel
theorem dX8_hall_294 : decode cX8_hall 294 = .ok (.aload_n 0, 1) := by decide +kernel
theorem dX8_hall_295 : decode cX8_hall 295 = .ok (.getfield 31, 3) := by decide +kernel
theorem dX8_hall_298 : decode cX8_hall 298 = .ok (.bipush 8, 2) := by decide +kernel
theorem dX8_hall_300 : decode cX8_hall 300 = .ok (.iload_n 2, 1) := by decide +kernel
theorem dX8_hall_301 : decode cX8_hall 301 = .ok (.iadd, 1) := by decide +kernel
theorem dX8_hall_302 : decode cX8_hall 302 = .ok (.bipush 10, 2) := by decide +kernel
theorem dX8_hall_304 : decode cX8_hall 304 = .ok (.imul, 1) := by decide +kernel
theorem dX8_hall_305 : decode cX8_hall 305 = .ok (.iload_n 3, 1) := by decide +kernel
theorem dX8_hall_306 : decode cX8_hall 306 = .ok (.iadd, 1) := by decide +kernel
theorem dX8_hall_307 : decode cX8_hall 307 = .ok (.iaload, 1) := by decide +kernel
theorem dX8_hall_308 : decode cX8_hall 308 = .ok (.iastore, 1) := by decide +kernel
theorem dX8_hall_309 : decode cX8_hall 309 = .ok (.iinc 3 1, 3) := by decide +kernel
theorem dX8_hall_312 : decode cX8_hall 312 = .ok (.goto (-34), 3) := by decide +kernel
theorem dX8_hall_315 : decode cX8_hall 315 = .ok (.iinc 2 1, 3) := by decide +kernel
theorem dX8_hall_318 : decode cX8_hall 318 = .ok (.goto (-78), 3) := by decide +kernel
theorem dX8_hall_321 : decode cX8_hall 321 = .ok (.iconst 0, 1) := by decide +kernel
theorem dX8_hall_322 : decode cX8_hall 322 = .ok (.istore_n 2, 1) := by decide +kernel
theorem dX8_hall_323 : decode cX8_hall 323 = .ok (.iload_n 2, 1) := by decide +kernel
theorem dX8_hall_324 : decode cX8_hall 324 = .ok (.bipush 8, 2) := by decide +kernel
theorem dX8_hall_326 : decode cX8_hall 326 = .ok (.if_icmp .ge 24, 3) := by decide +kernel
theorem dX8_hall_329 : decode cX8_hall 329 = .ok (.aload_n 0, 1) := by decide +kernel
theorem dX8_hall_330 : decode cX8_hall 330 = .ok (.getfield 34, 3) := by decide +kernel
theorem dX8_hall_333 : decode cX8_hall 333 = .ok (.iload_n 2, 1) := by decide +kernel
theorem dX8_hall_334 : decode cX8_hall 334 = .ok (.aload_n 0, 1) := by decide +kernel
theorem dX8_hall_335 : decode cX8_hall 335 = .ok (.getfield 34, 3) := by decide +kernel
theorem dX8_hall_338 : decode cX8_hall 338 = .ok (.bipush 8, 2) := by decide +kernel
theorem dX8_hall_340 : decode cX8_hall 340 = .ok (.iload_n 2, 1) := by decide +kernel
theorem dX8_hall_341 : decode cX8_hall 341 = .ok (.iadd, 1) := by decide +kernel
theorem dX8_hall_342 : decode cX8_hall 342 = .ok (.iaload, 1) := by decide +kernel
theorem dX8_hall_343 : decode cX8_hall 343 = .ok (.iastore, 1) := by decide +kernel
theorem dX8_hall_344 : decode cX8_hall 344 = .ok (.iinc 2 1, 3) := by decide +kernel
theorem dX8_hall_347 : decode cX8_hall 347 = .ok (.goto (-24), 3) := by decide +kernel
theorem dX8_hall_350 : decode cX8_hall 350 = .ok (.iconst 0, 1) := by decide +kernel
theorem dX8_hall_351 : decode cX8_hall 351 = .ok (.istore_n 2, 1) := by decide +kernel
theorem dX8_hall_352 : decode cX8_hall 352 = .ok (.iload_n 2, 1) := by decide +kernel
theorem dX8_hall_353 : decode cX8_hall 353 = .ok (.bipush 9, 2) := by decide +kernel
theorem dX8_hall_355 : decode cX8_hall 355 = .ok (.if_icmp .ge 24, 3) := by decide +kernel
theorem dX8_hall_358 : decode cX8_hall 358 = .ok (.aload_n 0, 1) := by decide +kernel
theorem dX8_hall_359 : decode cX8_hall 359 = .ok (.getfield 37, 3) := by decide +kernel
theorem dX8_hall_362 : decode cX8_hall 362 = .ok (.iload_n 2, 1) := by decide +kernel
theorem dX8_hall_363 : decode cX8_hall 363 = .ok (.aload_n 0, 1) := by decide +kernel
theorem dX8_hall_364 : decode cX8_hall 364 = .ok (.getfield 37, 3) := by decide +kernel
theorem dX8_hall_367 : decode cX8_hall 367 = .ok (.bipush 9, 2) := by decide +kernel
theorem dX8_hall_369 : decode cX8_hall 369 = .ok (.iload_n 2, 1) := by decide +kernel
theorem dX8_hall_370 : decode cX8_hall 370 = .ok (.iadd, 1) := by decide +kernel
theorem dX8_hall_371 : decode cX8_hall 371 = .ok (.iaload, 1) := by decide +kernel
theorem dX8_hall_372 : decode cX8_hall 372 = .ok (.iastore, 1) := by decide +kernel
theorem dX8_hall_373 : decode cX8_hall 373 = .ok (.iinc 2 1, 3) := by decide +kernel
theorem dX8_hall_376 : decode cX8_hall 376 = .ok (.goto (-24), 3) := by decide +kernel
theorem dX8_hall_379 : decode cX8_hall 379 = .ok (.aload_n 0, 1) := by decide +kernel
theorem dX8_hall_380 : decode cX8_hall 380 = .ok (.invokevirtual 239, 3) := by decide +kernel
theorem dX8_hall_383 : decode cX8_hall 383 = .ok (.iconst 0, 1) := by decide +kernel
theorem dX8_hall_384 : decode cX8_hall 384 = .ok (.ireturn, 1) := by decide +kernel
theorem dX8_renew_0 : decode cX8_renew 0 = .ok (.aload_n 0, 1) := by decide +kernel
theorem dX8_renew_1 : decode cX8_renew 1 = .ok (.dup, 1) := by decide +kernel
theorem dX8_renew_2 : decode cX8_renew 2 = .ok (.getfield 242, 3) := by decide +kernel
theorem dX8_renew_5 : decode cX8_renew 5 = .ok (.iconst 1, 1) := by decide +kernel
theorem dX8_renew_6 : decode cX8_renew 6 = .ok (.iadd, 1) := by decide +kernel
theorem dX8_renew_7 : decode cX8_renew 7 = .ok (.putfield 242, 3) := by decide +kernel
theorem dX8_renew_10 : decode cX8_renew 10 = .ok (.aload_n 0, 1) := by decide +kernel
theorem dX8_renew_11 : decode cX8_renew 11 = .ok (.iconst 0, 1) := by decide +kernel
theorem dX8_renew_12 : decode cX8_renew 12 = .ok (.putfield 245, 3) := by decide +kernel
theorem dX8_renew_15 : decode cX8_renew 15 = .ok (.iconst 0, 1) := by decide +kernel
theorem dX8_renew_16 : decode cX8_renew 16 = .ok (.istore_n 1, 1) := by decide +kernel
theorem dX8_renew_17 : decode cX8_renew 17 = .ok (.iload_n 1, 1) := by decide +kernel
theorem dX8_renew_18 : decode cX8_renew 18 = .ok (.bipush 8, 2) := by decide +kernel
theorem dX8_renew_20 : decode cX8_renew 20 = .ok (.if_icmp .ge 16, 3) := by decide +kernel
theorem dX8_renew_23 : decode cX8_renew 23 = .ok (.aload_n 0, 1) := by decide +kernel
theorem dX8_renew_24 : decode cX8_renew 24 = .ok (.getfield 111, 3) := by decide +kernel
theorem dX8_renew_27 : decode cX8_renew 27 = .ok (.iload_n 1, 1) := by decide +kernel
theorem dX8_renew_28 : decode cX8_renew 28 = .ok (.iconst (-1), 1) := by decide +kernel
theorem dX8_renew_29 : decode cX8_renew 29 = .ok (.iastore, 1) := by decide +kernel
theorem dX8_renew_30 : decode cX8_renew 30 = .ok (.iinc 1 1, 3) := by decide +kernel
theorem dX8_renew_33 : decode cX8_renew 33 = .ok (.goto (-16), 3) := by decide +kernel
theorem dX8_renew_36 : decode cX8_renew 36 = .ok (.return_, 1) := by decide +kernel
theorem dX8_fault_0 : decode cX8_fault 0 = .ok (.aload_n 0, 1) := by decide +kernel
theorem dX8_fault_1 : decode cX8_fault 1 = .ok (.iconst 0, 1) := by decide +kernel
theorem dX8_fault_2 : decode cX8_fault 2 = .ok (.putfield 117, 3) := by decide +kernel
theorem dX8_fault_5 : decode cX8_fault 5 = .ok (.aload_n 0, 1) := by decide +kernel
theorem dX8_fault_6 : decode cX8_fault 6 = .ok (.getfield 47, 3) := by decide +kernel
theorem dX8_fault_9 : decode cX8_fault 9 = .ok (.ireturn, 1) := by decide +kernel
theorem dX8_count_0 : decode cX8_count 0 = .ok (.aload_n 0, 1) := by decide +kernel
theorem dX8_count_1 : decode cX8_count 1 = .ok (.iconst 0, 1) := by decide +kernel
theorem dX8_count_2 : decode cX8_count 2 = .ok (.putfield 117, 3) := by decide +kernel
theorem dX8_count_5 : decode cX8_count 5 = .ok (.iload_n 1, 1) := by decide +kernel
theorem dX8_count_6 : decode cX8_count 6 = .ok (.tableswitch 95 0 6 #[42, 49, 56, 63, 70, 75, 80], 42) := by decide +kernel
theorem dX8_count_48 : decode cX8_count 48 = .ok (.aload_n 0, 1) := by decide +kernel
theorem dX8_count_49 : decode cX8_count 49 = .ok (.getfield 7, 3) := by decide +kernel
theorem dX8_count_52 : decode cX8_count 52 = .ok (.iconst 0, 1) := by decide +kernel
theorem dX8_count_53 : decode cX8_count 53 = .ok (.iaload, 1) := by decide +kernel
theorem dX8_count_54 : decode cX8_count 54 = .ok (.ireturn, 1) := by decide +kernel
theorem dX8_count_55 : decode cX8_count 55 = .ok (.aload_n 0, 1) := by decide +kernel
theorem dX8_count_56 : decode cX8_count 56 = .ok (.getfield 13, 3) := by decide +kernel
theorem dX8_count_59 : decode cX8_count 59 = .ok (.iconst 0, 1) := by decide +kernel
theorem dX8_count_60 : decode cX8_count 60 = .ok (.iaload, 1) := by decide +kernel
theorem dX8_count_61 : decode cX8_count 61 = .ok (.ireturn, 1) := by decide +kernel
theorem dX8_count_62 : decode cX8_count 62 = .ok (.aload_n 0, 1) := by decide +kernel
theorem dX8_count_63 : decode cX8_count 63 = .ok (.getfield 25, 3) := by decide +kernel
theorem dX8_count_66 : decode cX8_count 66 = .ok (.iconst 0, 1) := by decide +kernel
theorem dX8_count_67 : decode cX8_count 67 = .ok (.iaload, 1) := by decide +kernel
theorem dX8_count_68 : decode cX8_count 68 = .ok (.ireturn, 1) := by decide +kernel
theorem dX8_count_69 : decode cX8_count 69 = .ok (.aload_n 0, 1) := by decide +kernel
theorem dX8_count_70 : decode cX8_count 70 = .ok (.getfield 16, 3) := by decide +kernel
theorem dX8_count_73 : decode cX8_count 73 = .ok (.iconst 0, 1) := by decide +kernel
theorem dX8_count_74 : decode cX8_count 74 = .ok (.iaload, 1) := by decide +kernel
theorem dX8_count_75 : decode cX8_count 75 = .ok (.ireturn, 1) := by decide +kernel
theorem dX8_count_76 : decode cX8_count 76 = .ok (.aload_n 0, 1) := by decide +kernel
theorem dX8_count_77 : decode cX8_count 77 = .ok (.getfield 245, 3) := by decide +kernel
theorem dX8_count_80 : decode cX8_count 80 = .ok (.ireturn, 1) := by decide +kernel
theorem dX8_count_81 : decode cX8_count 81 = .ok (.aload_n 0, 1) := by decide +kernel
theorem dX8_count_82 : decode cX8_count 82 = .ok (.getfield 124, 3) := by decide +kernel
theorem dX8_count_85 : decode cX8_count 85 = .ok (.ireturn, 1) := by decide +kernel
theorem dX8_count_86 : decode cX8_count 86 = .ok (.aload_n 0, 1) := by decide +kernel
theorem dX8_count_87 : decode cX8_count 87 = .ok (.iconst 1, 1) := by decide +kernel
theorem dX8_count_88 : decode cX8_count 88 = .ok (.aload_n 0, 1) := by decide +kernel
theorem dX8_count_89 : decode cX8_count 89 = .ok (.getfield 13, 3) := by decide +kernel
theorem dX8_count_92 : decode cX8_count 92 = .ok (.iconst 0, 1) := by decide +kernel
theorem dX8_count_93 : decode cX8_count 93 = .ok (.iaload, 1) := by decide +kernel
theorem dX8_count_94 : decode cX8_count 94 = .ok (.ishl, 1) := by decide +kernel
theorem dX8_count_95 : decode cX8_count 95 = .ok (.iconst 1, 1) := by decide +kernel
theorem dX8_count_96 : decode cX8_count 96 = .ok (.isub, 1) := by decide +kernel
theorem dX8_count_97 : decode cX8_count 97 = .ok (.invokevirtual 248, 3) := by decide +kernel
theorem dX8_count_100 : decode cX8_count 100 = .ok (.ireturn, 1) := by decide +kernel
theorem dX8_count_101 : decode cX8_count 101 = .ok (.aload_n 0, 1) := by decide +kernel
theorem dX8_count_102 : decode cX8_count 102 = .ok (.iconst 1, 1) := by decide +kernel
theorem dX8_count_103 : decode cX8_count 103 = .ok (.invokevirtual 232, 3) := by decide +kernel
theorem dX8_count_106 : decode cX8_count 106 = .ok (.ireturn, 1) := by decide +kernel
theorem dX8_turn_0 : decode cX8_turn 0 = .ok (.aload_n 0, 1) := by decide +kernel
theorem dX8_turn_1 : decode cX8_turn 1 = .ok (.iconst 0, 1) := by decide +kernel
theorem dX8_turn_2 : decode cX8_turn 2 = .ok (.putfield 117, 3) := by decide +kernel
theorem dX8_turn_5 : decode cX8_turn 5 = .ok (.iload_n 1, 1) := by decide +kernel
theorem dX8_turn_6 : decode cX8_turn 6 = .ok (.iconst 0, 1) := by decide +kernel
theorem dX8_turn_7 : decode cX8_turn 7 = .ok (.aload_n 0, 1) := by decide +kernel
theorem dX8_turn_8 : decode cX8_turn 8 = .ok (.getfield 25, 3) := by decide +kernel
theorem dX8_turn_11 : decode cX8_turn 11 = .ok (.iconst 0, 1) := by decide +kernel
theorem dX8_turn_12 : decode cX8_turn 12 = .ok (.iaload, 1) := by decide +kernel
theorem dX8_turn_13 : decode cX8_turn 13 = .ok (.iconst 1, 1) := by decide +kernel
theorem dX8_turn_14 : decode cX8_turn 14 = .ok (.isub, 1) := by decide +kernel
theorem dX8_turn_15 : decode cX8_turn 15 = .ok (.invokestatic 120, 3) := by decide +kernel
theorem dX8_turn_18 : decode cX8_turn 18 = .ok (.ifCond .eq 12, 3) := by decide +kernel
theorem dX8_turn_21 : decode cX8_turn 21 = .ok (.aload_n 0, 1) := by decide +kernel
theorem dX8_turn_22 : decode cX8_turn 22 = .ok (.getfield 37, 3) := by decide +kernel
theorem dX8_turn_25 : decode cX8_turn 25 = .ok (.iload_n 1, 1) := by decide +kernel
theorem dX8_turn_26 : decode cX8_turn 26 = .ok (.iaload, 1) := by decide +kernel
theorem dX8_turn_27 : decode cX8_turn 27 = .ok (.goto 8, 3) := by decide +kernel
theorem dX8_turn_30 : decode cX8_turn 30 = .ok (.aload_n 0, 1) := by decide +kernel
theorem dX8_turn_31 : decode cX8_turn 31 = .ok (.iconst 1, 1) := by decide +kernel
theorem dX8_turn_32 : decode cX8_turn 32 = .ok (.invokevirtual 232, 3) := by decide +kernel
theorem dX8_turn_35 : decode cX8_turn 35 = .ok (.ireturn, 1) := by decide +kernel
theorem dX8_placeOf_0 : decode cX8_placeOf 0 = .ok (.iconst 0, 1) := by decide +kernel
theorem dX8_placeOf_1 : decode cX8_placeOf 1 = .ok (.istore 4, 2) := by decide +kernel
theorem dX8_placeOf_3 : decode cX8_placeOf 3 = .ok (.iconst 0, 1) := by decide +kernel
theorem dX8_placeOf_4 : decode cX8_placeOf 4 = .ok (.istore 5, 2) := by decide +kernel
theorem dX8_placeOf_6 : decode cX8_placeOf 6 = .ok (.iload 5, 2) := by decide +kernel
theorem dX8_placeOf_8 : decode cX8_placeOf 8 = .ok (.iload_n 3, 1) := by decide +kernel
theorem dX8_placeOf_9 : decode cX8_placeOf 9 = .ok (.if_icmp .ge 45, 3) := by decide +kernel
theorem dX8_placeOf_12 : decode cX8_placeOf 12 = .ok (.iload 4, 2) := by decide +kernel
theorem dX8_placeOf_14 : decode cX8_placeOf 14 = .ok (.aload_n 0, 1) := by decide +kernel
theorem dX8_placeOf_15 : decode cX8_placeOf 15 = .ok (.getfield 31, 3) := by decide +kernel
theorem dX8_placeOf_18 : decode cX8_placeOf 18 = .ok (.iload_n 1, 1) := by decide +kernel
theorem dX8_placeOf_19 : decode cX8_placeOf 19 = .ok (.bipush 10, 2) := by decide +kernel
theorem dX8_placeOf_21 : decode cX8_placeOf 21 = .ok (.imul, 1) := by decide +kernel
theorem dX8_placeOf_22 : decode cX8_placeOf 22 = .ok (.iload 5, 2) := by decide +kernel
theorem dX8_placeOf_24 : decode cX8_placeOf 24 = .ok (.iadd, 1) := by decide +kernel
theorem dX8_placeOf_25 : decode cX8_placeOf 25 = .ok (.iaload, 1) := by decide +kernel
theorem dX8_placeOf_26 : decode cX8_placeOf 26 = .ok (.aload_n 0, 1) := by decide +kernel
theorem dX8_placeOf_27 : decode cX8_placeOf 27 = .ok (.getfield 31, 3) := by decide +kernel
theorem dX8_placeOf_30 : decode cX8_placeOf 30 = .ok (.iload_n 1, 1) := by decide +kernel
theorem dX8_placeOf_31 : decode cX8_placeOf 31 = .ok (.bipush 10, 2) := by decide +kernel
theorem dX8_placeOf_33 : decode cX8_placeOf 33 = .ok (.imul, 1) := by decide +kernel
theorem dX8_placeOf_34 : decode cX8_placeOf 34 = .ok (.iload_n 2, 1) := by decide +kernel
theorem dX8_placeOf_35 : decode cX8_placeOf 35 = .ok (.iadd, 1) := by decide +kernel
theorem dX8_placeOf_36 : decode cX8_placeOf 36 = .ok (.iaload, 1) := by decide +kernel
theorem dX8_placeOf_37 : decode cX8_placeOf 37 = .ok (.if_icmp .ge 7, 3) := by decide +kernel
theorem dX8_placeOf_40 : decode cX8_placeOf 40 = .ok (.iconst 1, 1) := by decide +kernel
theorem dX8_placeOf_41 : decode cX8_placeOf 41 = .ok (.goto 4, 3) := by decide +kernel
theorem dX8_placeOf_44 : decode cX8_placeOf 44 = .ok (.iconst 0, 1) := by decide +kernel
theorem dX8_placeOf_45 : decode cX8_placeOf 45 = .ok (.iadd, 1) := by decide +kernel
theorem dX8_placeOf_46 : decode cX8_placeOf 46 = .ok (.istore 4, 2) := by decide +kernel
theorem dX8_placeOf_48 : decode cX8_placeOf 48 = .ok (.iinc 5 1, 3) := by decide +kernel
theorem dX8_placeOf_51 : decode cX8_placeOf 51 = .ok (.goto (-45), 3) := by decide +kernel
theorem dX8_placeOf_54 : decode cX8_placeOf 54 = .ok (.iload 4, 2) := by decide +kernel
theorem dX8_placeOf_56 : decode cX8_placeOf 56 = .ok (.ireturn, 1) := by decide +kernel
theorem dX8_look_0 : decode cX8_look 0 = .ok (.aload_n 0, 1) := by decide +kernel
theorem dX8_look_1 : decode cX8_look 1 = .ok (.aload_n 0, 1) := by decide +kernel
theorem dX8_look_2 : decode cX8_look 2 = .ok (.getfield 7, 3) := by decide +kernel
theorem dX8_look_5 : decode cX8_look 5 = .ok (.iconst 0, 1) := by decide +kernel
theorem dX8_look_6 : decode cX8_look 6 = .ok (.iaload, 1) := by decide +kernel
theorem dX8_look_7 : decode cX8_look 7 = .ok (.putfield 251, 3) := by decide +kernel
theorem dX8_look_10 : decode cX8_look 10 = .ok (.iconst 0, 1) := by decide +kernel
theorem dX8_look_11 : decode cX8_look 11 = .ok (.istore_n 1, 1) := by decide +kernel
theorem dX8_look_12 : decode cX8_look 12 = .ok (.iload_n 1, 1) := by decide +kernel
theorem dX8_look_13 : decode cX8_look 13 = .ok (.aload_n 0, 1) := by decide +kernel
theorem dX8_look_14 : decode cX8_look 14 = .ok (.getfield 13, 3) := by decide +kernel
theorem dX8_look_17 : decode cX8_look 17 = .ok (.iconst 0, 1) := by decide +kernel
theorem dX8_look_18 : decode cX8_look 18 = .ok (.iaload, 1) := by decide +kernel
theorem dX8_look_19 : decode cX8_look 19 = .ok (.if_icmp .ge 46, 3) := by decide +kernel
theorem dX8_look_22 : decode cX8_look 22 = .ok (.iconst 0, 1) := by decide +kernel
theorem dX8_look_23 : decode cX8_look 23 = .ok (.istore_n 2, 1) := by decide +kernel
theorem dX8_look_24 : decode cX8_look 24 = .ok (.iload_n 2, 1) := by decide +kernel
theorem dX8_look_25 : decode cX8_look 25 = .ok (.aload_n 0, 1) := by decide +kernel
theorem dX8_look_26 : decode cX8_look 26 = .ok (.getfield 251, 3) := by decide +kernel
theorem dX8_look_29 : decode cX8_look 29 = .ok (.if_icmp .ge 30, 3) := by decide +kernel
theorem dX8_look_32 : decode cX8_look 32 = .ok (.aload_n 0, 1) := by decide +kernel
theorem dX8_look_33 : decode cX8_look 33 = .ok (.getfield 51, 3) := by decide +kernel
theorem dX8_look_36 : decode cX8_look 36 = .ok (.iload_n 1, 1) := by decide +kernel
theorem dX8_look_37 : decode cX8_look 37 = .ok (.bipush 10, 2) := by decide +kernel
theorem dX8_look_39 : decode cX8_look 39 = .ok (.imul, 1) := by decide +kernel
theorem dX8_look_40 : decode cX8_look 40 = .ok (.iload_n 2, 1) := by decide +kernel
theorem dX8_look_41 : decode cX8_look 41 = .ok (.iadd, 1) := by decide +kernel
theorem dX8_look_42 : decode cX8_look 42 = .ok (.aload_n 0, 1) := by decide +kernel
theorem dX8_look_43 : decode cX8_look 43 = .ok (.iload_n 1, 1) := by decide +kernel
theorem dX8_look_44 : decode cX8_look 44 = .ok (.iload_n 2, 1) := by decide +kernel
theorem dX8_look_45 : decode cX8_look 45 = .ok (.aload_n 0, 1) := by decide +kernel
theorem dX8_look_46 : decode cX8_look 46 = .ok (.getfield 251, 3) := by decide +kernel
theorem dX8_look_49 : decode cX8_look 49 = .ok (.invokevirtual 254, 3) := by decide +kernel
theorem dX8_look_52 : decode cX8_look 52 = .ok (.iastore, 1) := by decide +kernel
theorem dX8_look_53 : decode cX8_look 53 = .ok (.iinc 2 1, 3) := by decide +kernel
theorem dX8_look_56 : decode cX8_look 56 = .ok (.goto (-32), 3) := by decide +kernel
theorem dX8_look_59 : decode cX8_look 59 = .ok (.iinc 1 1, 3) := by decide +kernel
theorem dX8_look_62 : decode cX8_look 62 = .ok (.goto (-50), 3) := by decide +kernel
theorem dX8_look_65 : decode cX8_look 65 = .ok (.return_, 1) := by decide +kernel
theorem dX8_lookWith_0 : decode cX8_lookWith 0 = .ok (.aload_n 0, 1) := by decide +kernel
theorem dX8_lookWith_1 : decode cX8_lookWith 1 = .ok (.invokevirtual 258, 3) := by decide +kernel
theorem dX8_lookWith_4 : decode cX8_lookWith 4 = .ok (.aload_n 0, 1) := by decide +kernel
theorem dX8_lookWith_5 : decode cX8_lookWith 5 = .ok (.getfield 7, 3) := by decide +kernel
theorem dX8_lookWith_8 : decode cX8_lookWith 8 = .ok (.iconst 0, 1) := by decide +kernel
theorem dX8_lookWith_9 : decode cX8_lookWith 9 = .ok (.iaload, 1) := by decide +kernel
theorem dX8_lookWith_10 : decode cX8_lookWith 10 = .ok (.istore_n 2, 1) := by decide +kernel
theorem dX8_lookWith_11 : decode cX8_lookWith 11 = .ok (.iconst 0, 1) := by decide +kernel
theorem dX8_lookWith_12 : decode cX8_lookWith 12 = .ok (.istore_n 3, 1) := by decide +kernel
theorem dX8_lookWith_13 : decode cX8_lookWith 13 = .ok (.iload_n 3, 1) := by decide +kernel
theorem dX8_lookWith_14 : decode cX8_lookWith 14 = .ok (.aload_n 0, 1) := by decide +kernel
theorem dX8_lookWith_15 : decode cX8_lookWith 15 = .ok (.getfield 13, 3) := by decide +kernel
theorem dX8_lookWith_18 : decode cX8_lookWith 18 = .ok (.iconst 0, 1) := by decide +kernel
theorem dX8_lookWith_19 : decode cX8_lookWith 19 = .ok (.iaload, 1) := by decide +kernel
theorem dX8_lookWith_20 : decode cX8_lookWith 20 = .ok (.if_icmp .ge 131, 3) := by decide +kernel
theorem dX8_lookWith_23 : decode cX8_lookWith 23 = .ok (.iload_n 3, 1) := by decide +kernel
theorem dX8_lookWith_24 : decode cX8_lookWith 24 = .ok (.bipush 10, 2) := by decide +kernel
theorem dX8_lookWith_26 : decode cX8_lookWith 26 = .ok (.imul, 1) := by decide +kernel
theorem dX8_lookWith_27 : decode cX8_lookWith 27 = .ok (.istore 4, 2) := by decide +kernel
theorem dX8_lookWith_29 : decode cX8_lookWith 29 = .ok (.iconst 0, 1) := by decide +kernel
theorem dX8_lookWith_30 : decode cX8_lookWith 30 = .ok (.istore 5, 2) := by decide +kernel
theorem dX8_lookWith_32 : decode cX8_lookWith 32 = .ok (.iconst 0, 1) := by decide +kernel
theorem dX8_lookWith_33 : decode cX8_lookWith 33 = .ok (.istore 6, 2) := by decide +kernel
theorem dX8_lookWith_35 : decode cX8_lookWith 35 = .ok (.iload 6, 2) := by decide +kernel
theorem dX8_lookWith_37 : decode cX8_lookWith 37 = .ok (.iload_n 2, 1) := by decide +kernel
theorem dX8_lookWith_38 : decode cX8_lookWith 38 = .ok (.if_icmp .ge 41, 3) := by decide +kernel
theorem dX8_lookWith_41 : decode cX8_lookWith 41 = .ok (.iload 5, 2) := by decide +kernel
theorem dX8_lookWith_43 : decode cX8_lookWith 43 = .ok (.aload_n 0, 1) := by decide +kernel
theorem dX8_lookWith_44 : decode cX8_lookWith 44 = .ok (.getfield 31, 3) := by decide +kernel
theorem dX8_lookWith_47 : decode cX8_lookWith 47 = .ok (.iload 4, 2) := by decide +kernel
theorem dX8_lookWith_49 : decode cX8_lookWith 49 = .ok (.iload 6, 2) := by decide +kernel
theorem dX8_lookWith_51 : decode cX8_lookWith 51 = .ok (.iadd, 1) := by decide +kernel
theorem dX8_lookWith_52 : decode cX8_lookWith 52 = .ok (.iaload, 1) := by decide +kernel
theorem dX8_lookWith_53 : decode cX8_lookWith 53 = .ok (.aload_n 0, 1) := by decide +kernel
theorem dX8_lookWith_54 : decode cX8_lookWith 54 = .ok (.getfield 31, 3) := by decide +kernel
theorem dX8_lookWith_57 : decode cX8_lookWith 57 = .ok (.iload 4, 2) := by decide +kernel
theorem dX8_lookWith_59 : decode cX8_lookWith 59 = .ok (.iload_n 1, 1) := by decide +kernel
theorem dX8_lookWith_60 : decode cX8_lookWith 60 = .ok (.iadd, 1) := by decide +kernel
theorem dX8_lookWith_61 : decode cX8_lookWith 61 = .ok (.iaload, 1) := by decide +kernel
theorem dX8_lookWith_62 : decode cX8_lookWith 62 = .ok (.if_icmp .gt 7, 3) := by decide +kernel
theorem dX8_lookWith_65 : decode cX8_lookWith 65 = .ok (.iconst 1, 1) := by decide +kernel
theorem dX8_lookWith_66 : decode cX8_lookWith 66 = .ok (.goto 4, 3) := by decide +kernel
theorem dX8_lookWith_69 : decode cX8_lookWith 69 = .ok (.iconst 0, 1) := by decide +kernel
theorem dX8_lookWith_70 : decode cX8_lookWith 70 = .ok (.iadd, 1) := by decide +kernel
theorem dX8_lookWith_71 : decode cX8_lookWith 71 = .ok (.istore 5, 2) := by decide +kernel
theorem dX8_lookWith_73 : decode cX8_lookWith 73 = .ok (.iinc 6 1, 3) := by decide +kernel
theorem dX8_lookWith_76 : decode cX8_lookWith 76 = .ok (.goto (-41), 3) := by decide +kernel
theorem dX8_lookWith_79 : decode cX8_lookWith 79 = .ok (.iconst 0, 1) := by decide +kernel
theorem dX8_lookWith_80 : decode cX8_lookWith 80 = .ok (.istore 6, 2) := by decide +kernel
theorem dX8_lookWith_82 : decode cX8_lookWith 82 = .ok (.iload 6, 2) := by decide +kernel
theorem dX8_lookWith_84 : decode cX8_lookWith 84 = .ok (.iload_n 2, 1) := by decide +kernel
theorem dX8_lookWith_85 : decode cX8_lookWith 85 = .ok (.if_icmp .ge 49, 3) := by decide +kernel
theorem dX8_lookWith_88 : decode cX8_lookWith 88 = .ok (.aload_n 0, 1) := by decide +kernel
theorem dX8_lookWith_89 : decode cX8_lookWith 89 = .ok (.getfield 51, 3) := by decide +kernel
theorem dX8_lookWith_92 : decode cX8_lookWith 92 = .ok (.iload 4, 2) := by decide +kernel
theorem dX8_lookWith_94 : decode cX8_lookWith 94 = .ok (.iload 6, 2) := by decide +kernel
theorem dX8_lookWith_96 : decode cX8_lookWith 96 = .ok (.iadd, 1) := by decide +kernel
theorem dX8_lookWith_97 : decode cX8_lookWith 97 = .ok (.dup2, 1) := by decide +kernel
theorem dX8_lookWith_98 : decode cX8_lookWith 98 = .ok (.iaload, 1) := by decide +kernel
theorem dX8_lookWith_99 : decode cX8_lookWith 99 = .ok (.aload_n 0, 1) := by decide +kernel
theorem dX8_lookWith_100 : decode cX8_lookWith 100 = .ok (.getfield 31, 3) := by decide +kernel
theorem dX8_lookWith_103 : decode cX8_lookWith 103 = .ok (.iload 4, 2) := by decide +kernel
theorem dX8_lookWith_105 : decode cX8_lookWith 105 = .ok (.iload 6, 2) := by decide +kernel
theorem dX8_lookWith_107 : decode cX8_lookWith 107 = .ok (.iadd, 1) := by decide +kernel
theorem dX8_lookWith_108 : decode cX8_lookWith 108 = .ok (.iaload, 1) := by decide +kernel
theorem dX8_lookWith_109 : decode cX8_lookWith 109 = .ok (.aload_n 0, 1) := by decide +kernel
theorem dX8_lookWith_110 : decode cX8_lookWith 110 = .ok (.getfield 31, 3) := by decide +kernel
theorem dX8_lookWith_113 : decode cX8_lookWith 113 = .ok (.iload 4, 2) := by decide +kernel
theorem dX8_lookWith_115 : decode cX8_lookWith 115 = .ok (.iload_n 1, 1) := by decide +kernel
theorem dX8_lookWith_116 : decode cX8_lookWith 116 = .ok (.iadd, 1) := by decide +kernel
theorem dX8_lookWith_117 : decode cX8_lookWith 117 = .ok (.iaload, 1) := by decide +kernel
theorem dX8_lookWith_118 : decode cX8_lookWith 118 = .ok (.if_icmp .le 7, 3) := by decide +kernel
theorem dX8_lookWith_121 : decode cX8_lookWith 121 = .ok (.iconst 1, 1) := by decide +kernel
theorem dX8_lookWith_122 : decode cX8_lookWith 122 = .ok (.goto 4, 3) := by decide +kernel
theorem dX8_lookWith_125 : decode cX8_lookWith 125 = .ok (.iconst 0, 1) := by decide +kernel
theorem dX8_lookWith_126 : decode cX8_lookWith 126 = .ok (.iadd, 1) := by decide +kernel
theorem dX8_lookWith_127 : decode cX8_lookWith 127 = .ok (.iastore, 1) := by decide +kernel
theorem dX8_lookWith_128 : decode cX8_lookWith 128 = .ok (.iinc 6 1, 3) := by decide +kernel
theorem dX8_lookWith_131 : decode cX8_lookWith 131 = .ok (.goto (-49), 3) := by decide +kernel
theorem dX8_lookWith_134 : decode cX8_lookWith 134 = .ok (.aload_n 0, 1) := by decide +kernel
theorem dX8_lookWith_135 : decode cX8_lookWith 135 = .ok (.getfield 51, 3) := by decide +kernel
theorem dX8_lookWith_138 : decode cX8_lookWith 138 = .ok (.iload 4, 2) := by decide +kernel
theorem dX8_lookWith_140 : decode cX8_lookWith 140 = .ok (.iload_n 2, 1) := by decide +kernel
theorem dX8_lookWith_141 : decode cX8_lookWith 141 = .ok (.iadd, 1) := by decide +kernel
theorem dX8_lookWith_142 : decode cX8_lookWith 142 = .ok (.iload 5, 2) := by decide +kernel
theorem dX8_lookWith_144 : decode cX8_lookWith 144 = .ok (.iastore, 1) := by decide +kernel
theorem dX8_lookWith_145 : decode cX8_lookWith 145 = .ok (.iinc 3 1, 3) := by decide +kernel
theorem dX8_lookWith_148 : decode cX8_lookWith 148 = .ok (.goto (-135), 3) := by decide +kernel
theorem dX8_lookWith_151 : decode cX8_lookWith 151 = .ok (.aload_n 0, 1) := by decide +kernel
theorem dX8_lookWith_152 : decode cX8_lookWith 152 = .ok (.iload_n 2, 1) := by decide +kernel
theorem dX8_lookWith_153 : decode cX8_lookWith 153 = .ok (.iconst 1, 1) := by decide +kernel
theorem dX8_lookWith_154 : decode cX8_lookWith 154 = .ok (.iadd, 1) := by decide +kernel
theorem dX8_lookWith_155 : decode cX8_lookWith 155 = .ok (.putfield 251, 3) := by decide +kernel
theorem dX8_lookWith_158 : decode cX8_lookWith 158 = .ok (.return_, 1) := by decide +kernel
theorem dX8_place_0 : decode cX8_place 0 = .ok (.aload_n 0, 1) := by decide +kernel
theorem dX8_place_1 : decode cX8_place 1 = .ok (.iconst 0, 1) := by decide +kernel
theorem dX8_place_2 : decode cX8_place 2 = .ok (.putfield 117, 3) := by decide +kernel
theorem dX8_place_5 : decode cX8_place 5 = .ok (.aload_n 0, 1) := by decide +kernel
theorem dX8_place_6 : decode cX8_place 6 = .ok (.iload_n 1, 1) := by decide +kernel
theorem dX8_place_7 : decode cX8_place 7 = .ok (.invokevirtual 261, 3) := by decide +kernel
theorem dX8_place_10 : decode cX8_place 10 = .ok (.ifCond .eq 11, 3) := by decide +kernel
theorem dX8_place_13 : decode cX8_place 13 = .ok (.aload_n 0, 1) := by decide +kernel
theorem dX8_place_14 : decode cX8_place 14 = .ok (.iload_n 2, 1) := by decide +kernel
theorem dX8_place_15 : decode cX8_place 15 = .ok (.invokevirtual 264, 3) := by decide +kernel
theorem dX8_place_18 : decode cX8_place 18 = .ok (.ifCond .ne 9, 3) := by decide +kernel
theorem dX8_place_21 : decode cX8_place 21 = .ok (.aload_n 0, 1) := by decide +kernel
theorem dX8_place_22 : decode cX8_place 22 = .ok (.iconst 1, 1) := by decide +kernel
theorem dX8_place_23 : decode cX8_place 23 = .ok (.invokevirtual 232, 3) := by decide +kernel
theorem dX8_place_26 : decode cX8_place 26 = .ok (.ireturn, 1) := by decide +kernel
theorem dX8_place_27 : decode cX8_place 27 = .ok (.aload_n 0, 1) := by decide +kernel
theorem dX8_place_28 : decode cX8_place 28 = .ok (.iload_n 1, 1) := by decide +kernel
theorem dX8_place_29 : decode cX8_place 29 = .ok (.iload_n 2, 1) := by decide +kernel
theorem dX8_place_30 : decode cX8_place 30 = .ok (.aload_n 0, 1) := by decide +kernel
theorem dX8_place_31 : decode cX8_place 31 = .ok (.getfield 7, 3) := by decide +kernel
theorem dX8_place_34 : decode cX8_place 34 = .ok (.iconst 0, 1) := by decide +kernel
theorem dX8_place_35 : decode cX8_place 35 = .ok (.iaload, 1) := by decide +kernel
theorem dX8_place_36 : decode cX8_place 36 = .ok (.invokevirtual 254, 3) := by decide +kernel
theorem dX8_place_39 : decode cX8_place 39 = .ok (.ireturn, 1) := by decide +kernel
theorem dX8_weightOf_0 : decode cX8_weightOf 0 = .ok (.iconst 0, 1) := by decide +kernel
theorem dX8_weightOf_1 : decode cX8_weightOf 1 = .ok (.istore_n 2, 1) := by decide +kernel
theorem dX8_weightOf_2 : decode cX8_weightOf 2 = .ok (.iconst 0, 1) := by decide +kernel
theorem dX8_weightOf_3 : decode cX8_weightOf 3 = .ok (.istore_n 3, 1) := by decide +kernel
theorem dX8_weightOf_4 : decode cX8_weightOf 4 = .ok (.iload_n 3, 1) := by decide +kernel
theorem dX8_weightOf_5 : decode cX8_weightOf 5 = .ok (.aload_n 0, 1) := by decide +kernel
theorem dX8_weightOf_6 : decode cX8_weightOf 6 = .ok (.getfield 13, 3) := by decide +kernel
theorem dX8_weightOf_9 : decode cX8_weightOf 9 = .ok (.iconst 0, 1) := by decide +kernel
theorem dX8_weightOf_10 : decode cX8_weightOf 10 = .ok (.iaload, 1) := by decide +kernel
theorem dX8_weightOf_11 : decode cX8_weightOf 11 = .ok (.if_icmp .ge 31, 3) := by decide +kernel
theorem dX8_weightOf_14 : decode cX8_weightOf 14 = .ok (.iload_n 2, 1) := by decide +kernel
theorem dX8_weightOf_15 : decode cX8_weightOf 15 = .ok (.iload_n 1, 1) := by decide +kernel
theorem dX8_weightOf_16 : decode cX8_weightOf 16 = .ok (.iload_n 3, 1) := by decide +kernel
theorem dX8_weightOf_17 : decode cX8_weightOf 17 = .ok (.ishr, 1) := by decide +kernel
theorem dX8_weightOf_18 : decode cX8_weightOf 18 = .ok (.iconst 1, 1) := by decide +kernel
theorem dX8_weightOf_19 : decode cX8_weightOf 19 = .ok (.iand, 1) := by decide +kernel
theorem dX8_weightOf_20 : decode cX8_weightOf 20 = .ok (.iconst 1, 1) := by decide +kernel
theorem dX8_weightOf_21 : decode cX8_weightOf 21 = .ok (.if_icmp .ne 12, 3) := by decide +kernel
theorem dX8_weightOf_24 : decode cX8_weightOf 24 = .ok (.aload_n 0, 1) := by decide +kernel
theorem dX8_weightOf_25 : decode cX8_weightOf 25 = .ok (.getfield 28, 3) := by decide +kernel
theorem dX8_weightOf_28 : decode cX8_weightOf 28 = .ok (.iload_n 3, 1) := by decide +kernel
theorem dX8_weightOf_29 : decode cX8_weightOf 29 = .ok (.iaload, 1) := by decide +kernel
theorem dX8_weightOf_30 : decode cX8_weightOf 30 = .ok (.goto 4, 3) := by decide +kernel
theorem dX8_weightOf_33 : decode cX8_weightOf 33 = .ok (.iconst 0, 1) := by decide +kernel
theorem dX8_weightOf_34 : decode cX8_weightOf 34 = .ok (.iadd, 1) := by decide +kernel
theorem dX8_weightOf_35 : decode cX8_weightOf 35 = .ok (.istore_n 2, 1) := by decide +kernel
theorem dX8_weightOf_36 : decode cX8_weightOf 36 = .ok (.iinc 3 1, 3) := by decide +kernel
theorem dX8_weightOf_39 : decode cX8_weightOf 39 = .ok (.goto (-35), 3) := by decide +kernel
theorem dX8_weightOf_42 : decode cX8_weightOf 42 = .ok (.iload_n 2, 1) := by decide +kernel
theorem dX8_weightOf_43 : decode cX8_weightOf 43 = .ok (.ireturn, 1) := by decide +kernel
theorem dX8_sizeOf_0 : decode cX8_sizeOf 0 = .ok (.iconst 0, 1) := by decide +kernel
theorem dX8_sizeOf_1 : decode cX8_sizeOf 1 = .ok (.istore_n 1, 1) := by decide +kernel
theorem dX8_sizeOf_2 : decode cX8_sizeOf 2 = .ok (.iconst 0, 1) := by decide +kernel
theorem dX8_sizeOf_3 : decode cX8_sizeOf 3 = .ok (.istore_n 2, 1) := by decide +kernel
theorem dX8_sizeOf_4 : decode cX8_sizeOf 4 = .ok (.iload_n 2, 1) := by decide +kernel
theorem dX8_sizeOf_5 : decode cX8_sizeOf 5 = .ok (.bipush 12, 2) := by decide +kernel
theorem dX8_sizeOf_7 : decode cX8_sizeOf 7 = .ok (.if_icmp .ge 17, 3) := by decide +kernel
theorem dX8_sizeOf_10 : decode cX8_sizeOf 10 = .ok (.iload_n 1, 1) := by decide +kernel
theorem dX8_sizeOf_11 : decode cX8_sizeOf 11 = .ok (.iload_n 0, 1) := by decide +kernel
theorem dX8_sizeOf_12 : decode cX8_sizeOf 12 = .ok (.iload_n 2, 1) := by decide +kernel
theorem dX8_sizeOf_13 : decode cX8_sizeOf 13 = .ok (.ishr, 1) := by decide +kernel
theorem dX8_sizeOf_14 : decode cX8_sizeOf 14 = .ok (.iconst 1, 1) := by decide +kernel
theorem dX8_sizeOf_15 : decode cX8_sizeOf 15 = .ok (.iand, 1) := by decide +kernel
theorem dX8_sizeOf_16 : decode cX8_sizeOf 16 = .ok (.iadd, 1) := by decide +kernel
theorem dX8_sizeOf_17 : decode cX8_sizeOf 17 = .ok (.istore_n 1, 1) := by decide +kernel
theorem dX8_sizeOf_18 : decode cX8_sizeOf 18 = .ok (.iinc 2 1, 3) := by decide +kernel
theorem dX8_sizeOf_21 : decode cX8_sizeOf 21 = .ok (.goto (-17), 3) := by decide +kernel
theorem dX8_sizeOf_24 : decode cX8_sizeOf 24 = .ok (.iload_n 1, 1) := by decide +kernel
theorem dX8_sizeOf_25 : decode cX8_sizeOf 25 = .ok (.ireturn, 1) := by decide +kernel
theorem dX8_mayOf_0 : decode cX8_mayOf 0 = .ok (.iload_n 1, 1) := by decide +kernel
theorem dX8_mayOf_1 : decode cX8_mayOf 1 = .ok (.ifCond .ne 5, 3) := by decide +kernel
theorem dX8_mayOf_4 : decode cX8_mayOf 4 = .ok (.iconst 0, 1) := by decide +kernel
theorem dX8_mayOf_5 : decode cX8_mayOf 5 = .ok (.ireturn, 1) := by decide +kernel
theorem dX8_mayOf_6 : decode cX8_mayOf 6 = .ok (.aload_n 0, 1) := by decide +kernel
theorem dX8_mayOf_7 : decode cX8_mayOf 7 = .ok (.getfield 16, 3) := by decide +kernel
theorem dX8_mayOf_10 : decode cX8_mayOf 10 = .ok (.iconst 0, 1) := by decide +kernel
theorem dX8_mayOf_11 : decode cX8_mayOf 11 = .ok (.iaload, 1) := by decide +kernel
theorem dX8_mayOf_12 : decode cX8_mayOf 12 = .ok (.ifCond .ne 32, 3) := by decide +kernel
theorem dX8_mayOf_15 : decode cX8_mayOf 15 = .ok (.aload_n 0, 1) := by decide +kernel
theorem dX8_mayOf_16 : decode cX8_mayOf 16 = .ok (.iload_n 2, 1) := by decide +kernel
theorem dX8_mayOf_17 : decode cX8_mayOf 17 = .ok (.invokevirtual 248, 3) := by decide +kernel
theorem dX8_mayOf_20 : decode cX8_mayOf 20 = .ok (.istore 5, 2) := by decide +kernel
theorem dX8_mayOf_22 : decode cX8_mayOf 22 = .ok (.iload_n 3, 1) := by decide +kernel
theorem dX8_mayOf_23 : decode cX8_mayOf 23 = .ok (.aload_n 0, 1) := by decide +kernel
theorem dX8_mayOf_24 : decode cX8_mayOf 24 = .ok (.iload_n 1, 1) := by decide +kernel
theorem dX8_mayOf_25 : decode cX8_mayOf 25 = .ok (.invokevirtual 248, 3) := by decide +kernel
theorem dX8_mayOf_28 : decode cX8_mayOf 28 = .ok (.imul, 1) := by decide +kernel
theorem dX8_mayOf_29 : decode cX8_mayOf 29 = .ok (.iload 5, 2) := by decide +kernel
theorem dX8_mayOf_31 : decode cX8_mayOf 31 = .ok (.iadd, 1) := by decide +kernel
theorem dX8_mayOf_32 : decode cX8_mayOf 32 = .ok (.iconst 1, 1) := by decide +kernel
theorem dX8_mayOf_33 : decode cX8_mayOf 33 = .ok (.isub, 1) := by decide +kernel
theorem dX8_mayOf_34 : decode cX8_mayOf 34 = .ok (.iload 5, 2) := by decide +kernel
theorem dX8_mayOf_36 : decode cX8_mayOf 36 = .ok (.idiv, 1) := by decide +kernel
theorem dX8_mayOf_37 : decode cX8_mayOf 37 = .ok (.iconst 1, 1) := by decide +kernel
theorem dX8_mayOf_38 : decode cX8_mayOf 38 = .ok (.isub, 1) := by decide +kernel
theorem dX8_mayOf_39 : decode cX8_mayOf 39 = .ok (.istore 4, 2) := by decide +kernel
theorem dX8_mayOf_41 : decode cX8_mayOf 41 = .ok (.goto 52, 3) := by decide +kernel
theorem dX8_mayOf_44 : decode cX8_mayOf 44 = .ok (.aload_n 0, 1) := by decide +kernel
theorem dX8_mayOf_45 : decode cX8_mayOf 45 = .ok (.getfield 16, 3) := by decide +kernel
theorem dX8_mayOf_48 : decode cX8_mayOf 48 = .ok (.iconst 0, 1) := by decide +kernel
theorem dX8_mayOf_49 : decode cX8_mayOf 49 = .ok (.iaload, 1) := by decide +kernel
theorem dX8_mayOf_50 : decode cX8_mayOf 50 = .ok (.iconst 1, 1) := by decide +kernel
theorem dX8_mayOf_51 : decode cX8_mayOf 51 = .ok (.if_icmp .ne 20, 3) := by decide +kernel
theorem dX8_mayOf_54 : decode cX8_mayOf 54 = .ok (.aload_n 0, 1) := by decide +kernel
theorem dX8_mayOf_55 : decode cX8_mayOf 55 = .ok (.iload_n 1, 1) := by decide +kernel
theorem dX8_mayOf_56 : decode cX8_mayOf 56 = .ok (.invokevirtual 248, 3) := by decide +kernel
theorem dX8_mayOf_59 : decode cX8_mayOf 59 = .ok (.aload_n 0, 1) := by decide +kernel
theorem dX8_mayOf_60 : decode cX8_mayOf 60 = .ok (.getfield 19, 3) := by decide +kernel
theorem dX8_mayOf_63 : decode cX8_mayOf 63 = .ok (.iconst 0, 1) := by decide +kernel
theorem dX8_mayOf_64 : decode cX8_mayOf 64 = .ok (.iaload, 1) := by decide +kernel
theorem dX8_mayOf_65 : decode cX8_mayOf 65 = .ok (.idiv, 1) := by decide +kernel
theorem dX8_mayOf_66 : decode cX8_mayOf 66 = .ok (.istore 4, 2) := by decide +kernel
theorem dX8_mayOf_68 : decode cX8_mayOf 68 = .ok (.goto 25, 3) := by decide +kernel
theorem dX8_mayOf_71 : decode cX8_mayOf 71 = .ok (.aload_n 0, 1) := by decide +kernel
theorem dX8_mayOf_72 : decode cX8_mayOf 72 = .ok (.getfield 34, 3) := by decide +kernel
theorem dX8_mayOf_75 : decode cX8_mayOf 75 = .ok (.iload_n 1, 1) := by decide +kernel
theorem dX8_mayOf_76 : decode cX8_mayOf 76 = .ok (.invokestatic 267, 3) := by decide +kernel
theorem dX8_mayOf_79 : decode cX8_mayOf 79 = .ok (.aload_n 0, 1) := by decide +kernel
theorem dX8_mayOf_80 : decode cX8_mayOf 80 = .ok (.getfield 22, 3) := by decide +kernel
theorem dX8_mayOf_83 : decode cX8_mayOf 83 = .ok (.iconst 0, 1) := by decide +kernel
theorem dX8_mayOf_84 : decode cX8_mayOf 84 = .ok (.iaload, 1) := by decide +kernel
theorem dX8_mayOf_85 : decode cX8_mayOf 85 = .ok (.invokestatic 153, 3) := by decide +kernel
theorem dX8_mayOf_88 : decode cX8_mayOf 88 = .ok (.iconst 1, 1) := by decide +kernel
theorem dX8_mayOf_89 : decode cX8_mayOf 89 = .ok (.isub, 1) := by decide +kernel
theorem dX8_mayOf_90 : decode cX8_mayOf 90 = .ok (.iaload, 1) := by decide +kernel
theorem dX8_mayOf_91 : decode cX8_mayOf 91 = .ok (.istore 4, 2) := by decide +kernel
theorem dX8_mayOf_93 : decode cX8_mayOf 93 = .ok (.iload_n 3, 1) := by decide +kernel
theorem dX8_mayOf_94 : decode cX8_mayOf 94 = .ok (.iconst 1, 1) := by decide +kernel
theorem dX8_mayOf_95 : decode cX8_mayOf 95 = .ok (.isub, 1) := by decide +kernel
theorem dX8_mayOf_96 : decode cX8_mayOf 96 = .ok (.iload 4, 2) := by decide +kernel
theorem dX8_mayOf_98 : decode cX8_mayOf 98 = .ok (.invokestatic 153, 3) := by decide +kernel
theorem dX8_mayOf_101 : decode cX8_mayOf 101 = .ok (.ireturn, 1) := by decide +kernel
theorem dX8_everybody_0 : decode cX8_everybody 0 = .ok (.iconst 1, 1) := by decide +kernel
theorem dX8_everybody_1 : decode cX8_everybody 1 = .ok (.aload_n 0, 1) := by decide +kernel
theorem dX8_everybody_2 : decode cX8_everybody 2 = .ok (.getfield 13, 3) := by decide +kernel
theorem dX8_everybody_5 : decode cX8_everybody 5 = .ok (.iconst 0, 1) := by decide +kernel
theorem dX8_everybody_6 : decode cX8_everybody 6 = .ok (.iaload, 1) := by decide +kernel
theorem dX8_everybody_7 : decode cX8_everybody 7 = .ok (.ishl, 1) := by decide +kernel
theorem dX8_everybody_8 : decode cX8_everybody 8 = .ok (.iconst 1, 1) := by decide +kernel
theorem dX8_everybody_9 : decode cX8_everybody 9 = .ok (.isub, 1) := by decide +kernel
theorem dX8_everybody_10 : decode cX8_everybody 10 = .ok (.ireturn, 1) := by decide +kernel
theorem dX8_may_0 : decode cX8_may 0 = .ok (.aload_n 0, 1) := by decide +kernel
theorem dX8_may_1 : decode cX8_may 1 = .ok (.iconst 0, 1) := by decide +kernel
theorem dX8_may_2 : decode cX8_may 2 = .ok (.putfield 117, 3) := by decide +kernel
theorem dX8_may_5 : decode cX8_may 5 = .ok (.aload_n 0, 1) := by decide +kernel
theorem dX8_may_6 : decode cX8_may 6 = .ok (.iload_n 1, 1) := by decide +kernel
theorem dX8_may_7 : decode cX8_may 7 = .ok (.aload_n 0, 1) := by decide +kernel
theorem dX8_may_8 : decode cX8_may 8 = .ok (.invokevirtual 270, 3) := by decide +kernel
theorem dX8_may_11 : decode cX8_may 11 = .ok (.iand, 1) := by decide +kernel
theorem dX8_may_12 : decode cX8_may 12 = .ok (.aload_n 0, 1) := by decide +kernel
theorem dX8_may_13 : decode cX8_may 13 = .ok (.invokevirtual 270, 3) := by decide +kernel
theorem dX8_may_16 : decode cX8_may 16 = .ok (.aload_n 0, 1) := by decide +kernel
theorem dX8_may_17 : decode cX8_may 17 = .ok (.getfield 7, 3) := by decide +kernel
theorem dX8_may_20 : decode cX8_may 20 = .ok (.iconst 0, 1) := by decide +kernel
theorem dX8_may_21 : decode cX8_may 21 = .ok (.iaload, 1) := by decide +kernel
theorem dX8_may_22 : decode cX8_may 22 = .ok (.invokevirtual 273, 3) := by decide +kernel
theorem dX8_may_25 : decode cX8_may 25 = .ok (.ireturn, 1) := by decide +kernel
theorem dX8_better_0 : decode cX8_better 0 = .ok (.iconst 0, 1) := by decide +kernel
theorem dX8_better_1 : decode cX8_better 1 = .ok (.istore_n 3, 1) := by decide +kernel
theorem dX8_better_2 : decode cX8_better 2 = .ok (.iconst 0, 1) := by decide +kernel
theorem dX8_better_3 : decode cX8_better 3 = .ok (.istore 4, 2) := by decide +kernel
theorem dX8_better_5 : decode cX8_better 5 = .ok (.iload 4, 2) := by decide +kernel
theorem dX8_better_7 : decode cX8_better 7 = .ok (.aload_n 0, 1) := by decide +kernel
theorem dX8_better_8 : decode cX8_better 8 = .ok (.getfield 251, 3) := by decide +kernel
theorem dX8_better_11 : decode cX8_better 11 = .ok (.if_icmp .ge 46, 3) := by decide +kernel
theorem dX8_better_14 : decode cX8_better 14 = .ok (.iload_n 3, 1) := by decide +kernel
theorem dX8_better_15 : decode cX8_better 15 = .ok (.aload_n 0, 1) := by decide +kernel
theorem dX8_better_16 : decode cX8_better 16 = .ok (.getfield 51, 3) := by decide +kernel
theorem dX8_better_19 : decode cX8_better 19 = .ok (.iload_n 1, 1) := by decide +kernel
theorem dX8_better_20 : decode cX8_better 20 = .ok (.bipush 10, 2) := by decide +kernel
theorem dX8_better_22 : decode cX8_better 22 = .ok (.imul, 1) := by decide +kernel
theorem dX8_better_23 : decode cX8_better 23 = .ok (.iload 4, 2) := by decide +kernel
theorem dX8_better_25 : decode cX8_better 25 = .ok (.iadd, 1) := by decide +kernel
theorem dX8_better_26 : decode cX8_better 26 = .ok (.iaload, 1) := by decide +kernel
theorem dX8_better_27 : decode cX8_better 27 = .ok (.aload_n 0, 1) := by decide +kernel
theorem dX8_better_28 : decode cX8_better 28 = .ok (.getfield 51, 3) := by decide +kernel
theorem dX8_better_31 : decode cX8_better 31 = .ok (.iload_n 1, 1) := by decide +kernel
theorem dX8_better_32 : decode cX8_better 32 = .ok (.bipush 10, 2) := by decide +kernel
theorem dX8_better_34 : decode cX8_better 34 = .ok (.imul, 1) := by decide +kernel
theorem dX8_better_35 : decode cX8_better 35 = .ok (.iload_n 2, 1) := by decide +kernel
theorem dX8_better_36 : decode cX8_better 36 = .ok (.iadd, 1) := by decide +kernel
theorem dX8_better_37 : decode cX8_better 37 = .ok (.iaload, 1) := by decide +kernel
theorem dX8_better_38 : decode cX8_better 38 = .ok (.if_icmp .ge 10, 3) := by decide +kernel
theorem dX8_better_41 : decode cX8_better 41 = .ok (.iconst 1, 1) := by decide +kernel
theorem dX8_better_42 : decode cX8_better 42 = .ok (.iload 4, 2) := by decide +kernel
theorem dX8_better_44 : decode cX8_better 44 = .ok (.ishl, 1) := by decide +kernel
theorem dX8_better_45 : decode cX8_better 45 = .ok (.goto 4, 3) := by decide +kernel
theorem dX8_better_48 : decode cX8_better 48 = .ok (.iconst 0, 1) := by decide +kernel
theorem dX8_better_49 : decode cX8_better 49 = .ok (.ior, 1) := by decide +kernel
theorem dX8_better_50 : decode cX8_better 50 = .ok (.istore_n 3, 1) := by decide +kernel
theorem dX8_better_51 : decode cX8_better 51 = .ok (.iinc 4 1, 3) := by decide +kernel
theorem dX8_better_54 : decode cX8_better 54 = .ok (.goto (-49), 3) := by decide +kernel
theorem dX8_better_57 : decode cX8_better 57 = .ok (.iload_n 3, 1) := by decide +kernel
theorem dX8_better_58 : decode cX8_better 58 = .ok (.ireturn, 1) := by decide +kernel
theorem dX8_keepOf_0 : decode cX8_keepOf 0 = .ok (.iconst 1, 1) := by decide +kernel
theorem dX8_keepOf_1 : decode cX8_keepOf 1 = .ok (.aload_n 0, 1) := by decide +kernel
theorem dX8_keepOf_2 : decode cX8_keepOf 2 = .ok (.getfield 251, 3) := by decide +kernel
theorem dX8_keepOf_5 : decode cX8_keepOf 5 = .ok (.ishl, 1) := by decide +kernel
theorem dX8_keepOf_6 : decode cX8_keepOf 6 = .ok (.iconst 1, 1) := by decide +kernel
theorem dX8_keepOf_7 : decode cX8_keepOf 7 = .ok (.isub, 1) := by decide +kernel
theorem dX8_keepOf_8 : decode cX8_keepOf 8 = .ok (.istore_n 3, 1) := by decide +kernel
theorem dX8_keepOf_9 : decode cX8_keepOf 9 = .ok (.iconst 0, 1) := by decide +kernel
theorem dX8_keepOf_10 : decode cX8_keepOf 10 = .ok (.istore 4, 2) := by decide +kernel
theorem dX8_keepOf_12 : decode cX8_keepOf 12 = .ok (.iload 4, 2) := by decide +kernel
theorem dX8_keepOf_14 : decode cX8_keepOf 14 = .ok (.aload_n 0, 1) := by decide +kernel
theorem dX8_keepOf_15 : decode cX8_keepOf 15 = .ok (.getfield 13, 3) := by decide +kernel
theorem dX8_keepOf_18 : decode cX8_keepOf 18 = .ok (.iconst 0, 1) := by decide +kernel
theorem dX8_keepOf_19 : decode cX8_keepOf 19 = .ok (.iaload, 1) := by decide +kernel
theorem dX8_keepOf_20 : decode cX8_keepOf 20 = .ok (.if_icmp .ge 29, 3) := by decide +kernel
theorem dX8_keepOf_23 : decode cX8_keepOf 23 = .ok (.iload_n 1, 1) := by decide +kernel
theorem dX8_keepOf_24 : decode cX8_keepOf 24 = .ok (.iload 4, 2) := by decide +kernel
theorem dX8_keepOf_26 : decode cX8_keepOf 26 = .ok (.ishr, 1) := by decide +kernel
theorem dX8_keepOf_27 : decode cX8_keepOf 27 = .ok (.iconst 1, 1) := by decide +kernel
theorem dX8_keepOf_28 : decode cX8_keepOf 28 = .ok (.iand, 1) := by decide +kernel
theorem dX8_keepOf_29 : decode cX8_keepOf 29 = .ok (.iconst 1, 1) := by decide +kernel
theorem dX8_keepOf_30 : decode cX8_keepOf 30 = .ok (.if_icmp .ne 13, 3) := by decide +kernel
theorem dX8_keepOf_33 : decode cX8_keepOf 33 = .ok (.iload_n 3, 1) := by decide +kernel
theorem dX8_keepOf_34 : decode cX8_keepOf 34 = .ok (.aload_n 0, 1) := by decide +kernel
theorem dX8_keepOf_35 : decode cX8_keepOf 35 = .ok (.iload 4, 2) := by decide +kernel
theorem dX8_keepOf_37 : decode cX8_keepOf 37 = .ok (.iload_n 2, 1) := by decide +kernel
theorem dX8_keepOf_38 : decode cX8_keepOf 38 = .ok (.invokevirtual 276, 3) := by decide +kernel
theorem dX8_keepOf_41 : decode cX8_keepOf 41 = .ok (.iand, 1) := by decide +kernel
theorem dX8_keepOf_42 : decode cX8_keepOf 42 = .ok (.istore_n 3, 1) := by decide +kernel
theorem dX8_keepOf_43 : decode cX8_keepOf 43 = .ok (.iinc 4 1, 3) := by decide +kernel
theorem dX8_keepOf_46 : decode cX8_keepOf 46 = .ok (.goto (-34), 3) := by decide +kernel
theorem dX8_keepOf_49 : decode cX8_keepOf 49 = .ok (.iload_n 3, 1) := by decide +kernel
theorem dX8_keepOf_50 : decode cX8_keepOf 50 = .ok (.ireturn, 1) := by decide +kernel
theorem dX8_keep_0 : decode cX8_keep 0 = .ok (.aload_n 0, 1) := by decide +kernel
theorem dX8_keep_1 : decode cX8_keep 1 = .ok (.iconst 0, 1) := by decide +kernel
theorem dX8_keep_2 : decode cX8_keep 2 = .ok (.putfield 117, 3) := by decide +kernel
theorem dX8_keep_5 : decode cX8_keep 5 = .ok (.aload_n 0, 1) := by decide +kernel
theorem dX8_keep_6 : decode cX8_keep 6 = .ok (.iload_n 2, 1) := by decide +kernel
theorem dX8_keep_7 : decode cX8_keep 7 = .ok (.invokevirtual 264, 3) := by decide +kernel
theorem dX8_keep_10 : decode cX8_keep 10 = .ok (.ifCond .ne 9, 3) := by decide +kernel
theorem dX8_keep_13 : decode cX8_keep 13 = .ok (.aload_n 0, 1) := by decide +kernel
theorem dX8_keep_14 : decode cX8_keep 14 = .ok (.iconst 1, 1) := by decide +kernel
theorem dX8_keep_15 : decode cX8_keep 15 = .ok (.invokevirtual 232, 3) := by decide +kernel
theorem dX8_keep_18 : decode cX8_keep 18 = .ok (.ireturn, 1) := by decide +kernel
theorem dX8_keep_19 : decode cX8_keep 19 = .ok (.aload_n 0, 1) := by decide +kernel
theorem dX8_keep_20 : decode cX8_keep 20 = .ok (.invokevirtual 258, 3) := by decide +kernel
theorem dX8_keep_23 : decode cX8_keep 23 = .ok (.aload_n 0, 1) := by decide +kernel
theorem dX8_keep_24 : decode cX8_keep 24 = .ok (.iload_n 1, 1) := by decide +kernel
theorem dX8_keep_25 : decode cX8_keep 25 = .ok (.iload_n 2, 1) := by decide +kernel
theorem dX8_keep_26 : decode cX8_keep 26 = .ok (.invokevirtual 279, 3) := by decide +kernel
theorem dX8_keep_29 : decode cX8_keep 29 = .ok (.ireturn, 1) := by decide +kernel
theorem dX8_strikesOf_0 : decode cX8_strikesOf 0 = .ok (.iload_n 1, 1) := by decide +kernel
theorem dX8_strikesOf_1 : decode cX8_strikesOf 1 = .ok (.ifCond .eq 37, 3) := by decide +kernel
theorem dX8_strikesOf_4 : decode cX8_strikesOf 4 = .ok (.aload_n 0, 1) := by decide +kernel
theorem dX8_strikesOf_5 : decode cX8_strikesOf 5 = .ok (.iload_n 1, 1) := by decide +kernel
theorem dX8_strikesOf_6 : decode cX8_strikesOf 6 = .ok (.iload_n 2, 1) := by decide +kernel
theorem dX8_strikesOf_7 : decode cX8_strikesOf 7 = .ok (.invokevirtual 279, 3) := by decide +kernel
theorem dX8_strikesOf_10 : decode cX8_strikesOf 10 = .ok (.invokestatic 267, 3) := by decide +kernel
theorem dX8_strikesOf_13 : decode cX8_strikesOf 13 = .ok (.aload_n 0, 1) := by decide +kernel
theorem dX8_strikesOf_14 : decode cX8_strikesOf 14 = .ok (.getfield 251, 3) := by decide +kernel
theorem dX8_strikesOf_17 : decode cX8_strikesOf 17 = .ok (.aload_n 0, 1) := by decide +kernel
theorem dX8_strikesOf_18 : decode cX8_strikesOf 18 = .ok (.iload_n 1, 1) := by decide +kernel
theorem dX8_strikesOf_19 : decode cX8_strikesOf 19 = .ok (.aload_n 0, 1) := by decide +kernel
theorem dX8_strikesOf_20 : decode cX8_strikesOf 20 = .ok (.invokevirtual 270, 3) := by decide +kernel
theorem dX8_strikesOf_23 : decode cX8_strikesOf 23 = .ok (.aload_n 0, 1) := by decide +kernel
theorem dX8_strikesOf_24 : decode cX8_strikesOf 24 = .ok (.getfield 251, 3) := by decide +kernel
theorem dX8_strikesOf_27 : decode cX8_strikesOf 27 = .ok (.invokevirtual 273, 3) := by decide +kernel
theorem dX8_strikesOf_30 : decode cX8_strikesOf 30 = .ok (.isub, 1) := by decide +kernel
theorem dX8_strikesOf_31 : decode cX8_strikesOf 31 = .ok (.if_icmp .lt 7, 3) := by decide +kernel
theorem dX8_strikesOf_34 : decode cX8_strikesOf 34 = .ok (.iconst 1, 1) := by decide +kernel
theorem dX8_strikesOf_35 : decode cX8_strikesOf 35 = .ok (.goto 4, 3) := by decide +kernel
theorem dX8_strikesOf_38 : decode cX8_strikesOf 38 = .ok (.iconst 0, 1) := by decide +kernel
theorem dX8_strikesOf_39 : decode cX8_strikesOf 39 = .ok (.ireturn, 1) := by decide +kernel
theorem dX8_strikes_0 : decode cX8_strikes 0 = .ok (.aload_n 0, 1) := by decide +kernel
theorem dX8_strikes_1 : decode cX8_strikes 1 = .ok (.iconst 0, 1) := by decide +kernel
theorem dX8_strikes_2 : decode cX8_strikes 2 = .ok (.putfield 117, 3) := by decide +kernel
theorem dX8_strikes_5 : decode cX8_strikes 5 = .ok (.aload_n 0, 1) := by decide +kernel
theorem dX8_strikes_6 : decode cX8_strikes 6 = .ok (.iload_n 2, 1) := by decide +kernel
theorem dX8_strikes_7 : decode cX8_strikes 7 = .ok (.invokevirtual 264, 3) := by decide +kernel
theorem dX8_strikes_10 : decode cX8_strikes 10 = .ok (.ifCond .ne 9, 3) := by decide +kernel
theorem dX8_strikes_13 : decode cX8_strikes 13 = .ok (.aload_n 0, 1) := by decide +kernel
theorem dX8_strikes_14 : decode cX8_strikes 14 = .ok (.iconst 1, 1) := by decide +kernel
theorem dX8_strikes_15 : decode cX8_strikes 15 = .ok (.invokevirtual 282, 3) := by decide +kernel
theorem dX8_strikes_18 : decode cX8_strikes 18 = .ok (.ireturn, 1) := by decide +kernel
theorem dX8_strikes_19 : decode cX8_strikes 19 = .ok (.aload_n 0, 1) := by decide +kernel
theorem dX8_strikes_20 : decode cX8_strikes 20 = .ok (.invokevirtual 258, 3) := by decide +kernel
theorem dX8_strikes_23 : decode cX8_strikes 23 = .ok (.aload_n 0, 1) := by decide +kernel
theorem dX8_strikes_24 : decode cX8_strikes 24 = .ok (.iload_n 1, 1) := by decide +kernel
theorem dX8_strikes_25 : decode cX8_strikes 25 = .ok (.aload_n 0, 1) := by decide +kernel
theorem dX8_strikes_26 : decode cX8_strikes 26 = .ok (.invokevirtual 270, 3) := by decide +kernel
theorem dX8_strikes_29 : decode cX8_strikes 29 = .ok (.iand, 1) := by decide +kernel
theorem dX8_strikes_30 : decode cX8_strikes 30 = .ok (.iload_n 2, 1) := by decide +kernel
theorem dX8_strikes_31 : decode cX8_strikes 31 = .ok (.invokevirtual 285, 3) := by decide +kernel
theorem dX8_strikes_34 : decode cX8_strikes 34 = .ok (.ireturn, 1) := by decide +kernel
theorem dX8_isBefore_0 : decode cX8_isBefore 0 = .ok (.iload_n 0, 1) := by decide +kernel
theorem dX8_isBefore_1 : decode cX8_isBefore 1 = .ok (.invokestatic 267, 3) := by decide +kernel
theorem dX8_isBefore_4 : decode cX8_isBefore 4 = .ok (.istore_n 2, 1) := by decide +kernel
theorem dX8_isBefore_5 : decode cX8_isBefore 5 = .ok (.iload_n 1, 1) := by decide +kernel
theorem dX8_isBefore_6 : decode cX8_isBefore 6 = .ok (.invokestatic 267, 3) := by decide +kernel
theorem dX8_isBefore_9 : decode cX8_isBefore 9 = .ok (.istore_n 3, 1) := by decide +kernel
theorem dX8_isBefore_10 : decode cX8_isBefore 10 = .ok (.iload_n 2, 1) := by decide +kernel
theorem dX8_isBefore_11 : decode cX8_isBefore 11 = .ok (.iload_n 3, 1) := by decide +kernel
theorem dX8_isBefore_12 : decode cX8_isBefore 12 = .ok (.if_icmp .eq 14, 3) := by decide +kernel
theorem dX8_isBefore_15 : decode cX8_isBefore 15 = .ok (.iload_n 2, 1) := by decide +kernel
theorem dX8_isBefore_16 : decode cX8_isBefore 16 = .ok (.iload_n 3, 1) := by decide +kernel
theorem dX8_isBefore_17 : decode cX8_isBefore 17 = .ok (.if_icmp .ge 7, 3) := by decide +kernel
theorem dX8_isBefore_20 : decode cX8_isBefore 20 = .ok (.iconst 1, 1) := by decide +kernel
theorem dX8_isBefore_21 : decode cX8_isBefore 21 = .ok (.goto 4, 3) := by decide +kernel
theorem dX8_isBefore_24 : decode cX8_isBefore 24 = .ok (.iconst 0, 1) := by decide +kernel
theorem dX8_isBefore_25 : decode cX8_isBefore 25 = .ok (.ireturn, 1) := by decide +kernel
theorem dX8_isBefore_26 : decode cX8_isBefore 26 = .ok (.iconst 0, 1) := by decide +kernel
theorem dX8_isBefore_27 : decode cX8_isBefore 27 = .ok (.istore 4, 2) := by decide +kernel
theorem dX8_isBefore_29 : decode cX8_isBefore 29 = .ok (.iload 4, 2) := by decide +kernel
theorem dX8_isBefore_31 : decode cX8_isBefore 31 = .ok (.bipush 12, 2) := by decide +kernel
theorem dX8_isBefore_33 : decode cX8_isBefore 33 = .ok (.if_icmp .ge 24, 3) := by decide +kernel
theorem dX8_isBefore_36 : decode cX8_isBefore 36 = .ok (.iload_n 0, 1) := by decide +kernel
theorem dX8_isBefore_37 : decode cX8_isBefore 37 = .ok (.iload 4, 2) := by decide +kernel
theorem dX8_isBefore_39 : decode cX8_isBefore 39 = .ok (.ishr, 1) := by decide +kernel
theorem dX8_isBefore_40 : decode cX8_isBefore 40 = .ok (.iconst 1, 1) := by decide +kernel
theorem dX8_isBefore_41 : decode cX8_isBefore 41 = .ok (.iand, 1) := by decide +kernel
theorem dX8_isBefore_42 : decode cX8_isBefore 42 = .ok (.iload_n 1, 1) := by decide +kernel
theorem dX8_isBefore_43 : decode cX8_isBefore 43 = .ok (.iload 4, 2) := by decide +kernel
theorem dX8_isBefore_45 : decode cX8_isBefore 45 = .ok (.ishr, 1) := by decide +kernel
theorem dX8_isBefore_46 : decode cX8_isBefore 46 = .ok (.iconst 1, 1) := by decide +kernel
theorem dX8_isBefore_47 : decode cX8_isBefore 47 = .ok (.iand, 1) := by decide +kernel
theorem dX8_isBefore_48 : decode cX8_isBefore 48 = .ok (.if_icmp .ne 9, 3) := by decide +kernel
theorem dX8_isBefore_51 : decode cX8_isBefore 51 = .ok (.iinc 4 1, 3) := by decide +kernel
theorem dX8_isBefore_54 : decode cX8_isBefore 54 = .ok (.goto (-25), 3) := by decide +kernel
theorem dX8_isBefore_57 : decode cX8_isBefore 57 = .ok (.iload 4, 2) := by decide +kernel
theorem dX8_isBefore_59 : decode cX8_isBefore 59 = .ok (.bipush 12, 2) := by decide +kernel
theorem dX8_isBefore_61 : decode cX8_isBefore 61 = .ok (.if_icmp .ge 17, 3) := by decide +kernel
theorem dX8_isBefore_64 : decode cX8_isBefore 64 = .ok (.iload_n 0, 1) := by decide +kernel
theorem dX8_isBefore_65 : decode cX8_isBefore 65 = .ok (.iload 4, 2) := by decide +kernel
theorem dX8_isBefore_67 : decode cX8_isBefore 67 = .ok (.ishr, 1) := by decide +kernel
theorem dX8_isBefore_68 : decode cX8_isBefore 68 = .ok (.iconst 1, 1) := by decide +kernel
theorem dX8_isBefore_69 : decode cX8_isBefore 69 = .ok (.iand, 1) := by decide +kernel
theorem dX8_isBefore_70 : decode cX8_isBefore 70 = .ok (.iconst 1, 1) := by decide +kernel
theorem dX8_isBefore_71 : decode cX8_isBefore 71 = .ok (.if_icmp .ne 7, 3) := by decide +kernel
theorem dX8_isBefore_74 : decode cX8_isBefore 74 = .ok (.iconst 1, 1) := by decide +kernel
theorem dX8_isBefore_75 : decode cX8_isBefore 75 = .ok (.goto 4, 3) := by decide +kernel
theorem dX8_isBefore_78 : decode cX8_isBefore 78 = .ok (.iconst 0, 1) := by decide +kernel
theorem dX8_isBefore_79 : decode cX8_isBefore 79 = .ok (.ireturn, 1) := by decide +kernel
theorem dX8_striker_0 : decode cX8_striker 0 = .ok (.aload_n 0, 1) := by decide +kernel
theorem dX8_striker_1 : decode cX8_striker 1 = .ok (.iconst 0, 1) := by decide +kernel
theorem dX8_striker_2 : decode cX8_striker 2 = .ok (.putfield 117, 3) := by decide +kernel
theorem dX8_striker_5 : decode cX8_striker 5 = .ok (.aload_n 0, 1) := by decide +kernel
theorem dX8_striker_6 : decode cX8_striker 6 = .ok (.iload_n 1, 1) := by decide +kernel
theorem dX8_striker_7 : decode cX8_striker 7 = .ok (.invokevirtual 264, 3) := by decide +kernel
theorem dX8_striker_10 : decode cX8_striker 10 = .ok (.ifCond .ne 9, 3) := by decide +kernel
theorem dX8_striker_13 : decode cX8_striker 13 = .ok (.aload_n 0, 1) := by decide +kernel
theorem dX8_striker_14 : decode cX8_striker 14 = .ok (.iconst 1, 1) := by decide +kernel
theorem dX8_striker_15 : decode cX8_striker 15 = .ok (.invokevirtual 232, 3) := by decide +kernel
theorem dX8_striker_18 : decode cX8_striker 18 = .ok (.ireturn, 1) := by decide +kernel
theorem dX8_striker_19 : decode cX8_striker 19 = .ok (.aload_n 0, 1) := by decide +kernel
theorem dX8_striker_20 : decode cX8_striker 20 = .ok (.invokevirtual 258, 3) := by decide +kernel
theorem dX8_striker_23 : decode cX8_striker 23 = .ok (.iconst 0, 1) := by decide +kernel
theorem dX8_striker_24 : decode cX8_striker 24 = .ok (.istore_n 2, 1) := by decide +kernel
theorem dX8_striker_25 : decode cX8_striker 25 = .ok (.iconst 1, 1) := by decide +kernel
theorem dX8_striker_26 : decode cX8_striker 26 = .ok (.istore_n 3, 1) := by decide +kernel
theorem dX8_striker_27 : decode cX8_striker 27 = .ok (.iload_n 3, 1) := by decide +kernel
theorem dX8_striker_28 : decode cX8_striker 28 = .ok (.aload_n 0, 1) := by decide +kernel
theorem dX8_striker_29 : decode cX8_striker 29 = .ok (.invokevirtual 270, 3) := by decide +kernel
theorem dX8_striker_32 : decode cX8_striker 32 = .ok (.if_icmp .gt 32, 3) := by decide +kernel
theorem dX8_striker_35 : decode cX8_striker 35 = .ok (.aload_n 0, 1) := by decide +kernel
theorem dX8_striker_36 : decode cX8_striker 36 = .ok (.iload_n 3, 1) := by decide +kernel
theorem dX8_striker_37 : decode cX8_striker 37 = .ok (.iload_n 1, 1) := by decide +kernel
theorem dX8_striker_38 : decode cX8_striker 38 = .ok (.invokevirtual 285, 3) := by decide +kernel
theorem dX8_striker_41 : decode cX8_striker 41 = .ok (.ifCond .eq 17, 3) := by decide +kernel
theorem dX8_striker_44 : decode cX8_striker 44 = .ok (.iload_n 2, 1) := by decide +kernel
theorem dX8_striker_45 : decode cX8_striker 45 = .ok (.ifCond .eq 11, 3) := by decide +kernel
theorem dX8_striker_48 : decode cX8_striker 48 = .ok (.iload_n 3, 1) := by decide +kernel
theorem dX8_striker_49 : decode cX8_striker 49 = .ok (.iload_n 2, 1) := by decide +kernel
theorem dX8_striker_50 : decode cX8_striker 50 = .ok (.invokestatic 289, 3) := by decide +kernel
theorem dX8_striker_53 : decode cX8_striker 53 = .ok (.ifCond .eq 5, 3) := by decide +kernel
theorem dX8_striker_56 : decode cX8_striker 56 = .ok (.iload_n 3, 1) := by decide +kernel
theorem dX8_striker_57 : decode cX8_striker 57 = .ok (.istore_n 2, 1) := by decide +kernel
theorem dX8_striker_58 : decode cX8_striker 58 = .ok (.iinc 3 1, 3) := by decide +kernel
theorem dX8_striker_61 : decode cX8_striker 61 = .ok (.goto (-34), 3) := by decide +kernel
theorem dX8_striker_64 : decode cX8_striker 64 = .ok (.iload_n 2, 1) := by decide +kernel
theorem dX8_striker_65 : decode cX8_striker 65 = .ok (.ireturn, 1) := by decide +kernel
theorem dX8_tellMays_0 : decode cX8_tellMays 0 = .ok (.aload_n 0, 1) := by decide +kernel
theorem dX8_tellMays_1 : decode cX8_tellMays 1 = .ok (.getfield 60, 3) := by decide +kernel
theorem dX8_tellMays_4 : decode cX8_tellMays 4 = .ok (.aload_n 0, 1) := by decide +kernel
theorem dX8_tellMays_5 : decode cX8_tellMays 5 = .ok (.getfield 242, 3) := by decide +kernel
theorem dX8_tellMays_8 : decode cX8_tellMays 8 = .ok (.if_icmp .ne 23, 3) := by decide +kernel
theorem dX8_tellMays_11 : decode cX8_tellMays 11 = .ok (.aload_n 0, 1) := by decide +kernel
theorem dX8_tellMays_12 : decode cX8_tellMays 12 = .ok (.getfield 292, 3) := by decide +kernel
theorem dX8_tellMays_15 : decode cX8_tellMays 15 = .ok (.iload_n 1, 1) := by decide +kernel
theorem dX8_tellMays_16 : decode cX8_tellMays 16 = .ok (.if_icmp .ne 15, 3) := by decide +kernel
theorem dX8_tellMays_19 : decode cX8_tellMays 19 = .ok (.aload_n 0, 1) := by decide +kernel
theorem dX8_tellMays_20 : decode cX8_tellMays 20 = .ok (.getfield 295, 3) := by decide +kernel
theorem dX8_tellMays_23 : decode cX8_tellMays 23 = .ok (.aload_n 0, 1) := by decide +kernel
theorem dX8_tellMays_24 : decode cX8_tellMays 24 = .ok (.getfield 251, 3) := by decide +kernel
theorem dX8_tellMays_27 : decode cX8_tellMays 27 = .ok (.if_icmp .ne 4, 3) := by decide +kernel
theorem dX8_tellMays_30 : decode cX8_tellMays 30 = .ok (.return_, 1) := by decide +kernel
theorem dX8_tellMays_31 : decode cX8_tellMays 31 = .ok (.aload_n 0, 1) := by decide +kernel
theorem dX8_tellMays_32 : decode cX8_tellMays 32 = .ok (.aload_n 0, 1) := by decide +kernel
theorem dX8_tellMays_33 : decode cX8_tellMays 33 = .ok (.getfield 242, 3) := by decide +kernel
theorem dX8_tellMays_36 : decode cX8_tellMays 36 = .ok (.putfield 60, 3) := by decide +kernel
theorem dX8_tellMays_39 : decode cX8_tellMays 39 = .ok (.aload_n 0, 1) := by decide +kernel
theorem dX8_tellMays_40 : decode cX8_tellMays 40 = .ok (.iload_n 1, 1) := by decide +kernel
theorem dX8_tellMays_41 : decode cX8_tellMays 41 = .ok (.putfield 292, 3) := by decide +kernel
theorem dX8_tellMays_44 : decode cX8_tellMays 44 = .ok (.aload_n 0, 1) := by decide +kernel
theorem dX8_tellMays_45 : decode cX8_tellMays 45 = .ok (.aload_n 0, 1) := by decide +kernel
theorem dX8_tellMays_46 : decode cX8_tellMays 46 = .ok (.getfield 251, 3) := by decide +kernel
theorem dX8_tellMays_49 : decode cX8_tellMays 49 = .ok (.putfield 295, 3) := by decide +kernel
theorem dX8_tellMays_52 : decode cX8_tellMays 52 = .ok (.iconst 0, 1) := by decide +kernel
theorem dX8_tellMays_53 : decode cX8_tellMays 53 = .ok (.istore_n 2, 1) := by decide +kernel
theorem dX8_tellMays_54 : decode cX8_tellMays 54 = .ok (.iload_n 2, 1) := by decide +kernel
theorem dX8_tellMays_55 : decode cX8_tellMays 55 = .ok (.sipush 256, 3) := by decide +kernel
theorem dX8_tellMays_58 : decode cX8_tellMays 58 = .ok (.if_icmp .ge 33, 3) := by decide +kernel
theorem dX8_tellMays_61 : decode cX8_tellMays 61 = .ok (.iload_n 2, 1) := by decide +kernel
theorem dX8_tellMays_62 : decode cX8_tellMays 62 = .ok (.iload_n 1, 1) := by decide +kernel
theorem dX8_tellMays_63 : decode cX8_tellMays 63 = .ok (.iconst (-1), 1) := by decide +kernel
theorem dX8_tellMays_64 : decode cX8_tellMays 64 = .ok (.ixor, 1) := by decide +kernel
theorem dX8_tellMays_65 : decode cX8_tellMays 65 = .ok (.iand, 1) := by decide +kernel
theorem dX8_tellMays_66 : decode cX8_tellMays 66 = .ok (.ifCond .ne 19, 3) := by decide +kernel
theorem dX8_tellMays_69 : decode cX8_tellMays 69 = .ok (.aload_n 0, 1) := by decide +kernel
theorem dX8_tellMays_70 : decode cX8_tellMays 70 = .ok (.getfield 54, 3) := by decide +kernel
theorem dX8_tellMays_73 : decode cX8_tellMays 73 = .ok (.iload_n 2, 1) := by decide +kernel
theorem dX8_tellMays_74 : decode cX8_tellMays 74 = .ok (.aload_n 0, 1) := by decide +kernel
theorem dX8_tellMays_75 : decode cX8_tellMays 75 = .ok (.iload_n 2, 1) := by decide +kernel
theorem dX8_tellMays_76 : decode cX8_tellMays 76 = .ok (.iload_n 1, 1) := by decide +kernel
theorem dX8_tellMays_77 : decode cX8_tellMays 77 = .ok (.aload_n 0, 1) := by decide +kernel
theorem dX8_tellMays_78 : decode cX8_tellMays 78 = .ok (.getfield 251, 3) := by decide +kernel
theorem dX8_tellMays_81 : decode cX8_tellMays 81 = .ok (.invokevirtual 273, 3) := by decide +kernel
theorem dX8_tellMays_84 : decode cX8_tellMays 84 = .ok (.iastore, 1) := by decide +kernel
theorem dX8_tellMays_85 : decode cX8_tellMays 85 = .ok (.iinc 2 1, 3) := by decide +kernel
theorem dX8_tellMays_88 : decode cX8_tellMays 88 = .ok (.goto (-34), 3) := by decide +kernel
theorem dX8_tellMays_91 : decode cX8_tellMays 91 = .ok (.return_, 1) := by decide +kernel
theorem dX8_coreOf_0 : decode cX8_coreOf 0 = .ok (.aload_n 0, 1) := by decide +kernel
theorem dX8_coreOf_1 : decode cX8_coreOf 1 = .ok (.iload_n 1, 1) := by decide +kernel
theorem dX8_coreOf_2 : decode cX8_coreOf 2 = .ok (.invokevirtual 298, 3) := by decide +kernel
theorem dX8_coreOf_5 : decode cX8_coreOf 5 = .ok (.iconst 0, 1) := by decide +kernel
theorem dX8_coreOf_6 : decode cX8_coreOf 6 = .ok (.istore_n 2, 1) := by decide +kernel
theorem dX8_coreOf_7 : decode cX8_coreOf 7 = .ok (.iconst 0, 1) := by decide +kernel
theorem dX8_coreOf_8 : decode cX8_coreOf 8 = .ok (.istore_n 3, 1) := by decide +kernel
theorem dX8_coreOf_9 : decode cX8_coreOf 9 = .ok (.iload_n 3, 1) := by decide +kernel
theorem dX8_coreOf_10 : decode cX8_coreOf 10 = .ok (.aload_n 0, 1) := by decide +kernel
theorem dX8_coreOf_11 : decode cX8_coreOf 11 = .ok (.getfield 251, 3) := by decide +kernel
theorem dX8_coreOf_14 : decode cX8_coreOf 14 = .ok (.if_icmp .ge 174, 3) := by decide +kernel
theorem dX8_coreOf_17 : decode cX8_coreOf 17 = .ok (.iconst 1, 1) := by decide +kernel
theorem dX8_coreOf_18 : decode cX8_coreOf 18 = .ok (.istore 4, 2) := by decide +kernel
theorem dX8_coreOf_20 : decode cX8_coreOf 20 = .ok (.aload_n 0, 1) := by decide +kernel
theorem dX8_coreOf_21 : decode cX8_coreOf 21 = .ok (.getfield 57, 3) := by decide +kernel
theorem dX8_coreOf_24 : decode cX8_coreOf 24 = .ok (.iconst 0, 1) := by decide +kernel
theorem dX8_coreOf_25 : decode cX8_coreOf 25 = .ok (.iconst 1, 1) := by decide +kernel
theorem dX8_coreOf_26 : decode cX8_coreOf 26 = .ok (.aload_n 0, 1) := by decide +kernel
theorem dX8_coreOf_27 : decode cX8_coreOf 27 = .ok (.getfield 251, 3) := by decide +kernel
theorem dX8_coreOf_30 : decode cX8_coreOf 30 = .ok (.ishl, 1) := by decide +kernel
theorem dX8_coreOf_31 : decode cX8_coreOf 31 = .ok (.iconst 1, 1) := by decide +kernel
theorem dX8_coreOf_32 : decode cX8_coreOf 32 = .ok (.isub, 1) := by decide +kernel
theorem dX8_coreOf_33 : decode cX8_coreOf 33 = .ok (.iastore, 1) := by decide +kernel
theorem dX8_coreOf_34 : decode cX8_coreOf 34 = .ok (.iconst 1, 1) := by decide +kernel
theorem dX8_coreOf_35 : decode cX8_coreOf 35 = .ok (.istore 5, 2) := by decide +kernel
theorem dX8_coreOf_37 : decode cX8_coreOf 37 = .ok (.iload 5, 2) := by decide +kernel
theorem dX8_coreOf_39 : decode cX8_coreOf 39 = .ok (.iload_n 1, 1) := by decide +kernel
theorem dX8_coreOf_40 : decode cX8_coreOf 40 = .ok (.if_icmp .gt 127, 3) := by decide +kernel
theorem dX8_coreOf_43 : decode cX8_coreOf 43 = .ok (.iload 4, 2) := by decide +kernel
theorem dX8_coreOf_45 : decode cX8_coreOf 45 = .ok (.ifCond .eq 122, 3) := by decide +kernel
theorem dX8_coreOf_48 : decode cX8_coreOf 48 = .ok (.iload 5, 2) := by decide +kernel
theorem dX8_coreOf_50 : decode cX8_coreOf 50 = .ok (.iload_n 1, 1) := by decide +kernel
theorem dX8_coreOf_51 : decode cX8_coreOf 51 = .ok (.iconst (-1), 1) := by decide +kernel
theorem dX8_coreOf_52 : decode cX8_coreOf 52 = .ok (.ixor, 1) := by decide +kernel
theorem dX8_coreOf_53 : decode cX8_coreOf 53 = .ok (.iand, 1) := by decide +kernel
theorem dX8_coreOf_54 : decode cX8_coreOf 54 = .ok (.ifCond .eq 6, 3) := by decide +kernel
theorem dX8_coreOf_57 : decode cX8_coreOf 57 = .ok (.goto 104, 3) := by decide +kernel
theorem dX8_coreOf_60 : decode cX8_coreOf 60 = .ok (.iconst 0, 1) := by decide +kernel
theorem dX8_coreOf_61 : decode cX8_coreOf 61 = .ok (.istore 6, 2) := by decide +kernel
theorem dX8_coreOf_63 : decode cX8_coreOf 63 = .ok (.iload 5, 2) := by decide +kernel
theorem dX8_coreOf_65 : decode cX8_coreOf 65 = .ok (.iload 6, 2) := by decide +kernel
theorem dX8_coreOf_67 : decode cX8_coreOf 67 = .ok (.ishr, 1) := by decide +kernel
theorem dX8_coreOf_68 : decode cX8_coreOf 68 = .ok (.iconst 1, 1) := by decide +kernel
theorem dX8_coreOf_69 : decode cX8_coreOf 69 = .ok (.iand, 1) := by decide +kernel
theorem dX8_coreOf_70 : decode cX8_coreOf 70 = .ok (.ifCond .ne 9, 3) := by decide +kernel
theorem dX8_coreOf_73 : decode cX8_coreOf 73 = .ok (.iinc 6 1, 3) := by decide +kernel
theorem dX8_coreOf_76 : decode cX8_coreOf 76 = .ok (.goto (-13), 3) := by decide +kernel
theorem dX8_coreOf_79 : decode cX8_coreOf 79 = .ok (.iload 5, 2) := by decide +kernel
theorem dX8_coreOf_81 : decode cX8_coreOf 81 = .ok (.iconst 1, 1) := by decide +kernel
theorem dX8_coreOf_82 : decode cX8_coreOf 82 = .ok (.iload 6, 2) := by decide +kernel
theorem dX8_coreOf_84 : decode cX8_coreOf 84 = .ok (.ishl, 1) := by decide +kernel
theorem dX8_coreOf_85 : decode cX8_coreOf 85 = .ok (.iconst (-1), 1) := by decide +kernel
theorem dX8_coreOf_86 : decode cX8_coreOf 86 = .ok (.ixor, 1) := by decide +kernel
theorem dX8_coreOf_87 : decode cX8_coreOf 87 = .ok (.iand, 1) := by decide +kernel
theorem dX8_coreOf_88 : decode cX8_coreOf 88 = .ok (.istore 7, 2) := by decide +kernel
theorem dX8_coreOf_90 : decode cX8_coreOf 90 = .ok (.aload_n 0, 1) := by decide +kernel
theorem dX8_coreOf_91 : decode cX8_coreOf 91 = .ok (.getfield 57, 3) := by decide +kernel
theorem dX8_coreOf_94 : decode cX8_coreOf 94 = .ok (.iload 5, 2) := by decide +kernel
theorem dX8_coreOf_96 : decode cX8_coreOf 96 = .ok (.iload 7, 2) := by decide +kernel
theorem dX8_coreOf_98 : decode cX8_coreOf 98 = .ok (.ifCond .ne 13, 3) := by decide +kernel
theorem dX8_coreOf_101 : decode cX8_coreOf 101 = .ok (.aload_n 0, 1) := by decide +kernel
theorem dX8_coreOf_102 : decode cX8_coreOf 102 = .ok (.iload 6, 2) := by decide +kernel
theorem dX8_coreOf_104 : decode cX8_coreOf 104 = .ok (.iload_n 3, 1) := by decide +kernel
theorem dX8_coreOf_105 : decode cX8_coreOf 105 = .ok (.invokevirtual 276, 3) := by decide +kernel
theorem dX8_coreOf_108 : decode cX8_coreOf 108 = .ok (.goto 20, 3) := by decide +kernel
theorem dX8_coreOf_111 : decode cX8_coreOf 111 = .ok (.aload_n 0, 1) := by decide +kernel
theorem dX8_coreOf_112 : decode cX8_coreOf 112 = .ok (.getfield 57, 3) := by decide +kernel
theorem dX8_coreOf_115 : decode cX8_coreOf 115 = .ok (.iload 7, 2) := by decide +kernel
theorem dX8_coreOf_117 : decode cX8_coreOf 117 = .ok (.iaload, 1) := by decide +kernel
theorem dX8_coreOf_118 : decode cX8_coreOf 118 = .ok (.aload_n 0, 1) := by decide +kernel
theorem dX8_coreOf_119 : decode cX8_coreOf 119 = .ok (.getfield 57, 3) := by decide +kernel
theorem dX8_coreOf_122 : decode cX8_coreOf 122 = .ok (.iconst 1, 1) := by decide +kernel
theorem dX8_coreOf_123 : decode cX8_coreOf 123 = .ok (.iload 6, 2) := by decide +kernel
theorem dX8_coreOf_125 : decode cX8_coreOf 125 = .ok (.ishl, 1) := by decide +kernel
theorem dX8_coreOf_126 : decode cX8_coreOf 126 = .ok (.iaload, 1) := by decide +kernel
theorem dX8_coreOf_127 : decode cX8_coreOf 127 = .ok (.iand, 1) := by decide +kernel
theorem dX8_coreOf_128 : decode cX8_coreOf 128 = .ok (.iastore, 1) := by decide +kernel
theorem dX8_coreOf_129 : decode cX8_coreOf 129 = .ok (.aload_n 0, 1) := by decide +kernel
theorem dX8_coreOf_130 : decode cX8_coreOf 130 = .ok (.getfield 57, 3) := by decide +kernel
theorem dX8_coreOf_133 : decode cX8_coreOf 133 = .ok (.iload 5, 2) := by decide +kernel
theorem dX8_coreOf_135 : decode cX8_coreOf 135 = .ok (.iaload, 1) := by decide +kernel
theorem dX8_coreOf_136 : decode cX8_coreOf 136 = .ok (.invokestatic 267, 3) := by decide +kernel
theorem dX8_coreOf_139 : decode cX8_coreOf 139 = .ok (.aload_n 0, 1) := by decide +kernel
theorem dX8_coreOf_140 : decode cX8_coreOf 140 = .ok (.getfield 251, 3) := by decide +kernel
theorem dX8_coreOf_143 : decode cX8_coreOf 143 = .ok (.aload_n 0, 1) := by decide +kernel
theorem dX8_coreOf_144 : decode cX8_coreOf 144 = .ok (.getfield 54, 3) := by decide +kernel
theorem dX8_coreOf_147 : decode cX8_coreOf 147 = .ok (.iload 5, 2) := by decide +kernel
theorem dX8_coreOf_149 : decode cX8_coreOf 149 = .ok (.iaload, 1) := by decide +kernel
theorem dX8_coreOf_150 : decode cX8_coreOf 150 = .ok (.isub, 1) := by decide +kernel
theorem dX8_coreOf_151 : decode cX8_coreOf 151 = .ok (.if_icmp .ge 7, 3) := by decide +kernel
theorem dX8_coreOf_154 : decode cX8_coreOf 154 = .ok (.iconst 1, 1) := by decide +kernel
theorem dX8_coreOf_155 : decode cX8_coreOf 155 = .ok (.goto 4, 3) := by decide +kernel
theorem dX8_coreOf_158 : decode cX8_coreOf 158 = .ok (.iconst 0, 1) := by decide +kernel
theorem dX8_coreOf_159 : decode cX8_coreOf 159 = .ok (.istore 4, 2) := by decide +kernel
theorem dX8_coreOf_161 : decode cX8_coreOf 161 = .ok (.iinc 5 1, 3) := by decide +kernel
theorem dX8_coreOf_164 : decode cX8_coreOf 164 = .ok (.goto (-127), 3) := by decide +kernel
theorem dX8_coreOf_167 : decode cX8_coreOf 167 = .ok (.iload_n 2, 1) := by decide +kernel
theorem dX8_coreOf_168 : decode cX8_coreOf 168 = .ok (.iload 4, 2) := by decide +kernel
theorem dX8_coreOf_170 : decode cX8_coreOf 170 = .ok (.ifCond .eq 9, 3) := by decide +kernel
theorem dX8_coreOf_173 : decode cX8_coreOf 173 = .ok (.iconst 1, 1) := by decide +kernel
theorem dX8_coreOf_174 : decode cX8_coreOf 174 = .ok (.iload_n 3, 1) := by decide +kernel
theorem dX8_coreOf_175 : decode cX8_coreOf 175 = .ok (.ishl, 1) := by decide +kernel
theorem dX8_coreOf_176 : decode cX8_coreOf 176 = .ok (.goto 4, 3) := by decide +kernel
theorem dX8_coreOf_179 : decode cX8_coreOf 179 = .ok (.iconst 0, 1) := by decide +kernel
theorem dX8_coreOf_180 : decode cX8_coreOf 180 = .ok (.ior, 1) := by decide +kernel
theorem dX8_coreOf_181 : decode cX8_coreOf 181 = .ok (.istore_n 2, 1) := by decide +kernel
theorem dX8_coreOf_182 : decode cX8_coreOf 182 = .ok (.iinc 3 1, 3) := by decide +kernel
theorem dX8_coreOf_185 : decode cX8_coreOf 185 = .ok (.goto (-176), 3) := by decide +kernel
theorem dX8_coreOf_188 : decode cX8_coreOf 188 = .ok (.iload_n 2, 1) := by decide +kernel
theorem dX8_coreOf_189 : decode cX8_coreOf 189 = .ok (.ireturn, 1) := by decide +kernel
theorem dX8_core_0 : decode cX8_core 0 = .ok (.aload_n 0, 1) := by decide +kernel
theorem dX8_core_1 : decode cX8_core 1 = .ok (.iconst 0, 1) := by decide +kernel
theorem dX8_core_2 : decode cX8_core 2 = .ok (.putfield 117, 3) := by decide +kernel
theorem dX8_core_5 : decode cX8_core 5 = .ok (.aload_n 0, 1) := by decide +kernel
theorem dX8_core_6 : decode cX8_core 6 = .ok (.invokevirtual 258, 3) := by decide +kernel
theorem dX8_core_9 : decode cX8_core 9 = .ok (.aload_n 0, 1) := by decide +kernel
theorem dX8_core_10 : decode cX8_core 10 = .ok (.aload_n 0, 1) := by decide +kernel
theorem dX8_core_11 : decode cX8_core 11 = .ok (.invokevirtual 270, 3) := by decide +kernel
theorem dX8_core_14 : decode cX8_core 14 = .ok (.invokevirtual 301, 3) := by decide +kernel
theorem dX8_core_17 : decode cX8_core 17 = .ok (.ireturn, 1) := by decide +kernel
theorem dX8_copy_0 : decode cX8_copy 0 = .ok (.aload_n 0, 1) := by decide +kernel
theorem dX8_copy_1 : decode cX8_copy 1 = .ok (.iconst 0, 1) := by decide +kernel
theorem dX8_copy_2 : decode cX8_copy 2 = .ok (.putfield 117, 3) := by decide +kernel
theorem dX8_copy_5 : decode cX8_copy 5 = .ok (.aload_n 0, 1) := by decide +kernel
theorem dX8_copy_6 : decode cX8_copy 6 = .ok (.iload_n 1, 1) := by decide +kernel
theorem dX8_copy_7 : decode cX8_copy 7 = .ok (.invokevirtual 264, 3) := by decide +kernel
theorem dX8_copy_10 : decode cX8_copy 10 = .ok (.ifCond .ne 9, 3) := by decide +kernel
theorem dX8_copy_13 : decode cX8_copy 13 = .ok (.aload_n 0, 1) := by decide +kernel
theorem dX8_copy_14 : decode cX8_copy 14 = .ok (.iconst 1, 1) := by decide +kernel
theorem dX8_copy_15 : decode cX8_copy 15 = .ok (.invokevirtual 232, 3) := by decide +kernel
theorem dX8_copy_18 : decode cX8_copy 18 = .ok (.ireturn, 1) := by decide +kernel
theorem dX8_copy_19 : decode cX8_copy 19 = .ok (.aload_n 0, 1) := by decide +kernel
theorem dX8_copy_20 : decode cX8_copy 20 = .ok (.getfield 7, 3) := by decide +kernel
theorem dX8_copy_23 : decode cX8_copy 23 = .ok (.iconst 0, 1) := by decide +kernel
theorem dX8_copy_24 : decode cX8_copy 24 = .ok (.iaload, 1) := by decide +kernel
theorem dX8_copy_25 : decode cX8_copy 25 = .ok (.bipush 9, 2) := by decide +kernel
theorem dX8_copy_27 : decode cX8_copy 27 = .ok (.if_icmp .ne 5, 3) := by decide +kernel
theorem dX8_copy_30 : decode cX8_copy 30 = .ok (.iconst (-1), 1) := by decide +kernel
theorem dX8_copy_31 : decode cX8_copy 31 = .ok (.ireturn, 1) := by decide +kernel
theorem dX8_copy_32 : decode cX8_copy 32 = .ok (.aload_n 0, 1) := by decide +kernel
theorem dX8_copy_33 : decode cX8_copy 33 = .ok (.iload_n 1, 1) := by decide +kernel
theorem dX8_copy_34 : decode cX8_copy 34 = .ok (.invokevirtual 304, 3) := by decide +kernel
theorem dX8_copy_37 : decode cX8_copy 37 = .ok (.aload_n 0, 1) := by decide +kernel
theorem dX8_copy_38 : decode cX8_copy 38 = .ok (.aload_n 0, 1) := by decide +kernel
theorem dX8_copy_39 : decode cX8_copy 39 = .ok (.invokevirtual 270, 3) := by decide +kernel
theorem dX8_copy_42 : decode cX8_copy 42 = .ok (.invokevirtual 301, 3) := by decide +kernel
theorem dX8_copy_45 : decode cX8_copy 45 = .ok (.ireturn, 1) := by decide +kernel
theorem dX8_without_0 : decode cX8_without 0 = .ok (.aload_n 0, 1) := by decide +kernel
theorem dX8_without_1 : decode cX8_without 1 = .ok (.iconst 0, 1) := by decide +kernel
theorem dX8_without_2 : decode cX8_without 2 = .ok (.putfield 117, 3) := by decide +kernel
theorem dX8_without_5 : decode cX8_without 5 = .ok (.aload_n 0, 1) := by decide +kernel
theorem dX8_without_6 : decode cX8_without 6 = .ok (.iload_n 1, 1) := by decide +kernel
theorem dX8_without_7 : decode cX8_without 7 = .ok (.invokevirtual 261, 3) := by decide +kernel
theorem dX8_without_10 : decode cX8_without 10 = .ok (.ifCond .ne 9, 3) := by decide +kernel
theorem dX8_without_13 : decode cX8_without 13 = .ok (.aload_n 0, 1) := by decide +kernel
theorem dX8_without_14 : decode cX8_without 14 = .ok (.iconst 1, 1) := by decide +kernel
theorem dX8_without_15 : decode cX8_without 15 = .ok (.invokevirtual 232, 3) := by decide +kernel
theorem dX8_without_18 : decode cX8_without 18 = .ok (.ireturn, 1) := by decide +kernel
theorem dX8_without_19 : decode cX8_without 19 = .ok (.aload_n 0, 1) := by decide +kernel
theorem dX8_without_20 : decode cX8_without 20 = .ok (.invokevirtual 258, 3) := by decide +kernel
theorem dX8_without_23 : decode cX8_without 23 = .ok (.aload_n 0, 1) := by decide +kernel
theorem dX8_without_24 : decode cX8_without 24 = .ok (.aload_n 0, 1) := by decide +kernel
theorem dX8_without_25 : decode cX8_without 25 = .ok (.invokevirtual 270, 3) := by decide +kernel
theorem dX8_without_28 : decode cX8_without 28 = .ok (.iconst 1, 1) := by decide +kernel
theorem dX8_without_29 : decode cX8_without 29 = .ok (.iload_n 1, 1) := by decide +kernel
theorem dX8_without_30 : decode cX8_without 30 = .ok (.ishl, 1) := by decide +kernel
theorem dX8_without_31 : decode cX8_without 31 = .ok (.iconst (-1), 1) := by decide +kernel
theorem dX8_without_32 : decode cX8_without 32 = .ok (.ixor, 1) := by decide +kernel
theorem dX8_without_33 : decode cX8_without 33 = .ok (.iand, 1) := by decide +kernel
theorem dX8_without_34 : decode cX8_without 34 = .ok (.invokevirtual 301, 3) := by decide +kernel
theorem dX8_without_37 : decode cX8_without 37 = .ok (.ireturn, 1) := by decide +kernel
theorem dX8_add_0 : decode cX8_add 0 = .ok (.aload_n 0, 1) := by decide +kernel
theorem dX8_add_1 : decode cX8_add 1 = .ok (.iconst 0, 1) := by decide +kernel
theorem dX8_add_2 : decode cX8_add 2 = .ok (.putfield 117, 3) := by decide +kernel
theorem dX8_add_5 : decode cX8_add 5 = .ok (.aload_n 0, 1) := by decide +kernel
theorem dX8_add_6 : decode cX8_add 6 = .ok (.iload_n 1, 1) := by decide +kernel
theorem dX8_add_7 : decode cX8_add 7 = .ok (.invokevirtual 264, 3) := by decide +kernel
theorem dX8_add_10 : decode cX8_add 10 = .ok (.ifCond .ne 9, 3) := by decide +kernel
theorem dX8_add_13 : decode cX8_add 13 = .ok (.aload_n 0, 1) := by decide +kernel
theorem dX8_add_14 : decode cX8_add 14 = .ok (.iconst 1, 1) := by decide +kernel
theorem dX8_add_15 : decode cX8_add 15 = .ok (.invokevirtual 232, 3) := by decide +kernel
theorem dX8_add_18 : decode cX8_add 18 = .ok (.ireturn, 1) := by decide +kernel
theorem dX8_add_19 : decode cX8_add 19 = .ok (.aload_n 0, 1) := by decide +kernel
theorem dX8_add_20 : decode cX8_add 20 = .ok (.getfield 7, 3) := by decide +kernel
theorem dX8_add_23 : decode cX8_add 23 = .ok (.iconst 0, 1) := by decide +kernel
theorem dX8_add_24 : decode cX8_add 24 = .ok (.iaload, 1) := by decide +kernel
theorem dX8_add_25 : decode cX8_add 25 = .ok (.bipush 9, 2) := by decide +kernel
theorem dX8_add_27 : decode cX8_add 27 = .ok (.if_icmp .ne 5, 3) := by decide +kernel
theorem dX8_add_30 : decode cX8_add 30 = .ok (.iconst (-1), 1) := by decide +kernel
theorem dX8_add_31 : decode cX8_add 31 = .ok (.ireturn, 1) := by decide +kernel
theorem dX8_add_32 : decode cX8_add 32 = .ok (.aload_n 0, 1) := by decide +kernel
theorem dX8_add_33 : decode cX8_add 33 = .ok (.getfield 7, 3) := by decide +kernel
theorem dX8_add_36 : decode cX8_add 36 = .ok (.iconst 0, 1) := by decide +kernel
theorem dX8_add_37 : decode cX8_add 37 = .ok (.iaload, 1) := by decide +kernel
theorem dX8_add_38 : decode cX8_add 38 = .ok (.istore_n 2, 1) := by decide +kernel
theorem dX8_add_39 : decode cX8_add 39 = .ok (.iconst 0, 1) := by decide +kernel
theorem dX8_add_40 : decode cX8_add 40 = .ok (.istore_n 3, 1) := by decide +kernel
theorem dX8_add_41 : decode cX8_add 41 = .ok (.iload_n 3, 1) := by decide +kernel
theorem dX8_add_42 : decode cX8_add 42 = .ok (.aload_n 0, 1) := by decide +kernel
theorem dX8_add_43 : decode cX8_add 43 = .ok (.getfield 13, 3) := by decide +kernel
theorem dX8_add_46 : decode cX8_add 46 = .ok (.iconst 0, 1) := by decide +kernel
theorem dX8_add_47 : decode cX8_add 47 = .ok (.iaload, 1) := by decide +kernel
theorem dX8_add_48 : decode cX8_add 48 = .ok (.if_icmp .ge 87, 3) := by decide +kernel
theorem dX8_add_51 : decode cX8_add 51 = .ok (.iload_n 3, 1) := by decide +kernel
theorem dX8_add_52 : decode cX8_add 52 = .ok (.bipush 10, 2) := by decide +kernel
theorem dX8_add_54 : decode cX8_add 54 = .ok (.imul, 1) := by decide +kernel
theorem dX8_add_55 : decode cX8_add 55 = .ok (.istore 4, 2) := by decide +kernel
theorem dX8_add_57 : decode cX8_add 57 = .ok (.aload_n 0, 1) := by decide +kernel
theorem dX8_add_58 : decode cX8_add 58 = .ok (.getfield 31, 3) := by decide +kernel
theorem dX8_add_61 : decode cX8_add 61 = .ok (.iload 4, 2) := by decide +kernel
theorem dX8_add_63 : decode cX8_add 63 = .ok (.iload_n 1, 1) := by decide +kernel
theorem dX8_add_64 : decode cX8_add 64 = .ok (.iadd, 1) := by decide +kernel
theorem dX8_add_65 : decode cX8_add 65 = .ok (.iaload, 1) := by decide +kernel
theorem dX8_add_66 : decode cX8_add 66 = .ok (.istore 5, 2) := by decide +kernel
theorem dX8_add_68 : decode cX8_add 68 = .ok (.iconst 0, 1) := by decide +kernel
theorem dX8_add_69 : decode cX8_add 69 = .ok (.istore 6, 2) := by decide +kernel
theorem dX8_add_71 : decode cX8_add 71 = .ok (.iload 6, 2) := by decide +kernel
theorem dX8_add_73 : decode cX8_add 73 = .ok (.iload_n 2, 1) := by decide +kernel
theorem dX8_add_74 : decode cX8_add 74 = .ok (.if_icmp .ge 42, 3) := by decide +kernel
theorem dX8_add_77 : decode cX8_add 77 = .ok (.aload_n 0, 1) := by decide +kernel
theorem dX8_add_78 : decode cX8_add 78 = .ok (.getfield 31, 3) := by decide +kernel
theorem dX8_add_81 : decode cX8_add 81 = .ok (.iload 4, 2) := by decide +kernel
theorem dX8_add_83 : decode cX8_add 83 = .ok (.iload 6, 2) := by decide +kernel
theorem dX8_add_85 : decode cX8_add 85 = .ok (.iadd, 1) := by decide +kernel
theorem dX8_add_86 : decode cX8_add 86 = .ok (.dup2, 1) := by decide +kernel
theorem dX8_add_87 : decode cX8_add 87 = .ok (.iaload, 1) := by decide +kernel
theorem dX8_add_88 : decode cX8_add 88 = .ok (.aload_n 0, 1) := by decide +kernel
theorem dX8_add_89 : decode cX8_add 89 = .ok (.getfield 31, 3) := by decide +kernel
theorem dX8_add_92 : decode cX8_add 92 = .ok (.iload 4, 2) := by decide +kernel
theorem dX8_add_94 : decode cX8_add 94 = .ok (.iload 6, 2) := by decide +kernel
theorem dX8_add_96 : decode cX8_add 96 = .ok (.iadd, 1) := by decide +kernel
theorem dX8_add_97 : decode cX8_add 97 = .ok (.iaload, 1) := by decide +kernel
theorem dX8_add_98 : decode cX8_add 98 = .ok (.iload 5, 2) := by decide +kernel
theorem dX8_add_100 : decode cX8_add 100 = .ok (.if_icmp .le 7, 3) := by decide +kernel
theorem dX8_add_103 : decode cX8_add 103 = .ok (.iconst 1, 1) := by decide +kernel
theorem dX8_add_104 : decode cX8_add 104 = .ok (.goto 4, 3) := by decide +kernel
theorem dX8_add_107 : decode cX8_add 107 = .ok (.iconst 0, 1) := by decide +kernel
theorem dX8_add_108 : decode cX8_add 108 = .ok (.iadd, 1) := by decide +kernel
theorem dX8_add_109 : decode cX8_add 109 = .ok (.iastore, 1) := by decide +kernel
theorem dX8_add_110 : decode cX8_add 110 = .ok (.iinc 6 1, 3) := by decide +kernel
theorem dX8_add_113 : decode cX8_add 113 = .ok (.goto (-42), 3) := by decide +kernel
theorem dX8_add_116 : decode cX8_add 116 = .ok (.aload_n 0, 1) := by decide +kernel
theorem dX8_add_117 : decode cX8_add 117 = .ok (.getfield 31, 3) := by decide +kernel
theorem dX8_add_120 : decode cX8_add 120 = .ok (.iload 4, 2) := by decide +kernel
theorem dX8_add_122 : decode cX8_add 122 = .ok (.iload_n 2, 1) := by decide +kernel
theorem dX8_add_123 : decode cX8_add 123 = .ok (.iadd, 1) := by decide +kernel
theorem dX8_add_124 : decode cX8_add 124 = .ok (.iload 5, 2) := by decide +kernel
theorem dX8_add_126 : decode cX8_add 126 = .ok (.iconst 1, 1) := by decide +kernel
theorem dX8_add_127 : decode cX8_add 127 = .ok (.iadd, 1) := by decide +kernel
theorem dX8_add_128 : decode cX8_add 128 = .ok (.iastore, 1) := by decide +kernel
theorem dX8_add_129 : decode cX8_add 129 = .ok (.iinc 3 1, 3) := by decide +kernel
theorem dX8_add_132 : decode cX8_add 132 = .ok (.goto (-91), 3) := by decide +kernel
theorem dX8_add_135 : decode cX8_add 135 = .ok (.aload_n 0, 1) := by decide +kernel
theorem dX8_add_136 : decode cX8_add 136 = .ok (.getfield 7, 3) := by decide +kernel
theorem dX8_add_139 : decode cX8_add 139 = .ok (.iconst 0, 1) := by decide +kernel
theorem dX8_add_140 : decode cX8_add 140 = .ok (.iload_n 2, 1) := by decide +kernel
theorem dX8_add_141 : decode cX8_add 141 = .ok (.iconst 1, 1) := by decide +kernel
theorem dX8_add_142 : decode cX8_add 142 = .ok (.iadd, 1) := by decide +kernel
theorem dX8_add_143 : decode cX8_add 143 = .ok (.iastore, 1) := by decide +kernel
theorem dX8_add_144 : decode cX8_add 144 = .ok (.aload_n 0, 1) := by decide +kernel
theorem dX8_add_145 : decode cX8_add 145 = .ok (.invokevirtual 239, 3) := by decide +kernel
theorem dX8_add_148 : decode cX8_add 148 = .ok (.iload_n 2, 1) := by decide +kernel
theorem dX8_add_149 : decode cX8_add 149 = .ok (.ireturn, 1) := by decide +kernel
theorem dX8_plainly_0 : decode cX8_plainly 0 = .ok (.iconst (-1), 1) := by decide +kernel
theorem dX8_plainly_1 : decode cX8_plainly 1 = .ok (.istore_n 3, 1) := by decide +kernel
theorem dX8_plainly_2 : decode cX8_plainly 2 = .ok (.iconst 0, 1) := by decide +kernel
theorem dX8_plainly_3 : decode cX8_plainly 3 = .ok (.istore 4, 2) := by decide +kernel
theorem dX8_plainly_5 : decode cX8_plainly 5 = .ok (.iload 4, 2) := by decide +kernel
theorem dX8_plainly_7 : decode cX8_plainly 7 = .ok (.aload_n 0, 1) := by decide +kernel
theorem dX8_plainly_8 : decode cX8_plainly 8 = .ok (.getfield 251, 3) := by decide +kernel
theorem dX8_plainly_11 : decode cX8_plainly 11 = .ok (.if_icmp .ge 53, 3) := by decide +kernel
theorem dX8_plainly_14 : decode cX8_plainly 14 = .ok (.iload_n 2, 1) := by decide +kernel
theorem dX8_plainly_15 : decode cX8_plainly 15 = .ok (.iload 4, 2) := by decide +kernel
theorem dX8_plainly_17 : decode cX8_plainly 17 = .ok (.ishr, 1) := by decide +kernel
theorem dX8_plainly_18 : decode cX8_plainly 18 = .ok (.iconst 1, 1) := by decide +kernel
theorem dX8_plainly_19 : decode cX8_plainly 19 = .ok (.iand, 1) := by decide +kernel
theorem dX8_plainly_20 : decode cX8_plainly 20 = .ok (.iconst 1, 1) := by decide +kernel
theorem dX8_plainly_21 : decode cX8_plainly 21 = .ok (.if_icmp .ne 37, 3) := by decide +kernel
theorem dX8_plainly_24 : decode cX8_plainly 24 = .ok (.iload_n 3, 1) := by decide +kernel
theorem dX8_plainly_25 : decode cX8_plainly 25 = .ok (.iconst (-1), 1) := by decide +kernel
theorem dX8_plainly_26 : decode cX8_plainly 26 = .ok (.if_icmp .eq 29, 3) := by decide +kernel
theorem dX8_plainly_29 : decode cX8_plainly 29 = .ok (.aload_n 0, 1) := by decide +kernel
theorem dX8_plainly_30 : decode cX8_plainly 30 = .ok (.getfield 51, 3) := by decide +kernel
theorem dX8_plainly_33 : decode cX8_plainly 33 = .ok (.iload_n 1, 1) := by decide +kernel
theorem dX8_plainly_34 : decode cX8_plainly 34 = .ok (.bipush 10, 2) := by decide +kernel
theorem dX8_plainly_36 : decode cX8_plainly 36 = .ok (.imul, 1) := by decide +kernel
theorem dX8_plainly_37 : decode cX8_plainly 37 = .ok (.iload 4, 2) := by decide +kernel
theorem dX8_plainly_39 : decode cX8_plainly 39 = .ok (.iadd, 1) := by decide +kernel
theorem dX8_plainly_40 : decode cX8_plainly 40 = .ok (.iaload, 1) := by decide +kernel
theorem dX8_plainly_41 : decode cX8_plainly 41 = .ok (.aload_n 0, 1) := by decide +kernel
theorem dX8_plainly_42 : decode cX8_plainly 42 = .ok (.getfield 51, 3) := by decide +kernel
theorem dX8_plainly_45 : decode cX8_plainly 45 = .ok (.iload_n 1, 1) := by decide +kernel
theorem dX8_plainly_46 : decode cX8_plainly 46 = .ok (.bipush 10, 2) := by decide +kernel
theorem dX8_plainly_48 : decode cX8_plainly 48 = .ok (.imul, 1) := by decide +kernel
theorem dX8_plainly_49 : decode cX8_plainly 49 = .ok (.iload_n 3, 1) := by decide +kernel
theorem dX8_plainly_50 : decode cX8_plainly 50 = .ok (.iadd, 1) := by decide +kernel
theorem dX8_plainly_51 : decode cX8_plainly 51 = .ok (.iaload, 1) := by decide +kernel
theorem dX8_plainly_52 : decode cX8_plainly 52 = .ok (.if_icmp .lt 6, 3) := by decide +kernel
theorem dX8_plainly_55 : decode cX8_plainly 55 = .ok (.iload 4, 2) := by decide +kernel
theorem dX8_plainly_57 : decode cX8_plainly 57 = .ok (.istore_n 3, 1) := by decide +kernel
theorem dX8_plainly_58 : decode cX8_plainly 58 = .ok (.iinc 4 1, 3) := by decide +kernel
theorem dX8_plainly_61 : decode cX8_plainly 61 = .ok (.goto (-56), 3) := by decide +kernel
theorem dX8_plainly_64 : decode cX8_plainly 64 = .ok (.iload_n 3, 1) := by decide +kernel
theorem dX8_plainly_65 : decode cX8_plainly 65 = .ok (.ireturn, 1) := by decide +kernel
theorem dX8_plainEnd_0 : decode cX8_plainEnd 0 = .ok (.iconst 1, 1) := by decide +kernel
theorem dX8_plainEnd_1 : decode cX8_plainEnd 1 = .ok (.aload_n 0, 1) := by decide +kernel
theorem dX8_plainEnd_2 : decode cX8_plainEnd 2 = .ok (.getfield 251, 3) := by decide +kernel
theorem dX8_plainEnd_5 : decode cX8_plainEnd 5 = .ok (.ishl, 1) := by decide +kernel
theorem dX8_plainEnd_6 : decode cX8_plainEnd 6 = .ok (.iconst 1, 1) := by decide +kernel
theorem dX8_plainEnd_7 : decode cX8_plainEnd 7 = .ok (.isub, 1) := by decide +kernel
theorem dX8_plainEnd_8 : decode cX8_plainEnd 8 = .ok (.istore_n 2, 1) := by decide +kernel
theorem dX8_plainEnd_9 : decode cX8_plainEnd 9 = .ok (.iconst 0, 1) := by decide +kernel
theorem dX8_plainEnd_10 : decode cX8_plainEnd 10 = .ok (.istore_n 3, 1) := by decide +kernel
theorem dX8_plainEnd_11 : decode cX8_plainEnd 11 = .ok (.iload_n 3, 1) := by decide +kernel
theorem dX8_plainEnd_12 : decode cX8_plainEnd 12 = .ok (.iload_n 1, 1) := by decide +kernel
theorem dX8_plainEnd_13 : decode cX8_plainEnd 13 = .ok (.if_icmp .ge 31, 3) := by decide +kernel
theorem dX8_plainEnd_16 : decode cX8_plainEnd 16 = .ok (.aload_n 0, 1) := by decide +kernel
theorem dX8_plainEnd_17 : decode cX8_plainEnd 17 = .ok (.aload_n 0, 1) := by decide +kernel
theorem dX8_plainEnd_18 : decode cX8_plainEnd 18 = .ok (.getfield 63, 3) := by decide +kernel
theorem dX8_plainEnd_21 : decode cX8_plainEnd 21 = .ok (.iload_n 3, 1) := by decide +kernel
theorem dX8_plainEnd_22 : decode cX8_plainEnd 22 = .ok (.iaload, 1) := by decide +kernel
theorem dX8_plainEnd_23 : decode cX8_plainEnd 23 = .ok (.iload_n 2, 1) := by decide +kernel
theorem dX8_plainEnd_24 : decode cX8_plainEnd 24 = .ok (.invokevirtual 307, 3) := by decide +kernel
theorem dX8_plainEnd_27 : decode cX8_plainEnd 27 = .ok (.istore 4, 2) := by decide +kernel
theorem dX8_plainEnd_29 : decode cX8_plainEnd 29 = .ok (.iload_n 2, 1) := by decide +kernel
theorem dX8_plainEnd_30 : decode cX8_plainEnd 30 = .ok (.iconst 1, 1) := by decide +kernel
theorem dX8_plainEnd_31 : decode cX8_plainEnd 31 = .ok (.iload 4, 2) := by decide +kernel
theorem dX8_plainEnd_33 : decode cX8_plainEnd 33 = .ok (.ishl, 1) := by decide +kernel
theorem dX8_plainEnd_34 : decode cX8_plainEnd 34 = .ok (.iconst (-1), 1) := by decide +kernel
theorem dX8_plainEnd_35 : decode cX8_plainEnd 35 = .ok (.ixor, 1) := by decide +kernel
theorem dX8_plainEnd_36 : decode cX8_plainEnd 36 = .ok (.iand, 1) := by decide +kernel
theorem dX8_plainEnd_37 : decode cX8_plainEnd 37 = .ok (.istore_n 2, 1) := by decide +kernel
theorem dX8_plainEnd_38 : decode cX8_plainEnd 38 = .ok (.iinc 3 1, 3) := by decide +kernel
theorem dX8_plainEnd_41 : decode cX8_plainEnd 41 = .ok (.goto (-30), 3) := by decide +kernel
theorem dX8_plainEnd_44 : decode cX8_plainEnd 44 = .ok (.iload_n 2, 1) := by decide +kernel
theorem dX8_plainEnd_45 : decode cX8_plainEnd 45 = .ok (.ireturn, 1) := by decide +kernel
theorem dX8_takeTurns_0 : decode cX8_takeTurns 0 = .ok (.aload_n 0, 1) := by decide +kernel
theorem dX8_takeTurns_1 : decode cX8_takeTurns 1 = .ok (.invokevirtual 258, 3) := by decide +kernel
theorem dX8_takeTurns_4 : decode cX8_takeTurns 4 = .ok (.iconst 0, 1) := by decide +kernel
theorem dX8_takeTurns_5 : decode cX8_takeTurns 5 = .ok (.istore_n 1, 1) := by decide +kernel
theorem dX8_takeTurns_6 : decode cX8_takeTurns 6 = .ok (.iload_n 1, 1) := by decide +kernel
theorem dX8_takeTurns_7 : decode cX8_takeTurns 7 = .ok (.aload_n 0, 1) := by decide +kernel
theorem dX8_takeTurns_8 : decode cX8_takeTurns 8 = .ok (.getfield 25, 3) := by decide +kernel
theorem dX8_takeTurns_11 : decode cX8_takeTurns 11 = .ok (.iconst 0, 1) := by decide +kernel
theorem dX8_takeTurns_12 : decode cX8_takeTurns 12 = .ok (.iaload, 1) := by decide +kernel
theorem dX8_takeTurns_13 : decode cX8_takeTurns 13 = .ok (.if_icmp .ge 21, 3) := by decide +kernel
theorem dX8_takeTurns_16 : decode cX8_takeTurns 16 = .ok (.aload_n 0, 1) := by decide +kernel
theorem dX8_takeTurns_17 : decode cX8_takeTurns 17 = .ok (.getfield 63, 3) := by decide +kernel
theorem dX8_takeTurns_20 : decode cX8_takeTurns 20 = .ok (.iload_n 1, 1) := by decide +kernel
theorem dX8_takeTurns_21 : decode cX8_takeTurns 21 = .ok (.aload_n 0, 1) := by decide +kernel
theorem dX8_takeTurns_22 : decode cX8_takeTurns 22 = .ok (.getfield 37, 3) := by decide +kernel
theorem dX8_takeTurns_25 : decode cX8_takeTurns 25 = .ok (.iload_n 1, 1) := by decide +kernel
theorem dX8_takeTurns_26 : decode cX8_takeTurns 26 = .ok (.iaload, 1) := by decide +kernel
theorem dX8_takeTurns_27 : decode cX8_takeTurns 27 = .ok (.iastore, 1) := by decide +kernel
theorem dX8_takeTurns_28 : decode cX8_takeTurns 28 = .ok (.iinc 1 1, 3) := by decide +kernel
theorem dX8_takeTurns_31 : decode cX8_takeTurns 31 = .ok (.goto (-25), 3) := by decide +kernel
theorem dX8_takeTurns_34 : decode cX8_takeTurns 34 = .ok (.return_, 1) := by decide +kernel
theorem dX8_some_0 : decode cX8_some 0 = .ok (.aload_n 0, 1) := by decide +kernel
theorem dX8_some_1 : decode cX8_some 1 = .ok (.iconst 0, 1) := by decide +kernel
theorem dX8_some_2 : decode cX8_some 2 = .ok (.putfield 117, 3) := by decide +kernel
theorem dX8_some_5 : decode cX8_some 5 = .ok (.iconst 0, 1) := by decide +kernel
theorem dX8_some_6 : decode cX8_some 6 = .ok (.istore_n 2, 1) := by decide +kernel
theorem dX8_some_7 : decode cX8_some 7 = .ok (.aload_n 0, 1) := by decide +kernel
theorem dX8_some_8 : decode cX8_some 8 = .ok (.getfield 13, 3) := by decide +kernel
theorem dX8_some_11 : decode cX8_some 11 = .ok (.iconst 0, 1) := by decide +kernel
theorem dX8_some_12 : decode cX8_some 12 = .ok (.iaload, 1) := by decide +kernel
theorem dX8_some_13 : decode cX8_some 13 = .ok (.istore_n 3, 1) := by decide +kernel
theorem dX8_some_14 : decode cX8_some 14 = .ok (.iconst 0, 1) := by decide +kernel
theorem dX8_some_15 : decode cX8_some 15 = .ok (.istore 4, 2) := by decide +kernel
theorem dX8_some_17 : decode cX8_some 17 = .ok (.iload 4, 2) := by decide +kernel
theorem dX8_some_19 : decode cX8_some 19 = .ok (.iload_n 3, 1) := by decide +kernel
theorem dX8_some_20 : decode cX8_some 20 = .ok (.if_icmp .ge 49, 3) := by decide +kernel
theorem dX8_some_23 : decode cX8_some 23 = .ok (.iload_n 1, 1) := by decide +kernel
theorem dX8_some_24 : decode cX8_some 24 = .ok (.iconst 3, 1) := by decide +kernel
theorem dX8_some_25 : decode cX8_some 25 = .ok (.iload 4, 2) := by decide +kernel
theorem dX8_some_27 : decode cX8_some 27 = .ok (.imul, 1) := by decide +kernel
theorem dX8_some_28 : decode cX8_some 28 = .ok (.ishr, 1) := by decide +kernel
theorem dX8_some_29 : decode cX8_some 29 = .ok (.bipush 7, 2) := by decide +kernel
theorem dX8_some_31 : decode cX8_some 31 = .ok (.iand, 1) := by decide +kernel
theorem dX8_some_32 : decode cX8_some 32 = .ok (.istore 5, 2) := by decide +kernel
theorem dX8_some_34 : decode cX8_some 34 = .ok (.iload 5, 2) := by decide +kernel
theorem dX8_some_36 : decode cX8_some 36 = .ok (.iload_n 3, 1) := by decide +kernel
theorem dX8_some_37 : decode cX8_some 37 = .ok (.if_icmp .ge 13, 3) := by decide +kernel
theorem dX8_some_40 : decode cX8_some 40 = .ok (.iload_n 2, 1) := by decide +kernel
theorem dX8_some_41 : decode cX8_some 41 = .ok (.iload 5, 2) := by decide +kernel
theorem dX8_some_43 : decode cX8_some 43 = .ok (.ishr, 1) := by decide +kernel
theorem dX8_some_44 : decode cX8_some 44 = .ok (.iconst 1, 1) := by decide +kernel
theorem dX8_some_45 : decode cX8_some 45 = .ok (.iand, 1) := by decide +kernel
theorem dX8_some_46 : decode cX8_some 46 = .ok (.iconst 1, 1) := by decide +kernel
theorem dX8_some_47 : decode cX8_some 47 = .ok (.if_icmp .ne 9, 3) := by decide +kernel
theorem dX8_some_50 : decode cX8_some 50 = .ok (.aload_n 0, 1) := by decide +kernel
theorem dX8_some_51 : decode cX8_some 51 = .ok (.iconst 1, 1) := by decide +kernel
theorem dX8_some_52 : decode cX8_some 52 = .ok (.invokevirtual 232, 3) := by decide +kernel
theorem dX8_some_55 : decode cX8_some 55 = .ok (.ireturn, 1) := by decide +kernel
theorem dX8_some_56 : decode cX8_some 56 = .ok (.iload_n 2, 1) := by decide +kernel
theorem dX8_some_57 : decode cX8_some 57 = .ok (.iconst 1, 1) := by decide +kernel
theorem dX8_some_58 : decode cX8_some 58 = .ok (.iload 5, 2) := by decide +kernel
theorem dX8_some_60 : decode cX8_some 60 = .ok (.ishl, 1) := by decide +kernel
theorem dX8_some_61 : decode cX8_some 61 = .ok (.ior, 1) := by decide +kernel
theorem dX8_some_62 : decode cX8_some 62 = .ok (.istore_n 2, 1) := by decide +kernel
theorem dX8_some_63 : decode cX8_some 63 = .ok (.iinc 4 1, 3) := by decide +kernel
theorem dX8_some_66 : decode cX8_some 66 = .ok (.goto (-49), 3) := by decide +kernel
theorem dX8_some_69 : decode cX8_some 69 = .ok (.aload_n 0, 1) := by decide +kernel
theorem dX8_some_70 : decode cX8_some 70 = .ok (.invokevirtual 258, 3) := by decide +kernel
theorem dX8_some_73 : decode cX8_some 73 = .ok (.iconst 1, 1) := by decide +kernel
theorem dX8_some_74 : decode cX8_some 74 = .ok (.aload_n 0, 1) := by decide +kernel
theorem dX8_some_75 : decode cX8_some 75 = .ok (.getfield 251, 3) := by decide +kernel
theorem dX8_some_78 : decode cX8_some 78 = .ok (.ishl, 1) := by decide +kernel
theorem dX8_some_79 : decode cX8_some 79 = .ok (.iconst 1, 1) := by decide +kernel
theorem dX8_some_80 : decode cX8_some 80 = .ok (.isub, 1) := by decide +kernel
theorem dX8_some_81 : decode cX8_some 81 = .ok (.istore 4, 2) := by decide +kernel
theorem dX8_some_83 : decode cX8_some 83 = .ok (.iconst 0, 1) := by decide +kernel
theorem dX8_some_84 : decode cX8_some 84 = .ok (.istore 5, 2) := by decide +kernel
theorem dX8_some_86 : decode cX8_some 86 = .ok (.iload 5, 2) := by decide +kernel
theorem dX8_some_88 : decode cX8_some 88 = .ok (.iload_n 3, 1) := by decide +kernel
theorem dX8_some_89 : decode cX8_some 89 = .ok (.if_icmp .ge 84, 3) := by decide +kernel
theorem dX8_some_92 : decode cX8_some 92 = .ok (.iload_n 1, 1) := by decide +kernel
theorem dX8_some_93 : decode cX8_some 93 = .ok (.iconst 3, 1) := by decide +kernel
theorem dX8_some_94 : decode cX8_some 94 = .ok (.iload 5, 2) := by decide +kernel
theorem dX8_some_96 : decode cX8_some 96 = .ok (.imul, 1) := by decide +kernel
theorem dX8_some_97 : decode cX8_some 97 = .ok (.ishr, 1) := by decide +kernel
theorem dX8_some_98 : decode cX8_some 98 = .ok (.bipush 7, 2) := by decide +kernel
theorem dX8_some_100 : decode cX8_some 100 = .ok (.iand, 1) := by decide +kernel
theorem dX8_some_101 : decode cX8_some 101 = .ok (.istore 6, 2) := by decide +kernel
theorem dX8_some_103 : decode cX8_some 103 = .ok (.aload_n 0, 1) := by decide +kernel
theorem dX8_some_104 : decode cX8_some 104 = .ok (.iconst 1, 1) := by decide +kernel
theorem dX8_some_105 : decode cX8_some 105 = .ok (.iload 6, 2) := by decide +kernel
theorem dX8_some_107 : decode cX8_some 107 = .ok (.ishl, 1) := by decide +kernel
theorem dX8_some_108 : decode cX8_some 108 = .ok (.aload_n 0, 1) := by decide +kernel
theorem dX8_some_109 : decode cX8_some 109 = .ok (.invokevirtual 270, 3) := by decide +kernel
theorem dX8_some_112 : decode cX8_some 112 = .ok (.aload_n 0, 1) := by decide +kernel
theorem dX8_some_113 : decode cX8_some 113 = .ok (.getfield 251, 3) := by decide +kernel
theorem dX8_some_116 : decode cX8_some 116 = .ok (.invokevirtual 273, 3) := by decide +kernel
theorem dX8_some_119 : decode cX8_some 119 = .ok (.istore 7, 2) := by decide +kernel
theorem dX8_some_121 : decode cX8_some 121 = .ok (.iconst 0, 1) := by decide +kernel
theorem dX8_some_122 : decode cX8_some 122 = .ok (.istore 8, 2) := by decide +kernel
theorem dX8_some_124 : decode cX8_some 124 = .ok (.iload 8, 2) := by decide +kernel
theorem dX8_some_126 : decode cX8_some 126 = .ok (.iload 7, 2) := by decide +kernel
theorem dX8_some_128 : decode cX8_some 128 = .ok (.if_icmp .ge 39, 3) := by decide +kernel
theorem dX8_some_131 : decode cX8_some 131 = .ok (.iload 4, 2) := by decide +kernel
theorem dX8_some_133 : decode cX8_some 133 = .ok (.invokestatic 267, 3) := by decide +kernel
theorem dX8_some_136 : decode cX8_some 136 = .ok (.iconst 1, 1) := by decide +kernel
theorem dX8_some_137 : decode cX8_some 137 = .ok (.if_icmp .le 30, 3) := by decide +kernel
theorem dX8_some_140 : decode cX8_some 140 = .ok (.aload_n 0, 1) := by decide +kernel
theorem dX8_some_141 : decode cX8_some 141 = .ok (.iload 6, 2) := by decide +kernel
theorem dX8_some_143 : decode cX8_some 143 = .ok (.iload 4, 2) := by decide +kernel
theorem dX8_some_145 : decode cX8_some 145 = .ok (.invokevirtual 307, 3) := by decide +kernel
theorem dX8_some_148 : decode cX8_some 148 = .ok (.istore 9, 2) := by decide +kernel
theorem dX8_some_150 : decode cX8_some 150 = .ok (.iload 4, 2) := by decide +kernel
theorem dX8_some_152 : decode cX8_some 152 = .ok (.iconst 1, 1) := by decide +kernel
theorem dX8_some_153 : decode cX8_some 153 = .ok (.iload 9, 2) := by decide +kernel
theorem dX8_some_155 : decode cX8_some 155 = .ok (.ishl, 1) := by decide +kernel
theorem dX8_some_156 : decode cX8_some 156 = .ok (.iconst (-1), 1) := by decide +kernel
theorem dX8_some_157 : decode cX8_some 157 = .ok (.ixor, 1) := by decide +kernel
theorem dX8_some_158 : decode cX8_some 158 = .ok (.iand, 1) := by decide +kernel
theorem dX8_some_159 : decode cX8_some 159 = .ok (.istore 4, 2) := by decide +kernel
theorem dX8_some_161 : decode cX8_some 161 = .ok (.iinc 8 1, 3) := by decide +kernel
theorem dX8_some_164 : decode cX8_some 164 = .ok (.goto (-40), 3) := by decide +kernel
theorem dX8_some_167 : decode cX8_some 167 = .ok (.iinc 5 1, 3) := by decide +kernel
theorem dX8_some_170 : decode cX8_some 170 = .ok (.goto (-84), 3) := by decide +kernel
theorem dX8_some_173 : decode cX8_some 173 = .ok (.iload 4, 2) := by decide +kernel
theorem dX8_some_175 : decode cX8_some 175 = .ok (.ireturn, 1) := by decide +kernel
theorem dX8_plain_0 : decode cX8_plain 0 = .ok (.aload_n 0, 1) := by decide +kernel
theorem dX8_plain_1 : decode cX8_plain 1 = .ok (.iconst 0, 1) := by decide +kernel
theorem dX8_plain_2 : decode cX8_plain 2 = .ok (.putfield 117, 3) := by decide +kernel
theorem dX8_plain_5 : decode cX8_plain 5 = .ok (.aload_n 0, 1) := by decide +kernel
theorem dX8_plain_6 : decode cX8_plain 6 = .ok (.invokevirtual 310, 3) := by decide +kernel
theorem dX8_plain_9 : decode cX8_plain 9 = .ok (.aload_n 0, 1) := by decide +kernel
theorem dX8_plain_10 : decode cX8_plain 10 = .ok (.aload_n 0, 1) := by decide +kernel
theorem dX8_plain_11 : decode cX8_plain 11 = .ok (.getfield 25, 3) := by decide +kernel
theorem dX8_plain_14 : decode cX8_plain 14 = .ok (.iconst 0, 1) := by decide +kernel
theorem dX8_plain_15 : decode cX8_plain 15 = .ok (.iaload, 1) := by decide +kernel
theorem dX8_plain_16 : decode cX8_plain 16 = .ok (.invokevirtual 313, 3) := by decide +kernel
theorem dX8_plain_19 : decode cX8_plain 19 = .ok (.ireturn, 1) := by decide +kernel
theorem dX8_back_0 : decode cX8_back 0 = .ok (.aload_n 0, 1) := by decide +kernel
theorem dX8_back_1 : decode cX8_back 1 = .ok (.iconst 0, 1) := by decide +kernel
theorem dX8_back_2 : decode cX8_back 2 = .ok (.putfield 117, 3) := by decide +kernel
theorem dX8_back_5 : decode cX8_back 5 = .ok (.aload_n 0, 1) := by decide +kernel
theorem dX8_back_6 : decode cX8_back 6 = .ok (.invokevirtual 258, 3) := by decide +kernel
theorem dX8_back_9 : decode cX8_back 9 = .ok (.aload_n 0, 1) := by decide +kernel
theorem dX8_back_10 : decode cX8_back 10 = .ok (.getfield 25, 3) := by decide +kernel
theorem dX8_back_13 : decode cX8_back 13 = .ok (.iconst 0, 1) := by decide +kernel
theorem dX8_back_14 : decode cX8_back 14 = .ok (.iaload, 1) := by decide +kernel
theorem dX8_back_15 : decode cX8_back 15 = .ok (.istore_n 1, 1) := by decide +kernel
theorem dX8_back_16 : decode cX8_back 16 = .ok (.iconst 0, 1) := by decide +kernel
theorem dX8_back_17 : decode cX8_back 17 = .ok (.istore_n 2, 1) := by decide +kernel
theorem dX8_back_18 : decode cX8_back 18 = .ok (.iload_n 2, 1) := by decide +kernel
theorem dX8_back_19 : decode cX8_back 19 = .ok (.iload_n 1, 1) := by decide +kernel
theorem dX8_back_20 : decode cX8_back 20 = .ok (.if_icmp .ge 25, 3) := by decide +kernel
theorem dX8_back_23 : decode cX8_back 23 = .ok (.aload_n 0, 1) := by decide +kernel
theorem dX8_back_24 : decode cX8_back 24 = .ok (.getfield 63, 3) := by decide +kernel
theorem dX8_back_27 : decode cX8_back 27 = .ok (.iload_n 2, 1) := by decide +kernel
theorem dX8_back_28 : decode cX8_back 28 = .ok (.aload_n 0, 1) := by decide +kernel
theorem dX8_back_29 : decode cX8_back 29 = .ok (.getfield 37, 3) := by decide +kernel
theorem dX8_back_32 : decode cX8_back 32 = .ok (.iload_n 1, 1) := by decide +kernel
theorem dX8_back_33 : decode cX8_back 33 = .ok (.iconst 1, 1) := by decide +kernel
theorem dX8_back_34 : decode cX8_back 34 = .ok (.isub, 1) := by decide +kernel
theorem dX8_back_35 : decode cX8_back 35 = .ok (.iload_n 2, 1) := by decide +kernel
theorem dX8_back_36 : decode cX8_back 36 = .ok (.isub, 1) := by decide +kernel
theorem dX8_back_37 : decode cX8_back 37 = .ok (.iaload, 1) := by decide +kernel
theorem dX8_back_38 : decode cX8_back 38 = .ok (.iastore, 1) := by decide +kernel
theorem dX8_back_39 : decode cX8_back 39 = .ok (.iinc 2 1, 3) := by decide +kernel
theorem dX8_back_42 : decode cX8_back 42 = .ok (.goto (-24), 3) := by decide +kernel
theorem dX8_back_45 : decode cX8_back 45 = .ok (.aload_n 0, 1) := by decide +kernel
theorem dX8_back_46 : decode cX8_back 46 = .ok (.iload_n 1, 1) := by decide +kernel
theorem dX8_back_47 : decode cX8_back 47 = .ok (.invokevirtual 313, 3) := by decide +kernel
theorem dX8_back_50 : decode cX8_back 50 = .ok (.ireturn, 1) := by decide +kernel
theorem dX8_go_0 : decode cX8_go 0 = .ok (.iload_n 1, 1) := by decide +kernel
theorem dX8_go_1 : decode cX8_go 1 = .ok (.aload_n 0, 1) := by decide +kernel
theorem dX8_go_2 : decode cX8_go 2 = .ok (.getfield 25, 3) := by decide +kernel
theorem dX8_go_5 : decode cX8_go 5 = .ok (.iconst 0, 1) := by decide +kernel
theorem dX8_go_6 : decode cX8_go 6 = .ok (.iaload, 1) := by decide +kernel
theorem dX8_go_7 : decode cX8_go 7 = .ok (.if_icmp .ne 34, 3) := by decide +kernel
theorem dX8_go_10 : decode cX8_go 10 = .ok (.aload_n 0, 1) := by decide +kernel
theorem dX8_go_11 : decode cX8_go 11 = .ok (.dup, 1) := by decide +kernel
theorem dX8_go_12 : decode cX8_go 12 = .ok (.getfield 316, 3) := by decide +kernel
theorem dX8_go_15 : decode cX8_go 15 = .ok (.iload_n 2, 1) := by decide +kernel
theorem dX8_go_16 : decode cX8_go 16 = .ok (.ior, 1) := by decide +kernel
theorem dX8_go_17 : decode cX8_go 17 = .ok (.putfield 316, 3) := by decide +kernel
theorem dX8_go_20 : decode cX8_go 20 = .ok (.aload_n 0, 1) := by decide +kernel
theorem dX8_go_21 : decode cX8_go 21 = .ok (.dup, 1) := by decide +kernel
theorem dX8_go_22 : decode cX8_go 22 = .ok (.getfield 319, 3) := by decide +kernel
theorem dX8_go_25 : decode cX8_go 25 = .ok (.iload_n 2, 1) := by decide +kernel
theorem dX8_go_26 : decode cX8_go 26 = .ok (.iand, 1) := by decide +kernel
theorem dX8_go_27 : decode cX8_go 27 = .ok (.putfield 319, 3) := by decide +kernel
theorem dX8_go_30 : decode cX8_go 30 = .ok (.aload_n 0, 1) := by decide +kernel
theorem dX8_go_31 : decode cX8_go 31 = .ok (.dup, 1) := by decide +kernel
theorem dX8_go_32 : decode cX8_go 32 = .ok (.getfield 322, 3) := by decide +kernel
theorem dX8_go_35 : decode cX8_go 35 = .ok (.iconst 1, 1) := by decide +kernel
theorem dX8_go_36 : decode cX8_go 36 = .ok (.iadd, 1) := by decide +kernel
theorem dX8_go_37 : decode cX8_go 37 = .ok (.putfield 322, 3) := by decide +kernel
theorem dX8_go_40 : decode cX8_go 40 = .ok (.return_, 1) := by decide +kernel
theorem dX8_go_41 : decode cX8_go 41 = .ok (.iconst 0, 1) := by decide +kernel
theorem dX8_go_42 : decode cX8_go 42 = .ok (.istore_n 3, 1) := by decide +kernel
theorem dX8_go_43 : decode cX8_go 43 = .ok (.iload_n 3, 1) := by decide +kernel
theorem dX8_go_44 : decode cX8_go 44 = .ok (.aload_n 0, 1) := by decide +kernel
theorem dX8_go_45 : decode cX8_go 45 = .ok (.getfield 13, 3) := by decide +kernel
theorem dX8_go_48 : decode cX8_go 48 = .ok (.iconst 0, 1) := by decide +kernel
theorem dX8_go_49 : decode cX8_go 49 = .ok (.iaload, 1) := by decide +kernel
theorem dX8_go_50 : decode cX8_go 50 = .ok (.if_icmp .ge 64, 3) := by decide +kernel
theorem dX8_go_53 : decode cX8_go 53 = .ok (.aload_n 0, 1) := by decide +kernel
theorem dX8_go_54 : decode cX8_go 54 = .ok (.getfield 66, 3) := by decide +kernel
theorem dX8_go_57 : decode cX8_go 57 = .ok (.iload_n 3, 1) := by decide +kernel
theorem dX8_go_58 : decode cX8_go 58 = .ok (.iaload, 1) := by decide +kernel
theorem dX8_go_59 : decode cX8_go 59 = .ok (.ifCond .ne 6, 3) := by decide +kernel
theorem dX8_go_62 : decode cX8_go 62 = .ok (.goto 46, 3) := by decide +kernel
theorem dX8_go_65 : decode cX8_go 65 = .ok (.aload_n 0, 1) := by decide +kernel
theorem dX8_go_66 : decode cX8_go 66 = .ok (.getfield 66, 3) := by decide +kernel
theorem dX8_go_69 : decode cX8_go 69 = .ok (.iload_n 3, 1) := by decide +kernel
theorem dX8_go_70 : decode cX8_go 70 = .ok (.dup2, 1) := by decide +kernel
theorem dX8_go_71 : decode cX8_go 71 = .ok (.iaload, 1) := by decide +kernel
theorem dX8_go_72 : decode cX8_go 72 = .ok (.iconst 1, 1) := by decide +kernel
theorem dX8_go_73 : decode cX8_go 73 = .ok (.isub, 1) := by decide +kernel
theorem dX8_go_74 : decode cX8_go 74 = .ok (.iastore, 1) := by decide +kernel
theorem dX8_go_75 : decode cX8_go 75 = .ok (.aload_n 0, 1) := by decide +kernel
theorem dX8_go_76 : decode cX8_go 76 = .ok (.iload_n 3, 1) := by decide +kernel
theorem dX8_go_77 : decode cX8_go 77 = .ok (.iload_n 2, 1) := by decide +kernel
theorem dX8_go_78 : decode cX8_go 78 = .ok (.invokevirtual 307, 3) := by decide +kernel
theorem dX8_go_81 : decode cX8_go 81 = .ok (.istore 4, 2) := by decide +kernel
theorem dX8_go_83 : decode cX8_go 83 = .ok (.aload_n 0, 1) := by decide +kernel
theorem dX8_go_84 : decode cX8_go 84 = .ok (.iload_n 1, 1) := by decide +kernel
theorem dX8_go_85 : decode cX8_go 85 = .ok (.iconst 1, 1) := by decide +kernel
theorem dX8_go_86 : decode cX8_go 86 = .ok (.iadd, 1) := by decide +kernel
theorem dX8_go_87 : decode cX8_go 87 = .ok (.iload_n 2, 1) := by decide +kernel
theorem dX8_go_88 : decode cX8_go 88 = .ok (.iconst 1, 1) := by decide +kernel
theorem dX8_go_89 : decode cX8_go 89 = .ok (.iload 4, 2) := by decide +kernel
theorem dX8_go_91 : decode cX8_go 91 = .ok (.ishl, 1) := by decide +kernel
theorem dX8_go_92 : decode cX8_go 92 = .ok (.iconst (-1), 1) := by decide +kernel
theorem dX8_go_93 : decode cX8_go 93 = .ok (.ixor, 1) := by decide +kernel
theorem dX8_go_94 : decode cX8_go 94 = .ok (.iand, 1) := by decide +kernel
theorem dX8_go_95 : decode cX8_go 95 = .ok (.invokevirtual 325, 3) := by decide +kernel
theorem dX8_go_98 : decode cX8_go 98 = .ok (.aload_n 0, 1) := by decide +kernel
theorem dX8_go_99 : decode cX8_go 99 = .ok (.getfield 66, 3) := by decide +kernel
theorem dX8_go_102 : decode cX8_go 102 = .ok (.iload_n 3, 1) := by decide +kernel
theorem dX8_go_103 : decode cX8_go 103 = .ok (.dup2, 1) := by decide +kernel
theorem dX8_go_104 : decode cX8_go 104 = .ok (.iaload, 1) := by decide +kernel
theorem dX8_go_105 : decode cX8_go 105 = .ok (.iconst 1, 1) := by decide +kernel
theorem dX8_go_106 : decode cX8_go 106 = .ok (.iadd, 1) := by decide +kernel
theorem dX8_go_107 : decode cX8_go 107 = .ok (.iastore, 1) := by decide +kernel
theorem dX8_go_108 : decode cX8_go 108 = .ok (.iinc 3 1, 3) := by decide +kernel
theorem dX8_go_111 : decode cX8_go 111 = .ok (.goto (-68), 3) := by decide +kernel
theorem dX8_go_114 : decode cX8_go 114 = .ok (.return_, 1) := by decide +kernel
theorem dX8_rows_0 : decode cX8_rows 0 = .ok (.aload_n 0, 1) := by decide +kernel
theorem dX8_rows_1 : decode cX8_rows 1 = .ok (.iconst 0, 1) := by decide +kernel
theorem dX8_rows_2 : decode cX8_rows 2 = .ok (.putfield 117, 3) := by decide +kernel
theorem dX8_rows_5 : decode cX8_rows 5 = .ok (.iload_n 1, 1) := by decide +kernel
theorem dX8_rows_6 : decode cX8_rows 6 = .ok (.ifCond .lt 8, 3) := by decide +kernel
theorem dX8_rows_9 : decode cX8_rows 9 = .ok (.iload_n 1, 1) := by decide +kernel
theorem dX8_rows_10 : decode cX8_rows 10 = .ok (.iconst 2, 1) := by decide +kernel
theorem dX8_rows_11 : decode cX8_rows 11 = .ok (.if_icmp .le 9, 3) := by decide +kernel
theorem dX8_rows_14 : decode cX8_rows 14 = .ok (.aload_n 0, 1) := by decide +kernel
theorem dX8_rows_15 : decode cX8_rows 15 = .ok (.iconst 1, 1) := by decide +kernel
theorem dX8_rows_16 : decode cX8_rows 16 = .ok (.invokevirtual 232, 3) := by decide +kernel
theorem dX8_rows_19 : decode cX8_rows 19 = .ok (.ireturn, 1) := by decide +kernel
theorem dX8_rows_20 : decode cX8_rows 20 = .ok (.aload_n 0, 1) := by decide +kernel
theorem dX8_rows_21 : decode cX8_rows 21 = .ok (.getfield 69, 3) := by decide +kernel
theorem dX8_rows_24 : decode cX8_rows 24 = .ok (.aload_n 0, 1) := by decide +kernel
theorem dX8_rows_25 : decode cX8_rows 25 = .ok (.getfield 242, 3) := by decide +kernel
theorem dX8_rows_28 : decode cX8_rows 28 = .ok (.if_icmp .eq 100, 3) := by decide +kernel
theorem dX8_rows_31 : decode cX8_rows 31 = .ok (.aload_n 0, 1) := by decide +kernel
theorem dX8_rows_32 : decode cX8_rows 32 = .ok (.aload_n 0, 1) := by decide +kernel
theorem dX8_rows_33 : decode cX8_rows 33 = .ok (.getfield 242, 3) := by decide +kernel
theorem dX8_rows_36 : decode cX8_rows 36 = .ok (.putfield 69, 3) := by decide +kernel
theorem dX8_rows_39 : decode cX8_rows 39 = .ok (.aload_n 0, 1) := by decide +kernel
theorem dX8_rows_40 : decode cX8_rows 40 = .ok (.invokevirtual 258, 3) := by decide +kernel
theorem dX8_rows_43 : decode cX8_rows 43 = .ok (.iconst 0, 1) := by decide +kernel
theorem dX8_rows_44 : decode cX8_rows 44 = .ok (.istore_n 2, 1) := by decide +kernel
theorem dX8_rows_45 : decode cX8_rows 45 = .ok (.iload_n 2, 1) := by decide +kernel
theorem dX8_rows_46 : decode cX8_rows 46 = .ok (.bipush 8, 2) := by decide +kernel
theorem dX8_rows_48 : decode cX8_rows 48 = .ok (.if_icmp .ge 16, 3) := by decide +kernel
theorem dX8_rows_51 : decode cX8_rows 51 = .ok (.aload_n 0, 1) := by decide +kernel
theorem dX8_rows_52 : decode cX8_rows 52 = .ok (.getfield 66, 3) := by decide +kernel
theorem dX8_rows_55 : decode cX8_rows 55 = .ok (.iload_n 2, 1) := by decide +kernel
theorem dX8_rows_56 : decode cX8_rows 56 = .ok (.iconst 0, 1) := by decide +kernel
theorem dX8_rows_57 : decode cX8_rows 57 = .ok (.iastore, 1) := by decide +kernel
theorem dX8_rows_58 : decode cX8_rows 58 = .ok (.iinc 2 1, 3) := by decide +kernel
theorem dX8_rows_61 : decode cX8_rows 61 = .ok (.goto (-16), 3) := by decide +kernel
theorem dX8_rows_64 : decode cX8_rows 64 = .ok (.iconst 0, 1) := by decide +kernel
theorem dX8_rows_65 : decode cX8_rows 65 = .ok (.istore_n 2, 1) := by decide +kernel
theorem dX8_rows_66 : decode cX8_rows 66 = .ok (.iload_n 2, 1) := by decide +kernel
theorem dX8_rows_67 : decode cX8_rows 67 = .ok (.aload_n 0, 1) := by decide +kernel
theorem dX8_rows_68 : decode cX8_rows 68 = .ok (.getfield 25, 3) := by decide +kernel
theorem dX8_rows_71 : decode cX8_rows 71 = .ok (.iconst 0, 1) := by decide +kernel
theorem dX8_rows_72 : decode cX8_rows 72 = .ok (.iaload, 1) := by decide +kernel
theorem dX8_rows_73 : decode cX8_rows 73 = .ok (.if_icmp .ge 24, 3) := by decide +kernel
theorem dX8_rows_76 : decode cX8_rows 76 = .ok (.aload_n 0, 1) := by decide +kernel
theorem dX8_rows_77 : decode cX8_rows 77 = .ok (.getfield 66, 3) := by decide +kernel
theorem dX8_rows_80 : decode cX8_rows 80 = .ok (.aload_n 0, 1) := by decide +kernel
theorem dX8_rows_81 : decode cX8_rows 81 = .ok (.getfield 37, 3) := by decide +kernel
theorem dX8_rows_84 : decode cX8_rows 84 = .ok (.iload_n 2, 1) := by decide +kernel
theorem dX8_rows_85 : decode cX8_rows 85 = .ok (.iaload, 1) := by decide +kernel
theorem dX8_rows_86 : decode cX8_rows 86 = .ok (.dup2, 1) := by decide +kernel
theorem dX8_rows_87 : decode cX8_rows 87 = .ok (.iaload, 1) := by decide +kernel
theorem dX8_rows_88 : decode cX8_rows 88 = .ok (.iconst 1, 1) := by decide +kernel
theorem dX8_rows_89 : decode cX8_rows 89 = .ok (.iadd, 1) := by decide +kernel
theorem dX8_rows_90 : decode cX8_rows 90 = .ok (.iastore, 1) := by decide +kernel
theorem dX8_rows_91 : decode cX8_rows 91 = .ok (.iinc 2 1, 3) := by decide +kernel
theorem dX8_rows_94 : decode cX8_rows 94 = .ok (.goto (-28), 3) := by decide +kernel
theorem dX8_rows_97 : decode cX8_rows 97 = .ok (.aload_n 0, 1) := by decide +kernel
theorem dX8_rows_98 : decode cX8_rows 98 = .ok (.iconst 0, 1) := by decide +kernel
theorem dX8_rows_99 : decode cX8_rows 99 = .ok (.putfield 316, 3) := by decide +kernel
theorem dX8_rows_102 : decode cX8_rows 102 = .ok (.aload_n 0, 1) := by decide +kernel
theorem dX8_rows_103 : decode cX8_rows 103 = .ok (.iconst 1, 1) := by decide +kernel
theorem dX8_rows_104 : decode cX8_rows 104 = .ok (.aload_n 0, 1) := by decide +kernel
theorem dX8_rows_105 : decode cX8_rows 105 = .ok (.getfield 251, 3) := by decide +kernel
theorem dX8_rows_108 : decode cX8_rows 108 = .ok (.ishl, 1) := by decide +kernel
theorem dX8_rows_109 : decode cX8_rows 109 = .ok (.iconst 1, 1) := by decide +kernel
theorem dX8_rows_110 : decode cX8_rows 110 = .ok (.isub, 1) := by decide +kernel
theorem dX8_rows_111 : decode cX8_rows 111 = .ok (.putfield 319, 3) := by decide +kernel
theorem dX8_rows_114 : decode cX8_rows 114 = .ok (.aload_n 0, 1) := by decide +kernel
theorem dX8_rows_115 : decode cX8_rows 115 = .ok (.iconst 0, 1) := by decide +kernel
theorem dX8_rows_116 : decode cX8_rows 116 = .ok (.putfield 322, 3) := by decide +kernel
theorem dX8_rows_119 : decode cX8_rows 119 = .ok (.aload_n 0, 1) := by decide +kernel
theorem dX8_rows_120 : decode cX8_rows 120 = .ok (.iconst 0, 1) := by decide +kernel
theorem dX8_rows_121 : decode cX8_rows 121 = .ok (.aload_n 0, 1) := by decide +kernel
theorem dX8_rows_122 : decode cX8_rows 122 = .ok (.getfield 319, 3) := by decide +kernel
theorem dX8_rows_125 : decode cX8_rows 125 = .ok (.invokevirtual 325, 3) := by decide +kernel
theorem dX8_rows_128 : decode cX8_rows 128 = .ok (.iload_n 1, 1) := by decide +kernel
theorem dX8_rows_129 : decode cX8_rows 129 = .ok (.ifCond .ne 10, 3) := by decide +kernel
theorem dX8_rows_132 : decode cX8_rows 132 = .ok (.aload_n 0, 1) := by decide +kernel
theorem dX8_rows_133 : decode cX8_rows 133 = .ok (.getfield 316, 3) := by decide +kernel
theorem dX8_rows_136 : decode cX8_rows 136 = .ok (.goto 19, 3) := by decide +kernel
theorem dX8_rows_139 : decode cX8_rows 139 = .ok (.iload_n 1, 1) := by decide +kernel
theorem dX8_rows_140 : decode cX8_rows 140 = .ok (.iconst 1, 1) := by decide +kernel
theorem dX8_rows_141 : decode cX8_rows 141 = .ok (.if_icmp .ne 10, 3) := by decide +kernel
theorem dX8_rows_144 : decode cX8_rows 144 = .ok (.aload_n 0, 1) := by decide +kernel
theorem dX8_rows_145 : decode cX8_rows 145 = .ok (.getfield 319, 3) := by decide +kernel
theorem dX8_rows_148 : decode cX8_rows 148 = .ok (.goto 7, 3) := by decide +kernel
theorem dX8_rows_151 : decode cX8_rows 151 = .ok (.aload_n 0, 1) := by decide +kernel
theorem dX8_rows_152 : decode cX8_rows 152 = .ok (.getfield 322, 3) := by decide +kernel
theorem dX8_rows_155 : decode cX8_rows 155 = .ok (.ireturn, 1) := by decide +kernel
theorem dX8_worst_0 : decode cX8_worst 0 = .ok (.iconst 0, 1) := by decide +kernel
theorem dX8_worst_1 : decode cX8_worst 1 = .ok (.istore_n 3, 1) := by decide +kernel
theorem dX8_worst_2 : decode cX8_worst 2 = .ok (.iconst 0, 1) := by decide +kernel
theorem dX8_worst_3 : decode cX8_worst 3 = .ok (.istore 4, 2) := by decide +kernel
theorem dX8_worst_5 : decode cX8_worst 5 = .ok (.iload 4, 2) := by decide +kernel
theorem dX8_worst_7 : decode cX8_worst 7 = .ok (.aload_n 0, 1) := by decide +kernel
theorem dX8_worst_8 : decode cX8_worst 8 = .ok (.getfield 251, 3) := by decide +kernel
theorem dX8_worst_11 : decode cX8_worst 11 = .ok (.if_icmp .ge 36, 3) := by decide +kernel
theorem dX8_worst_14 : decode cX8_worst 14 = .ok (.iload_n 2, 1) := by decide +kernel
theorem dX8_worst_15 : decode cX8_worst 15 = .ok (.iload 4, 2) := by decide +kernel
theorem dX8_worst_17 : decode cX8_worst 17 = .ok (.ishr, 1) := by decide +kernel
theorem dX8_worst_18 : decode cX8_worst 18 = .ok (.iconst 1, 1) := by decide +kernel
theorem dX8_worst_19 : decode cX8_worst 19 = .ok (.iand, 1) := by decide +kernel
theorem dX8_worst_20 : decode cX8_worst 20 = .ok (.iconst 1, 1) := by decide +kernel
theorem dX8_worst_21 : decode cX8_worst 21 = .ok (.if_icmp .ne 20, 3) := by decide +kernel
theorem dX8_worst_24 : decode cX8_worst 24 = .ok (.iload_n 3, 1) := by decide +kernel
theorem dX8_worst_25 : decode cX8_worst 25 = .ok (.aload_n 0, 1) := by decide +kernel
theorem dX8_worst_26 : decode cX8_worst 26 = .ok (.getfield 51, 3) := by decide +kernel
theorem dX8_worst_29 : decode cX8_worst 29 = .ok (.iload_n 1, 1) := by decide +kernel
theorem dX8_worst_30 : decode cX8_worst 30 = .ok (.bipush 10, 2) := by decide +kernel
theorem dX8_worst_32 : decode cX8_worst 32 = .ok (.imul, 1) := by decide +kernel
theorem dX8_worst_33 : decode cX8_worst 33 = .ok (.iload 4, 2) := by decide +kernel
theorem dX8_worst_35 : decode cX8_worst 35 = .ok (.iadd, 1) := by decide +kernel
theorem dX8_worst_36 : decode cX8_worst 36 = .ok (.iaload, 1) := by decide +kernel
theorem dX8_worst_37 : decode cX8_worst 37 = .ok (.invokestatic 329, 3) := by decide +kernel
theorem dX8_worst_40 : decode cX8_worst 40 = .ok (.istore_n 3, 1) := by decide +kernel
theorem dX8_worst_41 : decode cX8_worst 41 = .ok (.iinc 4 1, 3) := by decide +kernel
theorem dX8_worst_44 : decode cX8_worst 44 = .ok (.goto (-39), 3) := by decide +kernel
theorem dX8_worst_47 : decode cX8_worst 47 = .ok (.iload_n 3, 1) := by decide +kernel
theorem dX8_worst_48 : decode cX8_worst 48 = .ok (.ireturn, 1) := by decide +kernel
theorem dX8_sum_0 : decode cX8_sum 0 = .ok (.iconst 0, 1) := by decide +kernel
theorem dX8_sum_1 : decode cX8_sum 1 = .ok (.istore_n 3, 1) := by decide +kernel
theorem dX8_sum_2 : decode cX8_sum 2 = .ok (.iconst 0, 1) := by decide +kernel
theorem dX8_sum_3 : decode cX8_sum 3 = .ok (.istore 4, 2) := by decide +kernel
theorem dX8_sum_5 : decode cX8_sum 5 = .ok (.iload 4, 2) := by decide +kernel
theorem dX8_sum_7 : decode cX8_sum 7 = .ok (.aload_n 0, 1) := by decide +kernel
theorem dX8_sum_8 : decode cX8_sum 8 = .ok (.getfield 251, 3) := by decide +kernel
theorem dX8_sum_11 : decode cX8_sum 11 = .ok (.if_icmp .ge 38, 3) := by decide +kernel
theorem dX8_sum_14 : decode cX8_sum 14 = .ok (.iload_n 3, 1) := by decide +kernel
theorem dX8_sum_15 : decode cX8_sum 15 = .ok (.iload_n 2, 1) := by decide +kernel
theorem dX8_sum_16 : decode cX8_sum 16 = .ok (.iload 4, 2) := by decide +kernel
theorem dX8_sum_18 : decode cX8_sum 18 = .ok (.ishr, 1) := by decide +kernel
theorem dX8_sum_19 : decode cX8_sum 19 = .ok (.iconst 1, 1) := by decide +kernel
theorem dX8_sum_20 : decode cX8_sum 20 = .ok (.iand, 1) := by decide +kernel
theorem dX8_sum_21 : decode cX8_sum 21 = .ok (.iconst 1, 1) := by decide +kernel
theorem dX8_sum_22 : decode cX8_sum 22 = .ok (.if_icmp .ne 18, 3) := by decide +kernel
theorem dX8_sum_25 : decode cX8_sum 25 = .ok (.aload_n 0, 1) := by decide +kernel
theorem dX8_sum_26 : decode cX8_sum 26 = .ok (.getfield 51, 3) := by decide +kernel
theorem dX8_sum_29 : decode cX8_sum 29 = .ok (.iload_n 1, 1) := by decide +kernel
theorem dX8_sum_30 : decode cX8_sum 30 = .ok (.bipush 10, 2) := by decide +kernel
theorem dX8_sum_32 : decode cX8_sum 32 = .ok (.imul, 1) := by decide +kernel
theorem dX8_sum_33 : decode cX8_sum 33 = .ok (.iload 4, 2) := by decide +kernel
theorem dX8_sum_35 : decode cX8_sum 35 = .ok (.iadd, 1) := by decide +kernel
theorem dX8_sum_36 : decode cX8_sum 36 = .ok (.iaload, 1) := by decide +kernel
theorem dX8_sum_37 : decode cX8_sum 37 = .ok (.goto 4, 3) := by decide +kernel
theorem dX8_sum_40 : decode cX8_sum 40 = .ok (.iconst 0, 1) := by decide +kernel
theorem dX8_sum_41 : decode cX8_sum 41 = .ok (.iadd, 1) := by decide +kernel
theorem dX8_sum_42 : decode cX8_sum 42 = .ok (.istore_n 3, 1) := by decide +kernel
theorem dX8_sum_43 : decode cX8_sum 43 = .ok (.iinc 4 1, 3) := by decide +kernel
theorem dX8_sum_46 : decode cX8_sum 46 = .ok (.goto (-41), 3) := by decide +kernel
theorem dX8_sum_49 : decode cX8_sum 49 = .ok (.iload_n 3, 1) := by decide +kernel
theorem dX8_sum_50 : decode cX8_sum 50 = .ok (.ireturn, 1) := by decide +kernel
theorem dX8_tellDeep_0 : decode cX8_tellDeep 0 = .ok (.aload_n 0, 1) := by decide +kernel
theorem dX8_tellDeep_1 : decode cX8_tellDeep 1 = .ok (.invokevirtual 258, 3) := by decide +kernel
theorem dX8_tellDeep_4 : decode cX8_tellDeep 4 = .ok (.aload_n 0, 1) := by decide +kernel
theorem dX8_tellDeep_5 : decode cX8_tellDeep 5 = .ok (.getfield 78, 3) := by decide +kernel
theorem dX8_tellDeep_8 : decode cX8_tellDeep 8 = .ok (.aload_n 0, 1) := by decide +kernel
theorem dX8_tellDeep_9 : decode cX8_tellDeep 9 = .ok (.getfield 242, 3) := by decide +kernel
theorem dX8_tellDeep_12 : decode cX8_tellDeep 12 = .ok (.if_icmp .ne 4, 3) := by decide +kernel
theorem dX8_tellDeep_15 : decode cX8_tellDeep 15 = .ok (.return_, 1) := by decide +kernel
theorem dX8_tellDeep_16 : decode cX8_tellDeep 16 = .ok (.aload_n 0, 1) := by decide +kernel
theorem dX8_tellDeep_17 : decode cX8_tellDeep 17 = .ok (.aload_n 0, 1) := by decide +kernel
theorem dX8_tellDeep_18 : decode cX8_tellDeep 18 = .ok (.getfield 242, 3) := by decide +kernel
theorem dX8_tellDeep_21 : decode cX8_tellDeep 21 = .ok (.putfield 78, 3) := by decide +kernel
theorem dX8_tellDeep_24 : decode cX8_tellDeep 24 = .ok (.iconst 0, 1) := by decide +kernel
theorem dX8_tellDeep_25 : decode cX8_tellDeep 25 = .ok (.istore_n 1, 1) := by decide +kernel
theorem dX8_tellDeep_26 : decode cX8_tellDeep 26 = .ok (.iload_n 1, 1) := by decide +kernel
theorem dX8_tellDeep_27 : decode cX8_tellDeep 27 = .ok (.iconst 1, 1) := by decide +kernel
theorem dX8_tellDeep_28 : decode cX8_tellDeep 28 = .ok (.aload_n 0, 1) := by decide +kernel
theorem dX8_tellDeep_29 : decode cX8_tellDeep 29 = .ok (.getfield 251, 3) := by decide +kernel
theorem dX8_tellDeep_32 : decode cX8_tellDeep 32 = .ok (.ishl, 1) := by decide +kernel
theorem dX8_tellDeep_33 : decode cX8_tellDeep 33 = .ok (.if_icmp .ge 198, 3) := by decide +kernel
theorem dX8_tellDeep_36 : decode cX8_tellDeep 36 = .ok (.aload_n 0, 1) := by decide +kernel
theorem dX8_tellDeep_37 : decode cX8_tellDeep 37 = .ok (.getfield 251, 3) := by decide +kernel
theorem dX8_tellDeep_40 : decode cX8_tellDeep 40 = .ok (.iload_n 1, 1) := by decide +kernel
theorem dX8_tellDeep_41 : decode cX8_tellDeep 41 = .ok (.invokestatic 267, 3) := by decide +kernel
theorem dX8_tellDeep_44 : decode cX8_tellDeep 44 = .ok (.isub, 1) := by decide +kernel
theorem dX8_tellDeep_45 : decode cX8_tellDeep 45 = .ok (.istore_n 2, 1) := by decide +kernel
theorem dX8_tellDeep_46 : decode cX8_tellDeep 46 = .ok (.aload_n 0, 1) := by decide +kernel
theorem dX8_tellDeep_47 : decode cX8_tellDeep 47 = .ok (.getfield 72, 3) := by decide +kernel
theorem dX8_tellDeep_50 : decode cX8_tellDeep 50 = .ok (.iload_n 1, 1) := by decide +kernel
theorem dX8_tellDeep_51 : decode cX8_tellDeep 51 = .ok (.iload_n 1, 1) := by decide +kernel
theorem dX8_tellDeep_52 : decode cX8_tellDeep 52 = .ok (.iastore, 1) := by decide +kernel
theorem dX8_tellDeep_53 : decode cX8_tellDeep 53 = .ok (.aload_n 0, 1) := by decide +kernel
theorem dX8_tellDeep_54 : decode cX8_tellDeep 54 = .ok (.getfield 75, 3) := by decide +kernel
theorem dX8_tellDeep_57 : decode cX8_tellDeep 57 = .ok (.iload_n 1, 1) := by decide +kernel
theorem dX8_tellDeep_58 : decode cX8_tellDeep 58 = .ok (.iconst (-1), 1) := by decide +kernel
theorem dX8_tellDeep_59 : decode cX8_tellDeep 59 = .ok (.iastore, 1) := by decide +kernel
theorem dX8_tellDeep_60 : decode cX8_tellDeep 60 = .ok (.iload_n 2, 1) := by decide +kernel
theorem dX8_tellDeep_61 : decode cX8_tellDeep 61 = .ok (.aload_n 0, 1) := by decide +kernel
theorem dX8_tellDeep_62 : decode cX8_tellDeep 62 = .ok (.getfield 25, 3) := by decide +kernel
theorem dX8_tellDeep_65 : decode cX8_tellDeep 65 = .ok (.iconst 0, 1) := by decide +kernel
theorem dX8_tellDeep_66 : decode cX8_tellDeep 66 = .ok (.iaload, 1) := by decide +kernel
theorem dX8_tellDeep_67 : decode cX8_tellDeep 67 = .ok (.if_icmp .lt 6, 3) := by decide +kernel
theorem dX8_tellDeep_70 : decode cX8_tellDeep 70 = .ok (.goto 155, 3) := by decide +kernel
theorem dX8_tellDeep_73 : decode cX8_tellDeep 73 = .ok (.aload_n 0, 1) := by decide +kernel
theorem dX8_tellDeep_74 : decode cX8_tellDeep 74 = .ok (.getfield 37, 3) := by decide +kernel
theorem dX8_tellDeep_77 : decode cX8_tellDeep 77 = .ok (.iload_n 2, 1) := by decide +kernel
theorem dX8_tellDeep_78 : decode cX8_tellDeep 78 = .ok (.iaload, 1) := by decide +kernel
theorem dX8_tellDeep_79 : decode cX8_tellDeep 79 = .ok (.istore_n 3, 1) := by decide +kernel
theorem dX8_tellDeep_80 : decode cX8_tellDeep 80 = .ok (.iconst 0, 1) := by decide +kernel
theorem dX8_tellDeep_81 : decode cX8_tellDeep 81 = .ok (.istore 4, 2) := by decide +kernel
theorem dX8_tellDeep_83 : decode cX8_tellDeep 83 = .ok (.iload 4, 2) := by decide +kernel
theorem dX8_tellDeep_85 : decode cX8_tellDeep 85 = .ok (.aload_n 0, 1) := by decide +kernel
theorem dX8_tellDeep_86 : decode cX8_tellDeep 86 = .ok (.getfield 251, 3) := by decide +kernel
theorem dX8_tellDeep_89 : decode cX8_tellDeep 89 = .ok (.if_icmp .ge 136, 3) := by decide +kernel
theorem dX8_tellDeep_92 : decode cX8_tellDeep 92 = .ok (.iload_n 1, 1) := by decide +kernel
theorem dX8_tellDeep_93 : decode cX8_tellDeep 93 = .ok (.iload 4, 2) := by decide +kernel
theorem dX8_tellDeep_95 : decode cX8_tellDeep 95 = .ok (.ishr, 1) := by decide +kernel
theorem dX8_tellDeep_96 : decode cX8_tellDeep 96 = .ok (.iconst 1, 1) := by decide +kernel
theorem dX8_tellDeep_97 : decode cX8_tellDeep 97 = .ok (.iand, 1) := by decide +kernel
theorem dX8_tellDeep_98 : decode cX8_tellDeep 98 = .ok (.ifCond .ne 6, 3) := by decide +kernel
theorem dX8_tellDeep_101 : decode cX8_tellDeep 101 = .ok (.goto 118, 3) := by decide +kernel
theorem dX8_tellDeep_104 : decode cX8_tellDeep 104 = .ok (.aload_n 0, 1) := by decide +kernel
theorem dX8_tellDeep_105 : decode cX8_tellDeep 105 = .ok (.getfield 72, 3) := by decide +kernel
theorem dX8_tellDeep_108 : decode cX8_tellDeep 108 = .ok (.iload_n 1, 1) := by decide +kernel
theorem dX8_tellDeep_109 : decode cX8_tellDeep 109 = .ok (.iconst 1, 1) := by decide +kernel
theorem dX8_tellDeep_110 : decode cX8_tellDeep 110 = .ok (.iload 4, 2) := by decide +kernel
theorem dX8_tellDeep_112 : decode cX8_tellDeep 112 = .ok (.ishl, 1) := by decide +kernel
theorem dX8_tellDeep_113 : decode cX8_tellDeep 113 = .ok (.iconst (-1), 1) := by decide +kernel
theorem dX8_tellDeep_114 : decode cX8_tellDeep 114 = .ok (.ixor, 1) := by decide +kernel
theorem dX8_tellDeep_115 : decode cX8_tellDeep 115 = .ok (.iand, 1) := by decide +kernel
theorem dX8_tellDeep_116 : decode cX8_tellDeep 116 = .ok (.iaload, 1) := by decide +kernel
theorem dX8_tellDeep_117 : decode cX8_tellDeep 117 = .ok (.istore 5, 2) := by decide +kernel
theorem dX8_tellDeep_119 : decode cX8_tellDeep 119 = .ok (.aload_n 0, 1) := by decide +kernel
theorem dX8_tellDeep_120 : decode cX8_tellDeep 120 = .ok (.getfield 72, 3) := by decide +kernel
theorem dX8_tellDeep_123 : decode cX8_tellDeep 123 = .ok (.iload_n 1, 1) := by decide +kernel
theorem dX8_tellDeep_124 : decode cX8_tellDeep 124 = .ok (.iaload, 1) := by decide +kernel
theorem dX8_tellDeep_125 : decode cX8_tellDeep 125 = .ok (.istore 6, 2) := by decide +kernel
theorem dX8_tellDeep_127 : decode cX8_tellDeep 127 = .ok (.aload_n 0, 1) := by decide +kernel
theorem dX8_tellDeep_128 : decode cX8_tellDeep 128 = .ok (.getfield 75, 3) := by decide +kernel
theorem dX8_tellDeep_131 : decode cX8_tellDeep 131 = .ok (.iload_n 1, 1) := by decide +kernel
theorem dX8_tellDeep_132 : decode cX8_tellDeep 132 = .ok (.iaload, 1) := by decide +kernel
theorem dX8_tellDeep_133 : decode cX8_tellDeep 133 = .ok (.iconst (-1), 1) := by decide +kernel
theorem dX8_tellDeep_134 : decode cX8_tellDeep 134 = .ok (.if_icmp .eq 54, 3) := by decide +kernel
theorem dX8_tellDeep_137 : decode cX8_tellDeep 137 = .ok (.aload_n 0, 1) := by decide +kernel
theorem dX8_tellDeep_138 : decode cX8_tellDeep 138 = .ok (.iload_n 3, 1) := by decide +kernel
theorem dX8_tellDeep_139 : decode cX8_tellDeep 139 = .ok (.iload 5, 2) := by decide +kernel
theorem dX8_tellDeep_141 : decode cX8_tellDeep 141 = .ok (.invokevirtual 332, 3) := by decide +kernel
theorem dX8_tellDeep_144 : decode cX8_tellDeep 144 = .ok (.aload_n 0, 1) := by decide +kernel
theorem dX8_tellDeep_145 : decode cX8_tellDeep 145 = .ok (.iload_n 3, 1) := by decide +kernel
theorem dX8_tellDeep_146 : decode cX8_tellDeep 146 = .ok (.iload 6, 2) := by decide +kernel
theorem dX8_tellDeep_148 : decode cX8_tellDeep 148 = .ok (.invokevirtual 332, 3) := by decide +kernel
theorem dX8_tellDeep_151 : decode cX8_tellDeep 151 = .ok (.if_icmp .lt 37, 3) := by decide +kernel
theorem dX8_tellDeep_154 : decode cX8_tellDeep 154 = .ok (.aload_n 0, 1) := by decide +kernel
theorem dX8_tellDeep_155 : decode cX8_tellDeep 155 = .ok (.iload_n 3, 1) := by decide +kernel
theorem dX8_tellDeep_156 : decode cX8_tellDeep 156 = .ok (.iload 5, 2) := by decide +kernel
theorem dX8_tellDeep_158 : decode cX8_tellDeep 158 = .ok (.invokevirtual 332, 3) := by decide +kernel
theorem dX8_tellDeep_161 : decode cX8_tellDeep 161 = .ok (.aload_n 0, 1) := by decide +kernel
theorem dX8_tellDeep_162 : decode cX8_tellDeep 162 = .ok (.iload_n 3, 1) := by decide +kernel
theorem dX8_tellDeep_163 : decode cX8_tellDeep 163 = .ok (.iload 6, 2) := by decide +kernel
theorem dX8_tellDeep_165 : decode cX8_tellDeep 165 = .ok (.invokevirtual 332, 3) := by decide +kernel
theorem dX8_tellDeep_168 : decode cX8_tellDeep 168 = .ok (.if_icmp .ne 24, 3) := by decide +kernel
theorem dX8_tellDeep_171 : decode cX8_tellDeep 171 = .ok (.aload_n 0, 1) := by decide +kernel
theorem dX8_tellDeep_172 : decode cX8_tellDeep 172 = .ok (.iload_n 3, 1) := by decide +kernel
theorem dX8_tellDeep_173 : decode cX8_tellDeep 173 = .ok (.iload 5, 2) := by decide +kernel
theorem dX8_tellDeep_175 : decode cX8_tellDeep 175 = .ok (.invokevirtual 335, 3) := by decide +kernel
theorem dX8_tellDeep_178 : decode cX8_tellDeep 178 = .ok (.aload_n 0, 1) := by decide +kernel
theorem dX8_tellDeep_179 : decode cX8_tellDeep 179 = .ok (.iload_n 3, 1) := by decide +kernel
theorem dX8_tellDeep_180 : decode cX8_tellDeep 180 = .ok (.iload 6, 2) := by decide +kernel
theorem dX8_tellDeep_182 : decode cX8_tellDeep 182 = .ok (.invokevirtual 335, 3) := by decide +kernel
theorem dX8_tellDeep_185 : decode cX8_tellDeep 185 = .ok (.if_icmp .ge 7, 3) := by decide +kernel
theorem dX8_tellDeep_188 : decode cX8_tellDeep 188 = .ok (.iconst 1, 1) := by decide +kernel
theorem dX8_tellDeep_189 : decode cX8_tellDeep 189 = .ok (.goto 4, 3) := by decide +kernel
theorem dX8_tellDeep_192 : decode cX8_tellDeep 192 = .ok (.iconst 0, 1) := by decide +kernel
theorem dX8_tellDeep_193 : decode cX8_tellDeep 193 = .ok (.istore 7, 2) := by decide +kernel
theorem dX8_tellDeep_195 : decode cX8_tellDeep 195 = .ok (.iload 7, 2) := by decide +kernel
theorem dX8_tellDeep_197 : decode cX8_tellDeep 197 = .ok (.ifCond .ne 6, 3) := by decide +kernel
theorem dX8_tellDeep_200 : decode cX8_tellDeep 200 = .ok (.goto 19, 3) := by decide +kernel
theorem dX8_tellDeep_203 : decode cX8_tellDeep 203 = .ok (.aload_n 0, 1) := by decide +kernel
theorem dX8_tellDeep_204 : decode cX8_tellDeep 204 = .ok (.getfield 72, 3) := by decide +kernel
theorem dX8_tellDeep_207 : decode cX8_tellDeep 207 = .ok (.iload_n 1, 1) := by decide +kernel
theorem dX8_tellDeep_208 : decode cX8_tellDeep 208 = .ok (.iload 5, 2) := by decide +kernel
theorem dX8_tellDeep_210 : decode cX8_tellDeep 210 = .ok (.iastore, 1) := by decide +kernel
theorem dX8_tellDeep_211 : decode cX8_tellDeep 211 = .ok (.aload_n 0, 1) := by decide +kernel
theorem dX8_tellDeep_212 : decode cX8_tellDeep 212 = .ok (.getfield 75, 3) := by decide +kernel
theorem dX8_tellDeep_215 : decode cX8_tellDeep 215 = .ok (.iload_n 1, 1) := by decide +kernel
theorem dX8_tellDeep_216 : decode cX8_tellDeep 216 = .ok (.iload 4, 2) := by decide +kernel
theorem dX8_tellDeep_218 : decode cX8_tellDeep 218 = .ok (.iastore, 1) := by decide +kernel
theorem dX8_tellDeep_219 : decode cX8_tellDeep 219 = .ok (.iinc 4 1, 3) := by decide +kernel
theorem dX8_tellDeep_222 : decode cX8_tellDeep 222 = .ok (.goto (-139), 3) := by decide +kernel
theorem dX8_tellDeep_225 : decode cX8_tellDeep 225 = .ok (.iinc 1 1, 3) := by decide +kernel
theorem dX8_tellDeep_228 : decode cX8_tellDeep 228 = .ok (.goto (-202), 3) := by decide +kernel
theorem dX8_tellDeep_231 : decode cX8_tellDeep 231 = .ok (.return_, 1) := by decide +kernel
theorem dX8_deep_0 : decode cX8_deep 0 = .ok (.aload_n 0, 1) := by decide +kernel
theorem dX8_deep_1 : decode cX8_deep 1 = .ok (.iconst 0, 1) := by decide +kernel
theorem dX8_deep_2 : decode cX8_deep 2 = .ok (.putfield 117, 3) := by decide +kernel
theorem dX8_deep_5 : decode cX8_deep 5 = .ok (.aload_n 0, 1) := by decide +kernel
theorem dX8_deep_6 : decode cX8_deep 6 = .ok (.invokevirtual 338, 3) := by decide +kernel
theorem dX8_deep_9 : decode cX8_deep 9 = .ok (.aload_n 0, 1) := by decide +kernel
theorem dX8_deep_10 : decode cX8_deep 10 = .ok (.getfield 72, 3) := by decide +kernel
theorem dX8_deep_13 : decode cX8_deep 13 = .ok (.iconst 1, 1) := by decide +kernel
theorem dX8_deep_14 : decode cX8_deep 14 = .ok (.aload_n 0, 1) := by decide +kernel
theorem dX8_deep_15 : decode cX8_deep 15 = .ok (.getfield 251, 3) := by decide +kernel
theorem dX8_deep_18 : decode cX8_deep 18 = .ok (.ishl, 1) := by decide +kernel
theorem dX8_deep_19 : decode cX8_deep 19 = .ok (.iconst 1, 1) := by decide +kernel
theorem dX8_deep_20 : decode cX8_deep 20 = .ok (.isub, 1) := by decide +kernel
theorem dX8_deep_21 : decode cX8_deep 21 = .ok (.iaload, 1) := by decide +kernel
theorem dX8_deep_22 : decode cX8_deep 22 = .ok (.ireturn, 1) := by decide +kernel
theorem dX8_first_0 : decode cX8_first 0 = .ok (.aload_n 0, 1) := by decide +kernel
theorem dX8_first_1 : decode cX8_first 1 = .ok (.iconst 0, 1) := by decide +kernel
theorem dX8_first_2 : decode cX8_first 2 = .ok (.putfield 117, 3) := by decide +kernel
theorem dX8_first_5 : decode cX8_first 5 = .ok (.aload_n 0, 1) := by decide +kernel
theorem dX8_first_6 : decode cX8_first 6 = .ok (.invokevirtual 338, 3) := by decide +kernel
theorem dX8_first_9 : decode cX8_first 9 = .ok (.aload_n 0, 1) := by decide +kernel
theorem dX8_first_10 : decode cX8_first 10 = .ok (.getfield 75, 3) := by decide +kernel
theorem dX8_first_13 : decode cX8_first 13 = .ok (.iconst 1, 1) := by decide +kernel
theorem dX8_first_14 : decode cX8_first 14 = .ok (.aload_n 0, 1) := by decide +kernel
theorem dX8_first_15 : decode cX8_first 15 = .ok (.getfield 251, 3) := by decide +kernel
theorem dX8_first_18 : decode cX8_first 18 = .ok (.ishl, 1) := by decide +kernel
theorem dX8_first_19 : decode cX8_first 19 = .ok (.iconst 1, 1) := by decide +kernel
theorem dX8_first_20 : decode cX8_first 20 = .ok (.isub, 1) := by decide +kernel
theorem dX8_first_21 : decode cX8_first 21 = .ok (.iaload, 1) := by decide +kernel
theorem dX8_first_22 : decode cX8_first 22 = .ok (.ireturn, 1) := by decide +kernel
theorem dX8_nextOrder_0 : decode cX8_nextOrder 0 = .ok (.iload_n 1, 1) := by decide +kernel
theorem dX8_nextOrder_1 : decode cX8_nextOrder 1 = .ok (.iconst 2, 1) := by decide +kernel
theorem dX8_nextOrder_2 : decode cX8_nextOrder 2 = .ok (.isub, 1) := by decide +kernel
theorem dX8_nextOrder_3 : decode cX8_nextOrder 3 = .ok (.istore_n 2, 1) := by decide +kernel
theorem dX8_nextOrder_4 : decode cX8_nextOrder 4 = .ok (.iload_n 2, 1) := by decide +kernel
theorem dX8_nextOrder_5 : decode cX8_nextOrder 5 = .ok (.ifCond .lt 26, 3) := by decide +kernel
theorem dX8_nextOrder_8 : decode cX8_nextOrder 8 = .ok (.aload_n 0, 1) := by decide +kernel
theorem dX8_nextOrder_9 : decode cX8_nextOrder 9 = .ok (.getfield 81, 3) := by decide +kernel
theorem dX8_nextOrder_12 : decode cX8_nextOrder 12 = .ok (.iload_n 2, 1) := by decide +kernel
theorem dX8_nextOrder_13 : decode cX8_nextOrder 13 = .ok (.iaload, 1) := by decide +kernel
theorem dX8_nextOrder_14 : decode cX8_nextOrder 14 = .ok (.aload_n 0, 1) := by decide +kernel
theorem dX8_nextOrder_15 : decode cX8_nextOrder 15 = .ok (.getfield 81, 3) := by decide +kernel
theorem dX8_nextOrder_18 : decode cX8_nextOrder 18 = .ok (.iload_n 2, 1) := by decide +kernel
theorem dX8_nextOrder_19 : decode cX8_nextOrder 19 = .ok (.iconst 1, 1) := by decide +kernel
theorem dX8_nextOrder_20 : decode cX8_nextOrder 20 = .ok (.iadd, 1) := by decide +kernel
theorem dX8_nextOrder_21 : decode cX8_nextOrder 21 = .ok (.iaload, 1) := by decide +kernel
theorem dX8_nextOrder_22 : decode cX8_nextOrder 22 = .ok (.if_icmp .le 9, 3) := by decide +kernel
theorem dX8_nextOrder_25 : decode cX8_nextOrder 25 = .ok (.iinc 2 (-1), 3) := by decide +kernel
theorem dX8_nextOrder_28 : decode cX8_nextOrder 28 = .ok (.goto (-24), 3) := by decide +kernel
theorem dX8_nextOrder_31 : decode cX8_nextOrder 31 = .ok (.iload_n 2, 1) := by decide +kernel
theorem dX8_nextOrder_32 : decode cX8_nextOrder 32 = .ok (.ifCond .ge 5, 3) := by decide +kernel
theorem dX8_nextOrder_35 : decode cX8_nextOrder 35 = .ok (.iconst 0, 1) := by decide +kernel
theorem dX8_nextOrder_36 : decode cX8_nextOrder 36 = .ok (.ireturn, 1) := by decide +kernel
theorem dX8_nextOrder_37 : decode cX8_nextOrder 37 = .ok (.iload_n 1, 1) := by decide +kernel
theorem dX8_nextOrder_38 : decode cX8_nextOrder 38 = .ok (.iconst 1, 1) := by decide +kernel
theorem dX8_nextOrder_39 : decode cX8_nextOrder 39 = .ok (.isub, 1) := by decide +kernel
theorem dX8_nextOrder_40 : decode cX8_nextOrder 40 = .ok (.istore_n 3, 1) := by decide +kernel
theorem dX8_nextOrder_41 : decode cX8_nextOrder 41 = .ok (.aload_n 0, 1) := by decide +kernel
theorem dX8_nextOrder_42 : decode cX8_nextOrder 42 = .ok (.getfield 81, 3) := by decide +kernel
theorem dX8_nextOrder_45 : decode cX8_nextOrder 45 = .ok (.iload_n 3, 1) := by decide +kernel
theorem dX8_nextOrder_46 : decode cX8_nextOrder 46 = .ok (.iaload, 1) := by decide +kernel
theorem dX8_nextOrder_47 : decode cX8_nextOrder 47 = .ok (.aload_n 0, 1) := by decide +kernel
theorem dX8_nextOrder_48 : decode cX8_nextOrder 48 = .ok (.getfield 81, 3) := by decide +kernel
theorem dX8_nextOrder_51 : decode cX8_nextOrder 51 = .ok (.iload_n 2, 1) := by decide +kernel
theorem dX8_nextOrder_52 : decode cX8_nextOrder 52 = .ok (.iaload, 1) := by decide +kernel
theorem dX8_nextOrder_53 : decode cX8_nextOrder 53 = .ok (.if_icmp .ge 9, 3) := by decide +kernel
theorem dX8_nextOrder_56 : decode cX8_nextOrder 56 = .ok (.iinc 3 (-1), 3) := by decide +kernel
theorem dX8_nextOrder_59 : decode cX8_nextOrder 59 = .ok (.goto (-18), 3) := by decide +kernel
theorem dX8_nextOrder_62 : decode cX8_nextOrder 62 = .ok (.aload_n 0, 1) := by decide +kernel
theorem dX8_nextOrder_63 : decode cX8_nextOrder 63 = .ok (.getfield 81, 3) := by decide +kernel
theorem dX8_nextOrder_66 : decode cX8_nextOrder 66 = .ok (.iload_n 2, 1) := by decide +kernel
theorem dX8_nextOrder_67 : decode cX8_nextOrder 67 = .ok (.iaload, 1) := by decide +kernel
theorem dX8_nextOrder_68 : decode cX8_nextOrder 68 = .ok (.istore 4, 2) := by decide +kernel
theorem dX8_nextOrder_70 : decode cX8_nextOrder 70 = .ok (.aload_n 0, 1) := by decide +kernel
theorem dX8_nextOrder_71 : decode cX8_nextOrder 71 = .ok (.getfield 81, 3) := by decide +kernel
theorem dX8_nextOrder_74 : decode cX8_nextOrder 74 = .ok (.iload_n 2, 1) := by decide +kernel
theorem dX8_nextOrder_75 : decode cX8_nextOrder 75 = .ok (.aload_n 0, 1) := by decide +kernel
theorem dX8_nextOrder_76 : decode cX8_nextOrder 76 = .ok (.getfield 81, 3) := by decide +kernel
theorem dX8_nextOrder_79 : decode cX8_nextOrder 79 = .ok (.iload_n 3, 1) := by decide +kernel
theorem dX8_nextOrder_80 : decode cX8_nextOrder 80 = .ok (.iaload, 1) := by decide +kernel
theorem dX8_nextOrder_81 : decode cX8_nextOrder 81 = .ok (.iastore, 1) := by decide +kernel
theorem dX8_nextOrder_82 : decode cX8_nextOrder 82 = .ok (.aload_n 0, 1) := by decide +kernel
theorem dX8_nextOrder_83 : decode cX8_nextOrder 83 = .ok (.getfield 81, 3) := by decide +kernel
theorem dX8_nextOrder_86 : decode cX8_nextOrder 86 = .ok (.iload_n 3, 1) := by decide +kernel
theorem dX8_nextOrder_87 : decode cX8_nextOrder 87 = .ok (.iload 4, 2) := by decide +kernel
theorem dX8_nextOrder_89 : decode cX8_nextOrder 89 = .ok (.iastore, 1) := by decide +kernel
theorem dX8_nextOrder_90 : decode cX8_nextOrder 90 = .ok (.iload_n 2, 1) := by decide +kernel
theorem dX8_nextOrder_91 : decode cX8_nextOrder 91 = .ok (.iconst 1, 1) := by decide +kernel
theorem dX8_nextOrder_92 : decode cX8_nextOrder 92 = .ok (.iadd, 1) := by decide +kernel
theorem dX8_nextOrder_93 : decode cX8_nextOrder 93 = .ok (.istore 5, 2) := by decide +kernel
theorem dX8_nextOrder_95 : decode cX8_nextOrder 95 = .ok (.iload_n 1, 1) := by decide +kernel
theorem dX8_nextOrder_96 : decode cX8_nextOrder 96 = .ok (.iconst 1, 1) := by decide +kernel
theorem dX8_nextOrder_97 : decode cX8_nextOrder 97 = .ok (.isub, 1) := by decide +kernel
theorem dX8_nextOrder_98 : decode cX8_nextOrder 98 = .ok (.istore 6, 2) := by decide +kernel
theorem dX8_nextOrder_100 : decode cX8_nextOrder 100 = .ok (.iload 5, 2) := by decide +kernel
theorem dX8_nextOrder_102 : decode cX8_nextOrder 102 = .ok (.iload 6, 2) := by decide +kernel
theorem dX8_nextOrder_104 : decode cX8_nextOrder 104 = .ok (.if_icmp .ge 44, 3) := by decide +kernel
theorem dX8_nextOrder_107 : decode cX8_nextOrder 107 = .ok (.aload_n 0, 1) := by decide +kernel
theorem dX8_nextOrder_108 : decode cX8_nextOrder 108 = .ok (.getfield 81, 3) := by decide +kernel
theorem dX8_nextOrder_111 : decode cX8_nextOrder 111 = .ok (.iload 5, 2) := by decide +kernel
theorem dX8_nextOrder_113 : decode cX8_nextOrder 113 = .ok (.iaload, 1) := by decide +kernel
theorem dX8_nextOrder_114 : decode cX8_nextOrder 114 = .ok (.istore 4, 2) := by decide +kernel
theorem dX8_nextOrder_116 : decode cX8_nextOrder 116 = .ok (.aload_n 0, 1) := by decide +kernel
theorem dX8_nextOrder_117 : decode cX8_nextOrder 117 = .ok (.getfield 81, 3) := by decide +kernel
theorem dX8_nextOrder_120 : decode cX8_nextOrder 120 = .ok (.iload 5, 2) := by decide +kernel
theorem dX8_nextOrder_122 : decode cX8_nextOrder 122 = .ok (.aload_n 0, 1) := by decide +kernel
theorem dX8_nextOrder_123 : decode cX8_nextOrder 123 = .ok (.getfield 81, 3) := by decide +kernel
theorem dX8_nextOrder_126 : decode cX8_nextOrder 126 = .ok (.iload 6, 2) := by decide +kernel
theorem dX8_nextOrder_128 : decode cX8_nextOrder 128 = .ok (.iaload, 1) := by decide +kernel
theorem dX8_nextOrder_129 : decode cX8_nextOrder 129 = .ok (.iastore, 1) := by decide +kernel
theorem dX8_nextOrder_130 : decode cX8_nextOrder 130 = .ok (.aload_n 0, 1) := by decide +kernel
theorem dX8_nextOrder_131 : decode cX8_nextOrder 131 = .ok (.getfield 81, 3) := by decide +kernel
theorem dX8_nextOrder_134 : decode cX8_nextOrder 134 = .ok (.iload 6, 2) := by decide +kernel
theorem dX8_nextOrder_136 : decode cX8_nextOrder 136 = .ok (.iload 4, 2) := by decide +kernel
theorem dX8_nextOrder_138 : decode cX8_nextOrder 138 = .ok (.iastore, 1) := by decide +kernel
theorem dX8_nextOrder_139 : decode cX8_nextOrder 139 = .ok (.iinc 6 (-1), 3) := by decide +kernel
theorem dX8_nextOrder_142 : decode cX8_nextOrder 142 = .ok (.iinc 5 1, 3) := by decide +kernel
theorem dX8_nextOrder_145 : decode cX8_nextOrder 145 = .ok (.goto (-45), 3) := by decide +kernel
theorem dX8_nextOrder_148 : decode cX8_nextOrder 148 = .ok (.iconst 1, 1) := by decide +kernel
theorem dX8_nextOrder_149 : decode cX8_nextOrder 149 = .ok (.ireturn, 1) := by decide +kernel
theorem dX8_lie_0 : decode cX8_lie 0 = .ok (.aload_n 0, 1) := by decide +kernel
theorem dX8_lie_1 : decode cX8_lie 1 = .ok (.iconst 0, 1) := by decide +kernel
theorem dX8_lie_2 : decode cX8_lie 2 = .ok (.putfield 117, 3) := by decide +kernel
theorem dX8_lie_5 : decode cX8_lie 5 = .ok (.aload_n 0, 1) := by decide +kernel
theorem dX8_lie_6 : decode cX8_lie 6 = .ok (.iload_n 1, 1) := by decide +kernel
theorem dX8_lie_7 : decode cX8_lie 7 = .ok (.invokevirtual 261, 3) := by decide +kernel
theorem dX8_lie_10 : decode cX8_lie 10 = .ok (.ifCond .ne 9, 3) := by decide +kernel
theorem dX8_lie_13 : decode cX8_lie 13 = .ok (.aload_n 0, 1) := by decide +kernel
theorem dX8_lie_14 : decode cX8_lie 14 = .ok (.iconst 1, 1) := by decide +kernel
theorem dX8_lie_15 : decode cX8_lie 15 = .ok (.invokevirtual 232, 3) := by decide +kernel
theorem dX8_lie_18 : decode cX8_lie 18 = .ok (.ireturn, 1) := by decide +kernel
theorem dX8_lie_19 : decode cX8_lie 19 = .ok (.aload_n 0, 1) := by decide +kernel
theorem dX8_lie_20 : decode cX8_lie 20 = .ok (.getfield 7, 3) := by decide +kernel
theorem dX8_lie_23 : decode cX8_lie 23 = .ok (.iconst 0, 1) := by decide +kernel
theorem dX8_lie_24 : decode cX8_lie 24 = .ok (.iaload, 1) := by decide +kernel
theorem dX8_lie_25 : decode cX8_lie 25 = .ok (.istore_n 2, 1) := by decide +kernel
theorem dX8_lie_26 : decode cX8_lie 26 = .ok (.iload_n 2, 1) := by decide +kernel
theorem dX8_lie_27 : decode cX8_lie 27 = .ok (.iconst 5, 1) := by decide +kernel
theorem dX8_lie_28 : decode cX8_lie 28 = .ok (.if_icmp .le 5, 3) := by decide +kernel
theorem dX8_lie_31 : decode cX8_lie 31 = .ok (.iconst (-1), 1) := by decide +kernel
theorem dX8_lie_32 : decode cX8_lie 32 = .ok (.ireturn, 1) := by decide +kernel
theorem dX8_lie_33 : decode cX8_lie 33 = .ok (.aload_n 0, 1) := by decide +kernel
theorem dX8_lie_34 : decode cX8_lie 34 = .ok (.invokevirtual 310, 3) := by decide +kernel
theorem dX8_lie_37 : decode cX8_lie 37 = .ok (.aload_n 0, 1) := by decide +kernel
theorem dX8_lie_38 : decode cX8_lie 38 = .ok (.iload_n 1, 1) := by decide +kernel
theorem dX8_lie_39 : decode cX8_lie 39 = .ok (.aload_n 0, 1) := by decide +kernel
theorem dX8_lie_40 : decode cX8_lie 40 = .ok (.aload_n 0, 1) := by decide +kernel
theorem dX8_lie_41 : decode cX8_lie 41 = .ok (.getfield 25, 3) := by decide +kernel
theorem dX8_lie_44 : decode cX8_lie 44 = .ok (.iconst 0, 1) := by decide +kernel
theorem dX8_lie_45 : decode cX8_lie 45 = .ok (.iaload, 1) := by decide +kernel
theorem dX8_lie_46 : decode cX8_lie 46 = .ok (.invokevirtual 313, 3) := by decide +kernel
theorem dX8_lie_49 : decode cX8_lie 49 = .ok (.invokevirtual 332, 3) := by decide +kernel
theorem dX8_lie_52 : decode cX8_lie 52 = .ok (.istore_n 3, 1) := by decide +kernel
theorem dX8_lie_53 : decode cX8_lie 53 = .ok (.iconst 0, 1) := by decide +kernel
theorem dX8_lie_54 : decode cX8_lie 54 = .ok (.istore 4, 2) := by decide +kernel
theorem dX8_lie_56 : decode cX8_lie 56 = .ok (.iload 4, 2) := by decide +kernel
theorem dX8_lie_58 : decode cX8_lie 58 = .ok (.iload_n 2, 1) := by decide +kernel
theorem dX8_lie_59 : decode cX8_lie 59 = .ok (.if_icmp .ge 37, 3) := by decide +kernel
theorem dX8_lie_62 : decode cX8_lie 62 = .ok (.aload_n 0, 1) := by decide +kernel
theorem dX8_lie_63 : decode cX8_lie 63 = .ok (.getfield 84, 3) := by decide +kernel
theorem dX8_lie_66 : decode cX8_lie 66 = .ok (.iload 4, 2) := by decide +kernel
theorem dX8_lie_68 : decode cX8_lie 68 = .ok (.aload_n 0, 1) := by decide +kernel
theorem dX8_lie_69 : decode cX8_lie 69 = .ok (.getfield 51, 3) := by decide +kernel
theorem dX8_lie_72 : decode cX8_lie 72 = .ok (.iload_n 1, 1) := by decide +kernel
theorem dX8_lie_73 : decode cX8_lie 73 = .ok (.bipush 10, 2) := by decide +kernel
theorem dX8_lie_75 : decode cX8_lie 75 = .ok (.imul, 1) := by decide +kernel
theorem dX8_lie_76 : decode cX8_lie 76 = .ok (.iload 4, 2) := by decide +kernel
theorem dX8_lie_78 : decode cX8_lie 78 = .ok (.iadd, 1) := by decide +kernel
theorem dX8_lie_79 : decode cX8_lie 79 = .ok (.iaload, 1) := by decide +kernel
theorem dX8_lie_80 : decode cX8_lie 80 = .ok (.iastore, 1) := by decide +kernel
theorem dX8_lie_81 : decode cX8_lie 81 = .ok (.aload_n 0, 1) := by decide +kernel
theorem dX8_lie_82 : decode cX8_lie 82 = .ok (.getfield 81, 3) := by decide +kernel
theorem dX8_lie_85 : decode cX8_lie 85 = .ok (.iload 4, 2) := by decide +kernel
theorem dX8_lie_87 : decode cX8_lie 87 = .ok (.iload 4, 2) := by decide +kernel
theorem dX8_lie_89 : decode cX8_lie 89 = .ok (.iastore, 1) := by decide +kernel
theorem dX8_lie_90 : decode cX8_lie 90 = .ok (.iinc 4 1, 3) := by decide +kernel
theorem dX8_lie_93 : decode cX8_lie 93 = .ok (.goto (-37), 3) := by decide +kernel
theorem dX8_lie_96 : decode cX8_lie 96 = .ok (.iconst 1, 1) := by decide +kernel
theorem dX8_lie_97 : decode cX8_lie 97 = .ok (.istore 4, 2) := by decide +kernel
theorem dX8_lie_99 : decode cX8_lie 99 = .ok (.iload 4, 2) := by decide +kernel
theorem dX8_lie_101 : decode cX8_lie 101 = .ok (.ifCond .eq 146, 3) := by decide +kernel
theorem dX8_lie_104 : decode cX8_lie 104 = .ok (.iconst 0, 1) := by decide +kernel
theorem dX8_lie_105 : decode cX8_lie 105 = .ok (.istore 5, 2) := by decide +kernel
theorem dX8_lie_107 : decode cX8_lie 107 = .ok (.iload 5, 2) := by decide +kernel
theorem dX8_lie_109 : decode cX8_lie 109 = .ok (.iload_n 2, 1) := by decide +kernel
theorem dX8_lie_110 : decode cX8_lie 110 = .ok (.if_icmp .ge 28, 3) := by decide +kernel
theorem dX8_lie_113 : decode cX8_lie 113 = .ok (.aload_n 0, 1) := by decide +kernel
theorem dX8_lie_114 : decode cX8_lie 114 = .ok (.getfield 51, 3) := by decide +kernel
theorem dX8_lie_117 : decode cX8_lie 117 = .ok (.iload_n 1, 1) := by decide +kernel
theorem dX8_lie_118 : decode cX8_lie 118 = .ok (.bipush 10, 2) := by decide +kernel
theorem dX8_lie_120 : decode cX8_lie 120 = .ok (.imul, 1) := by decide +kernel
theorem dX8_lie_121 : decode cX8_lie 121 = .ok (.aload_n 0, 1) := by decide +kernel
theorem dX8_lie_122 : decode cX8_lie 122 = .ok (.getfield 81, 3) := by decide +kernel
theorem dX8_lie_125 : decode cX8_lie 125 = .ok (.iload 5, 2) := by decide +kernel
theorem dX8_lie_127 : decode cX8_lie 127 = .ok (.iaload, 1) := by decide +kernel
theorem dX8_lie_128 : decode cX8_lie 128 = .ok (.iadd, 1) := by decide +kernel
theorem dX8_lie_129 : decode cX8_lie 129 = .ok (.iload 5, 2) := by decide +kernel
theorem dX8_lie_131 : decode cX8_lie 131 = .ok (.iastore, 1) := by decide +kernel
theorem dX8_lie_132 : decode cX8_lie 132 = .ok (.iinc 5 1, 3) := by decide +kernel
theorem dX8_lie_135 : decode cX8_lie 135 = .ok (.goto (-28), 3) := by decide +kernel
theorem dX8_lie_138 : decode cX8_lie 138 = .ok (.aload_n 0, 1) := by decide +kernel
theorem dX8_lie_139 : decode cX8_lie 139 = .ok (.aload_n 0, 1) := by decide +kernel
theorem dX8_lie_140 : decode cX8_lie 140 = .ok (.getfield 25, 3) := by decide +kernel
theorem dX8_lie_143 : decode cX8_lie 143 = .ok (.iconst 0, 1) := by decide +kernel
theorem dX8_lie_144 : decode cX8_lie 144 = .ok (.iaload, 1) := by decide +kernel
theorem dX8_lie_145 : decode cX8_lie 145 = .ok (.invokevirtual 313, 3) := by decide +kernel
theorem dX8_lie_148 : decode cX8_lie 148 = .ok (.istore 5, 2) := by decide +kernel
theorem dX8_lie_150 : decode cX8_lie 150 = .ok (.iconst 0, 1) := by decide +kernel
theorem dX8_lie_151 : decode cX8_lie 151 = .ok (.istore 6, 2) := by decide +kernel
theorem dX8_lie_153 : decode cX8_lie 153 = .ok (.iconst 0, 1) := by decide +kernel
theorem dX8_lie_154 : decode cX8_lie 154 = .ok (.istore 7, 2) := by decide +kernel
theorem dX8_lie_156 : decode cX8_lie 156 = .ok (.iload 7, 2) := by decide +kernel
theorem dX8_lie_158 : decode cX8_lie 158 = .ok (.iload_n 2, 1) := by decide +kernel
theorem dX8_lie_159 : decode cX8_lie 159 = .ok (.if_icmp .ge 34, 3) := by decide +kernel
theorem dX8_lie_162 : decode cX8_lie 162 = .ok (.iload 5, 2) := by decide +kernel
theorem dX8_lie_164 : decode cX8_lie 164 = .ok (.iload 7, 2) := by decide +kernel
theorem dX8_lie_166 : decode cX8_lie 166 = .ok (.ishr, 1) := by decide +kernel
theorem dX8_lie_167 : decode cX8_lie 167 = .ok (.iconst 1, 1) := by decide +kernel
theorem dX8_lie_168 : decode cX8_lie 168 = .ok (.iand, 1) := by decide +kernel
theorem dX8_lie_169 : decode cX8_lie 169 = .ok (.iconst 1, 1) := by decide +kernel
theorem dX8_lie_170 : decode cX8_lie 170 = .ok (.if_icmp .ne 17, 3) := by decide +kernel
theorem dX8_lie_173 : decode cX8_lie 173 = .ok (.iload 6, 2) := by decide +kernel
theorem dX8_lie_175 : decode cX8_lie 175 = .ok (.aload_n 0, 1) := by decide +kernel
theorem dX8_lie_176 : decode cX8_lie 176 = .ok (.getfield 84, 3) := by decide +kernel
theorem dX8_lie_179 : decode cX8_lie 179 = .ok (.iload 7, 2) := by decide +kernel
theorem dX8_lie_181 : decode cX8_lie 181 = .ok (.iaload, 1) := by decide +kernel
theorem dX8_lie_182 : decode cX8_lie 182 = .ok (.invokestatic 329, 3) := by decide +kernel
theorem dX8_lie_185 : decode cX8_lie 185 = .ok (.istore 6, 2) := by decide +kernel
theorem dX8_lie_187 : decode cX8_lie 187 = .ok (.iinc 7 1, 3) := by decide +kernel
theorem dX8_lie_190 : decode cX8_lie 190 = .ok (.goto (-34), 3) := by decide +kernel
theorem dX8_lie_193 : decode cX8_lie 193 = .ok (.iload 6, 2) := by decide +kernel
theorem dX8_lie_195 : decode cX8_lie 195 = .ok (.iload_n 3, 1) := by decide +kernel
theorem dX8_lie_196 : decode cX8_lie 196 = .ok (.if_icmp .ge 41, 3) := by decide +kernel
theorem dX8_lie_199 : decode cX8_lie 199 = .ok (.iconst 0, 1) := by decide +kernel
theorem dX8_lie_200 : decode cX8_lie 200 = .ok (.istore 7, 2) := by decide +kernel
theorem dX8_lie_202 : decode cX8_lie 202 = .ok (.iconst 0, 1) := by decide +kernel
theorem dX8_lie_203 : decode cX8_lie 203 = .ok (.istore 8, 2) := by decide +kernel
theorem dX8_lie_205 : decode cX8_lie 205 = .ok (.iload 8, 2) := by decide +kernel
theorem dX8_lie_207 : decode cX8_lie 207 = .ok (.iload_n 2, 1) := by decide +kernel
theorem dX8_lie_208 : decode cX8_lie 208 = .ok (.if_icmp .ge 26, 3) := by decide +kernel
theorem dX8_lie_211 : decode cX8_lie 211 = .ok (.iload 7, 2) := by decide +kernel
theorem dX8_lie_213 : decode cX8_lie 213 = .ok (.aload_n 0, 1) := by decide +kernel
theorem dX8_lie_214 : decode cX8_lie 214 = .ok (.getfield 81, 3) := by decide +kernel
theorem dX8_lie_217 : decode cX8_lie 217 = .ok (.iload 8, 2) := by decide +kernel
theorem dX8_lie_219 : decode cX8_lie 219 = .ok (.iaload, 1) := by decide +kernel
theorem dX8_lie_220 : decode cX8_lie 220 = .ok (.iconst 4, 1) := by decide +kernel
theorem dX8_lie_221 : decode cX8_lie 221 = .ok (.iload 8, 2) := by decide +kernel
theorem dX8_lie_223 : decode cX8_lie 223 = .ok (.imul, 1) := by decide +kernel
theorem dX8_lie_224 : decode cX8_lie 224 = .ok (.ishl, 1) := by decide +kernel
theorem dX8_lie_225 : decode cX8_lie 225 = .ok (.ior, 1) := by decide +kernel
theorem dX8_lie_226 : decode cX8_lie 226 = .ok (.istore 7, 2) := by decide +kernel
theorem dX8_lie_228 : decode cX8_lie 228 = .ok (.iinc 8 1, 3) := by decide +kernel
theorem dX8_lie_231 : decode cX8_lie 231 = .ok (.goto (-26), 3) := by decide +kernel
theorem dX8_lie_234 : decode cX8_lie 234 = .ok (.iload 7, 2) := by decide +kernel
theorem dX8_lie_236 : decode cX8_lie 236 = .ok (.ireturn, 1) := by decide +kernel
theorem dX8_lie_237 : decode cX8_lie 237 = .ok (.aload_n 0, 1) := by decide +kernel
theorem dX8_lie_238 : decode cX8_lie 238 = .ok (.iload_n 2, 1) := by decide +kernel
theorem dX8_lie_239 : decode cX8_lie 239 = .ok (.invokevirtual 341, 3) := by decide +kernel
theorem dX8_lie_242 : decode cX8_lie 242 = .ok (.istore 4, 2) := by decide +kernel
theorem dX8_lie_244 : decode cX8_lie 244 = .ok (.goto (-145), 3) := by decide +kernel
theorem dX8_lie_247 : decode cX8_lie 247 = .ok (.iconst (-1), 1) := by decide +kernel
theorem dX8_lie_248 : decode cX8_lie 248 = .ok (.ireturn, 1) := by decide +kernel
theorem dX8_trades_0 : decode cX8_trades 0 = .ok (.aload_n 0, 1) := by decide +kernel
theorem dX8_trades_1 : decode cX8_trades 1 = .ok (.iconst 0, 1) := by decide +kernel
theorem dX8_trades_2 : decode cX8_trades 2 = .ok (.putfield 117, 3) := by decide +kernel
theorem dX8_trades_5 : decode cX8_trades 5 = .ok (.iload_n 1, 1) := by decide +kernel
theorem dX8_trades_6 : decode cX8_trades 6 = .ok (.ifCond .lt 8, 3) := by decide +kernel
theorem dX8_trades_9 : decode cX8_trades 9 = .ok (.iload_n 1, 1) := by decide +kernel
theorem dX8_trades_10 : decode cX8_trades 10 = .ok (.iconst 1, 1) := by decide +kernel
theorem dX8_trades_11 : decode cX8_trades 11 = .ok (.if_icmp .le 9, 3) := by decide +kernel
theorem dX8_trades_14 : decode cX8_trades 14 = .ok (.aload_n 0, 1) := by decide +kernel
theorem dX8_trades_15 : decode cX8_trades 15 = .ok (.iconst 1, 1) := by decide +kernel
theorem dX8_trades_16 : decode cX8_trades 16 = .ok (.invokevirtual 232, 3) := by decide +kernel
theorem dX8_trades_19 : decode cX8_trades 19 = .ok (.ireturn, 1) := by decide +kernel
theorem dX8_trades_20 : decode cX8_trades 20 = .ok (.aload_n 0, 1) := by decide +kernel
theorem dX8_trades_21 : decode cX8_trades 21 = .ok (.invokevirtual 310, 3) := by decide +kernel
theorem dX8_trades_24 : decode cX8_trades 24 = .ok (.aload_n 0, 1) := by decide +kernel
theorem dX8_trades_25 : decode cX8_trades 25 = .ok (.aload_n 0, 1) := by decide +kernel
theorem dX8_trades_26 : decode cX8_trades 26 = .ok (.getfield 25, 3) := by decide +kernel
theorem dX8_trades_29 : decode cX8_trades 29 = .ok (.iconst 0, 1) := by decide +kernel
theorem dX8_trades_30 : decode cX8_trades 30 = .ok (.iaload, 1) := by decide +kernel
theorem dX8_trades_31 : decode cX8_trades 31 = .ok (.invokevirtual 313, 3) := by decide +kernel
theorem dX8_trades_34 : decode cX8_trades 34 = .ok (.istore_n 2, 1) := by decide +kernel
theorem dX8_trades_35 : decode cX8_trades 35 = .ok (.iconst 0, 1) := by decide +kernel
theorem dX8_trades_36 : decode cX8_trades 36 = .ok (.istore_n 3, 1) := by decide +kernel
theorem dX8_trades_37 : decode cX8_trades 37 = .ok (.iconst (-1), 1) := by decide +kernel
theorem dX8_trades_38 : decode cX8_trades 38 = .ok (.istore 4, 2) := by decide +kernel
theorem dX8_trades_40 : decode cX8_trades 40 = .ok (.iconst 0, 1) := by decide +kernel
theorem dX8_trades_41 : decode cX8_trades 41 = .ok (.istore 5, 2) := by decide +kernel
theorem dX8_trades_43 : decode cX8_trades 43 = .ok (.iload 5, 2) := by decide +kernel
theorem dX8_trades_45 : decode cX8_trades 45 = .ok (.aload_n 0, 1) := by decide +kernel
theorem dX8_trades_46 : decode cX8_trades 46 = .ok (.getfield 25, 3) := by decide +kernel
theorem dX8_trades_49 : decode cX8_trades 49 = .ok (.iconst 0, 1) := by decide +kernel
theorem dX8_trades_50 : decode cX8_trades 50 = .ok (.iaload, 1) := by decide +kernel
theorem dX8_trades_51 : decode cX8_trades 51 = .ok (.if_icmp .ge 203, 3) := by decide +kernel
theorem dX8_trades_54 : decode cX8_trades 54 = .ok (.iload 5, 2) := by decide +kernel
theorem dX8_trades_56 : decode cX8_trades 56 = .ok (.iconst 1, 1) := by decide +kernel
theorem dX8_trades_57 : decode cX8_trades 57 = .ok (.iadd, 1) := by decide +kernel
theorem dX8_trades_58 : decode cX8_trades 58 = .ok (.istore 6, 2) := by decide +kernel
theorem dX8_trades_60 : decode cX8_trades 60 = .ok (.iload 6, 2) := by decide +kernel
theorem dX8_trades_62 : decode cX8_trades 62 = .ok (.aload_n 0, 1) := by decide +kernel
theorem dX8_trades_63 : decode cX8_trades 63 = .ok (.getfield 25, 3) := by decide +kernel
theorem dX8_trades_66 : decode cX8_trades 66 = .ok (.iconst 0, 1) := by decide +kernel
theorem dX8_trades_67 : decode cX8_trades 67 = .ok (.iaload, 1) := by decide +kernel
theorem dX8_trades_68 : decode cX8_trades 68 = .ok (.if_icmp .ge 180, 3) := by decide +kernel
theorem dX8_trades_71 : decode cX8_trades 71 = .ok (.aload_n 0, 1) := by decide +kernel
theorem dX8_trades_72 : decode cX8_trades 72 = .ok (.getfield 37, 3) := by decide +kernel
theorem dX8_trades_75 : decode cX8_trades 75 = .ok (.iload 5, 2) := by decide +kernel
theorem dX8_trades_77 : decode cX8_trades 77 = .ok (.iaload, 1) := by decide +kernel
theorem dX8_trades_78 : decode cX8_trades 78 = .ok (.aload_n 0, 1) := by decide +kernel
theorem dX8_trades_79 : decode cX8_trades 79 = .ok (.getfield 37, 3) := by decide +kernel
theorem dX8_trades_82 : decode cX8_trades 82 = .ok (.iload 6, 2) := by decide +kernel
theorem dX8_trades_84 : decode cX8_trades 84 = .ok (.iaload, 1) := by decide +kernel
theorem dX8_trades_85 : decode cX8_trades 85 = .ok (.if_icmp .ne 6, 3) := by decide +kernel
theorem dX8_trades_88 : decode cX8_trades 88 = .ok (.goto 154, 3) := by decide +kernel
theorem dX8_trades_91 : decode cX8_trades 91 = .ok (.aload_n 0, 1) := by decide +kernel
theorem dX8_trades_92 : decode cX8_trades 92 = .ok (.getfield 63, 3) := by decide +kernel
theorem dX8_trades_95 : decode cX8_trades 95 = .ok (.iload 5, 2) := by decide +kernel
theorem dX8_trades_97 : decode cX8_trades 97 = .ok (.aload_n 0, 1) := by decide +kernel
theorem dX8_trades_98 : decode cX8_trades 98 = .ok (.getfield 37, 3) := by decide +kernel
theorem dX8_trades_101 : decode cX8_trades 101 = .ok (.iload 6, 2) := by decide +kernel
theorem dX8_trades_103 : decode cX8_trades 103 = .ok (.iaload, 1) := by decide +kernel
theorem dX8_trades_104 : decode cX8_trades 104 = .ok (.iastore, 1) := by decide +kernel
theorem dX8_trades_105 : decode cX8_trades 105 = .ok (.aload_n 0, 1) := by decide +kernel
theorem dX8_trades_106 : decode cX8_trades 106 = .ok (.getfield 63, 3) := by decide +kernel
theorem dX8_trades_109 : decode cX8_trades 109 = .ok (.iload 6, 2) := by decide +kernel
theorem dX8_trades_111 : decode cX8_trades 111 = .ok (.aload_n 0, 1) := by decide +kernel
theorem dX8_trades_112 : decode cX8_trades 112 = .ok (.getfield 37, 3) := by decide +kernel
theorem dX8_trades_115 : decode cX8_trades 115 = .ok (.iload 5, 2) := by decide +kernel
theorem dX8_trades_117 : decode cX8_trades 117 = .ok (.iaload, 1) := by decide +kernel
theorem dX8_trades_118 : decode cX8_trades 118 = .ok (.iastore, 1) := by decide +kernel
theorem dX8_trades_119 : decode cX8_trades 119 = .ok (.aload_n 0, 1) := by decide +kernel
theorem dX8_trades_120 : decode cX8_trades 120 = .ok (.aload_n 0, 1) := by decide +kernel
theorem dX8_trades_121 : decode cX8_trades 121 = .ok (.getfield 25, 3) := by decide +kernel
theorem dX8_trades_124 : decode cX8_trades 124 = .ok (.iconst 0, 1) := by decide +kernel
theorem dX8_trades_125 : decode cX8_trades 125 = .ok (.iaload, 1) := by decide +kernel
theorem dX8_trades_126 : decode cX8_trades 126 = .ok (.invokevirtual 313, 3) := by decide +kernel
theorem dX8_trades_129 : decode cX8_trades 129 = .ok (.istore 7, 2) := by decide +kernel
theorem dX8_trades_131 : decode cX8_trades 131 = .ok (.aload_n 0, 1) := by decide +kernel
theorem dX8_trades_132 : decode cX8_trades 132 = .ok (.getfield 63, 3) := by decide +kernel
theorem dX8_trades_135 : decode cX8_trades 135 = .ok (.iload 5, 2) := by decide +kernel
theorem dX8_trades_137 : decode cX8_trades 137 = .ok (.aload_n 0, 1) := by decide +kernel
theorem dX8_trades_138 : decode cX8_trades 138 = .ok (.getfield 37, 3) := by decide +kernel
theorem dX8_trades_141 : decode cX8_trades 141 = .ok (.iload 5, 2) := by decide +kernel
theorem dX8_trades_143 : decode cX8_trades 143 = .ok (.iaload, 1) := by decide +kernel
theorem dX8_trades_144 : decode cX8_trades 144 = .ok (.iastore, 1) := by decide +kernel
theorem dX8_trades_145 : decode cX8_trades 145 = .ok (.aload_n 0, 1) := by decide +kernel
theorem dX8_trades_146 : decode cX8_trades 146 = .ok (.getfield 63, 3) := by decide +kernel
theorem dX8_trades_149 : decode cX8_trades 149 = .ok (.iload 6, 2) := by decide +kernel
theorem dX8_trades_151 : decode cX8_trades 151 = .ok (.aload_n 0, 1) := by decide +kernel
theorem dX8_trades_152 : decode cX8_trades 152 = .ok (.getfield 37, 3) := by decide +kernel
theorem dX8_trades_155 : decode cX8_trades 155 = .ok (.iload 6, 2) := by decide +kernel
theorem dX8_trades_157 : decode cX8_trades 157 = .ok (.iaload, 1) := by decide +kernel
theorem dX8_trades_158 : decode cX8_trades 158 = .ok (.iastore, 1) := by decide +kernel
theorem dX8_trades_159 : decode cX8_trades 159 = .ok (.aload_n 0, 1) := by decide +kernel
theorem dX8_trades_160 : decode cX8_trades 160 = .ok (.aload_n 0, 1) := by decide +kernel
theorem dX8_trades_161 : decode cX8_trades 161 = .ok (.getfield 37, 3) := by decide +kernel
theorem dX8_trades_164 : decode cX8_trades 164 = .ok (.iload 5, 2) := by decide +kernel
theorem dX8_trades_166 : decode cX8_trades 166 = .ok (.iaload, 1) := by decide +kernel
theorem dX8_trades_167 : decode cX8_trades 167 = .ok (.iload 7, 2) := by decide +kernel
theorem dX8_trades_169 : decode cX8_trades 169 = .ok (.invokevirtual 332, 3) := by decide +kernel
theorem dX8_trades_172 : decode cX8_trades 172 = .ok (.aload_n 0, 1) := by decide +kernel
theorem dX8_trades_173 : decode cX8_trades 173 = .ok (.aload_n 0, 1) := by decide +kernel
theorem dX8_trades_174 : decode cX8_trades 174 = .ok (.getfield 37, 3) := by decide +kernel
theorem dX8_trades_177 : decode cX8_trades 177 = .ok (.iload 5, 2) := by decide +kernel
theorem dX8_trades_179 : decode cX8_trades 179 = .ok (.iaload, 1) := by decide +kernel
theorem dX8_trades_180 : decode cX8_trades 180 = .ok (.iload_n 2, 1) := by decide +kernel
theorem dX8_trades_181 : decode cX8_trades 181 = .ok (.invokevirtual 332, 3) := by decide +kernel
theorem dX8_trades_184 : decode cX8_trades 184 = .ok (.if_icmp .ge 58, 3) := by decide +kernel
theorem dX8_trades_187 : decode cX8_trades 187 = .ok (.aload_n 0, 1) := by decide +kernel
theorem dX8_trades_188 : decode cX8_trades 188 = .ok (.aload_n 0, 1) := by decide +kernel
theorem dX8_trades_189 : decode cX8_trades 189 = .ok (.getfield 37, 3) := by decide +kernel
theorem dX8_trades_192 : decode cX8_trades 192 = .ok (.iload 6, 2) := by decide +kernel
theorem dX8_trades_194 : decode cX8_trades 194 = .ok (.iaload, 1) := by decide +kernel
theorem dX8_trades_195 : decode cX8_trades 195 = .ok (.iload 7, 2) := by decide +kernel
theorem dX8_trades_197 : decode cX8_trades 197 = .ok (.invokevirtual 332, 3) := by decide +kernel
theorem dX8_trades_200 : decode cX8_trades 200 = .ok (.aload_n 0, 1) := by decide +kernel
theorem dX8_trades_201 : decode cX8_trades 201 = .ok (.aload_n 0, 1) := by decide +kernel
theorem dX8_trades_202 : decode cX8_trades 202 = .ok (.getfield 37, 3) := by decide +kernel
theorem dX8_trades_205 : decode cX8_trades 205 = .ok (.iload 6, 2) := by decide +kernel
theorem dX8_trades_207 : decode cX8_trades 207 = .ok (.iaload, 1) := by decide +kernel
theorem dX8_trades_208 : decode cX8_trades 208 = .ok (.iload_n 2, 1) := by decide +kernel
theorem dX8_trades_209 : decode cX8_trades 209 = .ok (.invokevirtual 332, 3) := by decide +kernel
theorem dX8_trades_212 : decode cX8_trades 212 = .ok (.if_icmp .lt 6, 3) := by decide +kernel
theorem dX8_trades_215 : decode cX8_trades 215 = .ok (.goto 27, 3) := by decide +kernel
theorem dX8_trades_218 : decode cX8_trades 218 = .ok (.iinc 3 1, 3) := by decide +kernel
theorem dX8_trades_221 : decode cX8_trades 221 = .ok (.iload 4, 2) := by decide +kernel
theorem dX8_trades_223 : decode cX8_trades 223 = .ok (.iconst (-1), 1) := by decide +kernel
theorem dX8_trades_224 : decode cX8_trades 224 = .ok (.if_icmp .ne 14, 3) := by decide +kernel
theorem dX8_trades_227 : decode cX8_trades 227 = .ok (.bipush 8, 2) := by decide +kernel
theorem dX8_trades_229 : decode cX8_trades 229 = .ok (.iload 5, 2) := by decide +kernel
theorem dX8_trades_231 : decode cX8_trades 231 = .ok (.imul, 1) := by decide +kernel
theorem dX8_trades_232 : decode cX8_trades 232 = .ok (.iload 6, 2) := by decide +kernel
theorem dX8_trades_234 : decode cX8_trades 234 = .ok (.iadd, 1) := by decide +kernel
theorem dX8_trades_235 : decode cX8_trades 235 = .ok (.goto 5, 3) := by decide +kernel
theorem dX8_trades_238 : decode cX8_trades 238 = .ok (.iload 4, 2) := by decide +kernel
theorem dX8_trades_240 : decode cX8_trades 240 = .ok (.istore 4, 2) := by decide +kernel
theorem dX8_trades_242 : decode cX8_trades 242 = .ok (.iinc 6 1, 3) := by decide +kernel
theorem dX8_trades_245 : decode cX8_trades 245 = .ok (.goto (-185), 3) := by decide +kernel
theorem dX8_trades_248 : decode cX8_trades 248 = .ok (.iinc 5 1, 3) := by decide +kernel
theorem dX8_trades_251 : decode cX8_trades 251 = .ok (.goto (-208), 3) := by decide +kernel
theorem dX8_trades_254 : decode cX8_trades 254 = .ok (.iload_n 1, 1) := by decide +kernel
theorem dX8_trades_255 : decode cX8_trades 255 = .ok (.ifCond .ne 7, 3) := by decide +kernel
theorem dX8_trades_258 : decode cX8_trades 258 = .ok (.iload_n 3, 1) := by decide +kernel
theorem dX8_trades_259 : decode cX8_trades 259 = .ok (.goto 5, 3) := by decide +kernel
theorem dX8_trades_262 : decode cX8_trades 262 = .ok (.iload 4, 2) := by decide +kernel
theorem dX8_trades_264 : decode cX8_trades 264 = .ok (.ireturn, 1) := by decide +kernel
theorem dX8_greatest_0 : decode cX8_greatest 0 = .ok (.iconst 0, 1) := by decide +kernel
theorem dX8_greatest_1 : decode cX8_greatest 1 = .ok (.istore_n 2, 1) := by decide +kernel
theorem dX8_greatest_2 : decode cX8_greatest 2 = .ok (.iconst 0, 1) := by decide +kernel
theorem dX8_greatest_3 : decode cX8_greatest 3 = .ok (.istore_n 3, 1) := by decide +kernel
theorem dX8_greatest_4 : decode cX8_greatest 4 = .ok (.iload_n 3, 1) := by decide +kernel
theorem dX8_greatest_5 : decode cX8_greatest 5 = .ok (.aload_n 0, 1) := by decide +kernel
theorem dX8_greatest_6 : decode cX8_greatest 6 = .ok (.getfield 13, 3) := by decide +kernel
theorem dX8_greatest_9 : decode cX8_greatest 9 = .ok (.iconst 0, 1) := by decide +kernel
theorem dX8_greatest_10 : decode cX8_greatest 10 = .ok (.iaload, 1) := by decide +kernel
theorem dX8_greatest_11 : decode cX8_greatest 11 = .ok (.if_icmp .ge 25, 3) := by decide +kernel
theorem dX8_greatest_14 : decode cX8_greatest 14 = .ok (.iload_n 2, 1) := by decide +kernel
theorem dX8_greatest_15 : decode cX8_greatest 15 = .ok (.aload_n 0, 1) := by decide +kernel
theorem dX8_greatest_16 : decode cX8_greatest 16 = .ok (.getfield 51, 3) := by decide +kernel
theorem dX8_greatest_19 : decode cX8_greatest 19 = .ok (.iload_n 3, 1) := by decide +kernel
theorem dX8_greatest_20 : decode cX8_greatest 20 = .ok (.bipush 10, 2) := by decide +kernel
theorem dX8_greatest_22 : decode cX8_greatest 22 = .ok (.imul, 1) := by decide +kernel
theorem dX8_greatest_23 : decode cX8_greatest 23 = .ok (.iload_n 1, 1) := by decide +kernel
theorem dX8_greatest_24 : decode cX8_greatest 24 = .ok (.iadd, 1) := by decide +kernel
theorem dX8_greatest_25 : decode cX8_greatest 25 = .ok (.iaload, 1) := by decide +kernel
theorem dX8_greatest_26 : decode cX8_greatest 26 = .ok (.invokestatic 329, 3) := by decide +kernel
theorem dX8_greatest_29 : decode cX8_greatest 29 = .ok (.istore_n 2, 1) := by decide +kernel
theorem dX8_greatest_30 : decode cX8_greatest 30 = .ok (.iinc 3 1, 3) := by decide +kernel
theorem dX8_greatest_33 : decode cX8_greatest 33 = .ok (.goto (-29), 3) := by decide +kernel
theorem dX8_greatest_36 : decode cX8_greatest 36 = .ok (.iload_n 2, 1) := by decide +kernel
theorem dX8_greatest_37 : decode cX8_greatest 37 = .ok (.ireturn, 1) := by decide +kernel
theorem dX8_weighed_0 : decode cX8_weighed 0 = .ok (.iconst 0, 1) := by decide +kernel
theorem dX8_weighed_1 : decode cX8_weighed 1 = .ok (.istore_n 2, 1) := by decide +kernel
theorem dX8_weighed_2 : decode cX8_weighed 2 = .ok (.iconst 0, 1) := by decide +kernel
theorem dX8_weighed_3 : decode cX8_weighed 3 = .ok (.istore_n 3, 1) := by decide +kernel
theorem dX8_weighed_4 : decode cX8_weighed 4 = .ok (.iload_n 3, 1) := by decide +kernel
theorem dX8_weighed_5 : decode cX8_weighed 5 = .ok (.aload_n 0, 1) := by decide +kernel
theorem dX8_weighed_6 : decode cX8_weighed 6 = .ok (.getfield 13, 3) := by decide +kernel
theorem dX8_weighed_9 : decode cX8_weighed 9 = .ok (.iconst 0, 1) := by decide +kernel
theorem dX8_weighed_10 : decode cX8_weighed 10 = .ok (.iaload, 1) := by decide +kernel
theorem dX8_weighed_11 : decode cX8_weighed 11 = .ok (.if_icmp .ge 30, 3) := by decide +kernel
theorem dX8_weighed_14 : decode cX8_weighed 14 = .ok (.iload_n 2, 1) := by decide +kernel
theorem dX8_weighed_15 : decode cX8_weighed 15 = .ok (.aload_n 0, 1) := by decide +kernel
theorem dX8_weighed_16 : decode cX8_weighed 16 = .ok (.getfield 51, 3) := by decide +kernel
theorem dX8_weighed_19 : decode cX8_weighed 19 = .ok (.iload_n 3, 1) := by decide +kernel
theorem dX8_weighed_20 : decode cX8_weighed 20 = .ok (.bipush 10, 2) := by decide +kernel
theorem dX8_weighed_22 : decode cX8_weighed 22 = .ok (.imul, 1) := by decide +kernel
theorem dX8_weighed_23 : decode cX8_weighed 23 = .ok (.iload_n 1, 1) := by decide +kernel
theorem dX8_weighed_24 : decode cX8_weighed 24 = .ok (.iadd, 1) := by decide +kernel
theorem dX8_weighed_25 : decode cX8_weighed 25 = .ok (.iaload, 1) := by decide +kernel
theorem dX8_weighed_26 : decode cX8_weighed 26 = .ok (.aload_n 0, 1) := by decide +kernel
theorem dX8_weighed_27 : decode cX8_weighed 27 = .ok (.getfield 28, 3) := by decide +kernel
theorem dX8_weighed_30 : decode cX8_weighed 30 = .ok (.iload_n 3, 1) := by decide +kernel
theorem dX8_weighed_31 : decode cX8_weighed 31 = .ok (.iaload, 1) := by decide +kernel
theorem dX8_weighed_32 : decode cX8_weighed 32 = .ok (.imul, 1) := by decide +kernel
theorem dX8_weighed_33 : decode cX8_weighed 33 = .ok (.iadd, 1) := by decide +kernel
theorem dX8_weighed_34 : decode cX8_weighed 34 = .ok (.istore_n 2, 1) := by decide +kernel
theorem dX8_weighed_35 : decode cX8_weighed 35 = .ok (.iinc 3 1, 3) := by decide +kernel
theorem dX8_weighed_38 : decode cX8_weighed 38 = .ok (.goto (-34), 3) := by decide +kernel
theorem dX8_weighed_41 : decode cX8_weighed 41 = .ok (.iload_n 2, 1) := by decide +kernel
theorem dX8_weighed_42 : decode cX8_weighed 42 = .ok (.ireturn, 1) := by decide +kernel
theorem dX8_grumble_0 : decode cX8_grumble 0 = .ok (.aload_n 0, 1) := by decide +kernel
theorem dX8_grumble_1 : decode cX8_grumble 1 = .ok (.iconst 0, 1) := by decide +kernel
theorem dX8_grumble_2 : decode cX8_grumble 2 = .ok (.putfield 117, 3) := by decide +kernel
theorem dX8_grumble_5 : decode cX8_grumble 5 = .ok (.aload_n 0, 1) := by decide +kernel
theorem dX8_grumble_6 : decode cX8_grumble 6 = .ok (.iload_n 1, 1) := by decide +kernel
theorem dX8_grumble_7 : decode cX8_grumble 7 = .ok (.invokevirtual 264, 3) := by decide +kernel
theorem dX8_grumble_10 : decode cX8_grumble 10 = .ok (.ifCond .eq 12, 3) := by decide +kernel
theorem dX8_grumble_13 : decode cX8_grumble 13 = .ok (.iload_n 2, 1) := by decide +kernel
theorem dX8_grumble_14 : decode cX8_grumble 14 = .ok (.ifCond .lt 8, 3) := by decide +kernel
theorem dX8_grumble_17 : decode cX8_grumble 17 = .ok (.iload_n 2, 1) := by decide +kernel
theorem dX8_grumble_18 : decode cX8_grumble 18 = .ok (.iconst 1, 1) := by decide +kernel
theorem dX8_grumble_19 : decode cX8_grumble 19 = .ok (.if_icmp .le 9, 3) := by decide +kernel
theorem dX8_grumble_22 : decode cX8_grumble 22 = .ok (.aload_n 0, 1) := by decide +kernel
theorem dX8_grumble_23 : decode cX8_grumble 23 = .ok (.iconst 1, 1) := by decide +kernel
theorem dX8_grumble_24 : decode cX8_grumble 24 = .ok (.invokevirtual 232, 3) := by decide +kernel
theorem dX8_grumble_27 : decode cX8_grumble 27 = .ok (.ireturn, 1) := by decide +kernel
theorem dX8_grumble_28 : decode cX8_grumble 28 = .ok (.aload_n 0, 1) := by decide +kernel
theorem dX8_grumble_29 : decode cX8_grumble 29 = .ok (.invokevirtual 258, 3) := by decide +kernel
theorem dX8_grumble_32 : decode cX8_grumble 32 = .ok (.iload_n 2, 1) := by decide +kernel
theorem dX8_grumble_33 : decode cX8_grumble 33 = .ok (.ifCond .ne 11, 3) := by decide +kernel
theorem dX8_grumble_36 : decode cX8_grumble 36 = .ok (.aload_n 0, 1) := by decide +kernel
theorem dX8_grumble_37 : decode cX8_grumble 37 = .ok (.iload_n 1, 1) := by decide +kernel
theorem dX8_grumble_38 : decode cX8_grumble 38 = .ok (.invokevirtual 344, 3) := by decide +kernel
theorem dX8_grumble_41 : decode cX8_grumble 41 = .ok (.goto 8, 3) := by decide +kernel
theorem dX8_grumble_44 : decode cX8_grumble 44 = .ok (.aload_n 0, 1) := by decide +kernel
theorem dX8_grumble_45 : decode cX8_grumble 45 = .ok (.iload_n 1, 1) := by decide +kernel
theorem dX8_grumble_46 : decode cX8_grumble 46 = .ok (.invokevirtual 347, 3) := by decide +kernel
theorem dX8_grumble_49 : decode cX8_grumble 49 = .ok (.ireturn, 1) := by decide +kernel
theorem dX8_leastOf_0 : decode cX8_leastOf 0 = .ok (.aload_n 0, 1) := by decide +kernel
theorem dX8_leastOf_1 : decode cX8_leastOf 1 = .ok (.invokevirtual 258, 3) := by decide +kernel
theorem dX8_leastOf_4 : decode cX8_leastOf 4 = .ok (.aload_n 0, 1) := by decide +kernel
theorem dX8_leastOf_5 : decode cX8_leastOf 5 = .ok (.aload_n 0, 1) := by decide +kernel
theorem dX8_leastOf_6 : decode cX8_leastOf 6 = .ok (.invokevirtual 270, 3) := by decide +kernel
theorem dX8_leastOf_9 : decode cX8_leastOf 9 = .ok (.invokevirtual 301, 3) := by decide +kernel
theorem dX8_leastOf_12 : decode cX8_leastOf 12 = .ok (.istore_n 1, 1) := by decide +kernel
theorem dX8_leastOf_13 : decode cX8_leastOf 13 = .ok (.iconst (-1), 1) := by decide +kernel
theorem dX8_leastOf_14 : decode cX8_leastOf 14 = .ok (.istore_n 2, 1) := by decide +kernel
theorem dX8_leastOf_15 : decode cX8_leastOf 15 = .ok (.iconst 0, 1) := by decide +kernel
theorem dX8_leastOf_16 : decode cX8_leastOf 16 = .ok (.istore_n 3, 1) := by decide +kernel
theorem dX8_leastOf_17 : decode cX8_leastOf 17 = .ok (.iload_n 3, 1) := by decide +kernel
theorem dX8_leastOf_18 : decode cX8_leastOf 18 = .ok (.aload_n 0, 1) := by decide +kernel
theorem dX8_leastOf_19 : decode cX8_leastOf 19 = .ok (.getfield 251, 3) := by decide +kernel
theorem dX8_leastOf_22 : decode cX8_leastOf 22 = .ok (.if_icmp .ge 86, 3) := by decide +kernel
theorem dX8_leastOf_25 : decode cX8_leastOf 25 = .ok (.iload_n 1, 1) := by decide +kernel
theorem dX8_leastOf_26 : decode cX8_leastOf 26 = .ok (.ifCond .eq 14, 3) := by decide +kernel
theorem dX8_leastOf_29 : decode cX8_leastOf 29 = .ok (.iload_n 1, 1) := by decide +kernel
theorem dX8_leastOf_30 : decode cX8_leastOf 30 = .ok (.iload_n 3, 1) := by decide +kernel
theorem dX8_leastOf_31 : decode cX8_leastOf 31 = .ok (.ishr, 1) := by decide +kernel
theorem dX8_leastOf_32 : decode cX8_leastOf 32 = .ok (.iconst 1, 1) := by decide +kernel
theorem dX8_leastOf_33 : decode cX8_leastOf 33 = .ok (.iand, 1) := by decide +kernel
theorem dX8_leastOf_34 : decode cX8_leastOf 34 = .ok (.ifCond .ne 6, 3) := by decide +kernel
theorem dX8_leastOf_37 : decode cX8_leastOf 37 = .ok (.goto 65, 3) := by decide +kernel
theorem dX8_leastOf_40 : decode cX8_leastOf 40 = .ok (.iload_n 2, 1) := by decide +kernel
theorem dX8_leastOf_41 : decode cX8_leastOf 41 = .ok (.iconst (-1), 1) := by decide +kernel
theorem dX8_leastOf_42 : decode cX8_leastOf 42 = .ok (.if_icmp .eq 42, 3) := by decide +kernel
theorem dX8_leastOf_45 : decode cX8_leastOf 45 = .ok (.aload_n 0, 1) := by decide +kernel
theorem dX8_leastOf_46 : decode cX8_leastOf 46 = .ok (.iload_n 3, 1) := by decide +kernel
theorem dX8_leastOf_47 : decode cX8_leastOf 47 = .ok (.invokevirtual 344, 3) := by decide +kernel
theorem dX8_leastOf_50 : decode cX8_leastOf 50 = .ok (.aload_n 0, 1) := by decide +kernel
theorem dX8_leastOf_51 : decode cX8_leastOf 51 = .ok (.iload_n 2, 1) := by decide +kernel
theorem dX8_leastOf_52 : decode cX8_leastOf 52 = .ok (.invokevirtual 344, 3) := by decide +kernel
theorem dX8_leastOf_55 : decode cX8_leastOf 55 = .ok (.if_icmp .lt 29, 3) := by decide +kernel
theorem dX8_leastOf_58 : decode cX8_leastOf 58 = .ok (.aload_n 0, 1) := by decide +kernel
theorem dX8_leastOf_59 : decode cX8_leastOf 59 = .ok (.iload_n 3, 1) := by decide +kernel
theorem dX8_leastOf_60 : decode cX8_leastOf 60 = .ok (.invokevirtual 344, 3) := by decide +kernel
theorem dX8_leastOf_63 : decode cX8_leastOf 63 = .ok (.aload_n 0, 1) := by decide +kernel
theorem dX8_leastOf_64 : decode cX8_leastOf 64 = .ok (.iload_n 2, 1) := by decide +kernel
theorem dX8_leastOf_65 : decode cX8_leastOf 65 = .ok (.invokevirtual 344, 3) := by decide +kernel
theorem dX8_leastOf_68 : decode cX8_leastOf 68 = .ok (.if_icmp .ne 20, 3) := by decide +kernel
theorem dX8_leastOf_71 : decode cX8_leastOf 71 = .ok (.aload_n 0, 1) := by decide +kernel
theorem dX8_leastOf_72 : decode cX8_leastOf 72 = .ok (.iload_n 3, 1) := by decide +kernel
theorem dX8_leastOf_73 : decode cX8_leastOf 73 = .ok (.invokevirtual 347, 3) := by decide +kernel
theorem dX8_leastOf_76 : decode cX8_leastOf 76 = .ok (.aload_n 0, 1) := by decide +kernel
theorem dX8_leastOf_77 : decode cX8_leastOf 77 = .ok (.iload_n 2, 1) := by decide +kernel
theorem dX8_leastOf_78 : decode cX8_leastOf 78 = .ok (.invokevirtual 347, 3) := by decide +kernel
theorem dX8_leastOf_81 : decode cX8_leastOf 81 = .ok (.if_icmp .ge 7, 3) := by decide +kernel
theorem dX8_leastOf_84 : decode cX8_leastOf 84 = .ok (.iconst 1, 1) := by decide +kernel
theorem dX8_leastOf_85 : decode cX8_leastOf 85 = .ok (.goto 4, 3) := by decide +kernel
theorem dX8_leastOf_88 : decode cX8_leastOf 88 = .ok (.iconst 0, 1) := by decide +kernel
theorem dX8_leastOf_89 : decode cX8_leastOf 89 = .ok (.istore 4, 2) := by decide +kernel
theorem dX8_leastOf_91 : decode cX8_leastOf 91 = .ok (.iload 4, 2) := by decide +kernel
theorem dX8_leastOf_93 : decode cX8_leastOf 93 = .ok (.ifCond .eq 7, 3) := by decide +kernel
theorem dX8_leastOf_96 : decode cX8_leastOf 96 = .ok (.iload_n 3, 1) := by decide +kernel
theorem dX8_leastOf_97 : decode cX8_leastOf 97 = .ok (.goto 4, 3) := by decide +kernel
theorem dX8_leastOf_100 : decode cX8_leastOf 100 = .ok (.iload_n 2, 1) := by decide +kernel
theorem dX8_leastOf_101 : decode cX8_leastOf 101 = .ok (.istore_n 2, 1) := by decide +kernel
theorem dX8_leastOf_102 : decode cX8_leastOf 102 = .ok (.iinc 3 1, 3) := by decide +kernel
theorem dX8_leastOf_105 : decode cX8_leastOf 105 = .ok (.goto (-88), 3) := by decide +kernel
theorem dX8_leastOf_108 : decode cX8_leastOf 108 = .ok (.iload_n 2, 1) := by decide +kernel
theorem dX8_leastOf_109 : decode cX8_leastOf 109 = .ok (.ireturn, 1) := by decide +kernel
theorem dX8_least_0 : decode cX8_least 0 = .ok (.aload_n 0, 1) := by decide +kernel
theorem dX8_least_1 : decode cX8_least 1 = .ok (.iconst 0, 1) := by decide +kernel
theorem dX8_least_2 : decode cX8_least 2 = .ok (.putfield 117, 3) := by decide +kernel
theorem dX8_least_5 : decode cX8_least 5 = .ok (.aload_n 0, 1) := by decide +kernel
theorem dX8_least_6 : decode cX8_least 6 = .ok (.invokevirtual 350, 3) := by decide +kernel
theorem dX8_least_9 : decode cX8_least 9 = .ok (.ireturn, 1) := by decide +kernel
theorem dX8_headsOf_0 : decode cX8_headsOf 0 = .ok (.iconst 0, 1) := by decide +kernel
theorem dX8_headsOf_1 : decode cX8_headsOf 1 = .ok (.istore_n 2, 1) := by decide +kernel
theorem dX8_headsOf_2 : decode cX8_headsOf 2 = .ok (.iconst 0, 1) := by decide +kernel
theorem dX8_headsOf_3 : decode cX8_headsOf 3 = .ok (.istore_n 3, 1) := by decide +kernel
theorem dX8_headsOf_4 : decode cX8_headsOf 4 = .ok (.iload_n 3, 1) := by decide +kernel
theorem dX8_headsOf_5 : decode cX8_headsOf 5 = .ok (.aload_n 0, 1) := by decide +kernel
theorem dX8_headsOf_6 : decode cX8_headsOf 6 = .ok (.getfield 13, 3) := by decide +kernel
theorem dX8_headsOf_9 : decode cX8_headsOf 9 = .ok (.iconst 0, 1) := by decide +kernel
theorem dX8_headsOf_10 : decode cX8_headsOf 10 = .ok (.iaload, 1) := by decide +kernel
theorem dX8_headsOf_11 : decode cX8_headsOf 11 = .ok (.if_icmp .ge 45, 3) := by decide +kernel
theorem dX8_headsOf_14 : decode cX8_headsOf 14 = .ok (.iload_n 2, 1) := by decide +kernel
theorem dX8_headsOf_15 : decode cX8_headsOf 15 = .ok (.aload_n 0, 1) := by decide +kernel
theorem dX8_headsOf_16 : decode cX8_headsOf 16 = .ok (.getfield 40, 3) := by decide +kernel
theorem dX8_headsOf_19 : decode cX8_headsOf 19 = .ok (.iload_n 3, 1) := by decide +kernel
theorem dX8_headsOf_20 : decode cX8_headsOf 20 = .ok (.baload, 1) := by decide +kernel
theorem dX8_headsOf_21 : decode cX8_headsOf 21 = .ok (.ifCond .eq 26, 3) := by decide +kernel
theorem dX8_headsOf_24 : decode cX8_headsOf 24 = .ok (.aload_n 0, 1) := by decide +kernel
theorem dX8_headsOf_25 : decode cX8_headsOf 25 = .ok (.getfield 51, 3) := by decide +kernel
theorem dX8_headsOf_28 : decode cX8_headsOf 28 = .ok (.iload_n 3, 1) := by decide +kernel
theorem dX8_headsOf_29 : decode cX8_headsOf 29 = .ok (.bipush 10, 2) := by decide +kernel
theorem dX8_headsOf_31 : decode cX8_headsOf 31 = .ok (.imul, 1) := by decide +kernel
theorem dX8_headsOf_32 : decode cX8_headsOf 32 = .ok (.iload_n 1, 1) := by decide +kernel
theorem dX8_headsOf_33 : decode cX8_headsOf 33 = .ok (.iadd, 1) := by decide +kernel
theorem dX8_headsOf_34 : decode cX8_headsOf 34 = .ok (.iaload, 1) := by decide +kernel
theorem dX8_headsOf_35 : decode cX8_headsOf 35 = .ok (.ifCond .ne 12, 3) := by decide +kernel
theorem dX8_headsOf_38 : decode cX8_headsOf 38 = .ok (.aload_n 0, 1) := by decide +kernel
theorem dX8_headsOf_39 : decode cX8_headsOf 39 = .ok (.getfield 28, 3) := by decide +kernel
theorem dX8_headsOf_42 : decode cX8_headsOf 42 = .ok (.iload_n 3, 1) := by decide +kernel
theorem dX8_headsOf_43 : decode cX8_headsOf 43 = .ok (.iaload, 1) := by decide +kernel
theorem dX8_headsOf_44 : decode cX8_headsOf 44 = .ok (.goto 4, 3) := by decide +kernel
theorem dX8_headsOf_47 : decode cX8_headsOf 47 = .ok (.iconst 0, 1) := by decide +kernel
theorem dX8_headsOf_48 : decode cX8_headsOf 48 = .ok (.iadd, 1) := by decide +kernel
theorem dX8_headsOf_49 : decode cX8_headsOf 49 = .ok (.istore_n 2, 1) := by decide +kernel
theorem dX8_headsOf_50 : decode cX8_headsOf 50 = .ok (.iinc 3 1, 3) := by decide +kernel
theorem dX8_headsOf_53 : decode cX8_headsOf 53 = .ok (.goto (-49), 3) := by decide +kernel
theorem dX8_headsOf_56 : decode cX8_headsOf 56 = .ok (.iload_n 2, 1) := by decide +kernel
theorem dX8_headsOf_57 : decode cX8_headsOf 57 = .ok (.ireturn, 1) := by decide +kernel
theorem dX8_heads_0 : decode cX8_heads 0 = .ok (.aload_n 0, 1) := by decide +kernel
theorem dX8_heads_1 : decode cX8_heads 1 = .ok (.iconst 0, 1) := by decide +kernel
theorem dX8_heads_2 : decode cX8_heads 2 = .ok (.putfield 117, 3) := by decide +kernel
theorem dX8_heads_5 : decode cX8_heads 5 = .ok (.aload_n 0, 1) := by decide +kernel
theorem dX8_heads_6 : decode cX8_heads 6 = .ok (.iload_n 1, 1) := by decide +kernel
theorem dX8_heads_7 : decode cX8_heads 7 = .ok (.invokevirtual 264, 3) := by decide +kernel
theorem dX8_heads_10 : decode cX8_heads 10 = .ok (.ifCond .ne 9, 3) := by decide +kernel
theorem dX8_heads_13 : decode cX8_heads 13 = .ok (.aload_n 0, 1) := by decide +kernel
theorem dX8_heads_14 : decode cX8_heads 14 = .ok (.iconst 1, 1) := by decide +kernel
theorem dX8_heads_15 : decode cX8_heads 15 = .ok (.invokevirtual 232, 3) := by decide +kernel
theorem dX8_heads_18 : decode cX8_heads 18 = .ok (.ireturn, 1) := by decide +kernel
theorem dX8_heads_19 : decode cX8_heads 19 = .ok (.aload_n 0, 1) := by decide +kernel
theorem dX8_heads_20 : decode cX8_heads 20 = .ok (.invokevirtual 258, 3) := by decide +kernel
theorem dX8_heads_23 : decode cX8_heads 23 = .ok (.aload_n 0, 1) := by decide +kernel
theorem dX8_heads_24 : decode cX8_heads 24 = .ok (.iload_n 1, 1) := by decide +kernel
theorem dX8_heads_25 : decode cX8_heads 25 = .ok (.invokevirtual 353, 3) := by decide +kernel
theorem dX8_heads_28 : decode cX8_heads 28 = .ok (.ireturn, 1) := by decide +kernel
theorem dX8_head_0 : decode cX8_head 0 = .ok (.aload_n 0, 1) := by decide +kernel
theorem dX8_head_1 : decode cX8_head 1 = .ok (.iconst 0, 1) := by decide +kernel
theorem dX8_head_2 : decode cX8_head 2 = .ok (.putfield 117, 3) := by decide +kernel
theorem dX8_head_5 : decode cX8_head 5 = .ok (.iload_n 1, 1) := by decide +kernel
theorem dX8_head_6 : decode cX8_head 6 = .ok (.ifCond .lt 8, 3) := by decide +kernel
theorem dX8_head_9 : decode cX8_head 9 = .ok (.iload_n 1, 1) := by decide +kernel
theorem dX8_head_10 : decode cX8_head 10 = .ok (.iconst 1, 1) := by decide +kernel
theorem dX8_head_11 : decode cX8_head 11 = .ok (.if_icmp .le 9, 3) := by decide +kernel
theorem dX8_head_14 : decode cX8_head 14 = .ok (.aload_n 0, 1) := by decide +kernel
theorem dX8_head_15 : decode cX8_head 15 = .ok (.iconst 1, 1) := by decide +kernel
theorem dX8_head_16 : decode cX8_head 16 = .ok (.invokevirtual 232, 3) := by decide +kernel
theorem dX8_head_19 : decode cX8_head 19 = .ok (.ireturn, 1) := by decide +kernel
theorem dX8_head_20 : decode cX8_head 20 = .ok (.aload_n 0, 1) := by decide +kernel
theorem dX8_head_21 : decode cX8_head 21 = .ok (.invokevirtual 350, 3) := by decide +kernel
theorem dX8_head_24 : decode cX8_head 24 = .ok (.istore_n 2, 1) := by decide +kernel
theorem dX8_head_25 : decode cX8_head 25 = .ok (.iconst 0, 1) := by decide +kernel
theorem dX8_head_26 : decode cX8_head 26 = .ok (.istore_n 3, 1) := by decide +kernel
theorem dX8_head_27 : decode cX8_head 27 = .ok (.iconst 1, 1) := by decide +kernel
theorem dX8_head_28 : decode cX8_head 28 = .ok (.istore 4, 2) := by decide +kernel
theorem dX8_head_30 : decode cX8_head 30 = .ok (.iload 4, 2) := by decide +kernel
theorem dX8_head_32 : decode cX8_head 32 = .ok (.aload_n 0, 1) := by decide +kernel
theorem dX8_head_33 : decode cX8_head 33 = .ok (.getfield 251, 3) := by decide +kernel
theorem dX8_head_36 : decode cX8_head 36 = .ok (.if_icmp .ge 26, 3) := by decide +kernel
theorem dX8_head_39 : decode cX8_head 39 = .ok (.aload_n 0, 1) := by decide +kernel
theorem dX8_head_40 : decode cX8_head 40 = .ok (.iload 4, 2) := by decide +kernel
theorem dX8_head_42 : decode cX8_head 42 = .ok (.invokevirtual 353, 3) := by decide +kernel
theorem dX8_head_45 : decode cX8_head 45 = .ok (.aload_n 0, 1) := by decide +kernel
theorem dX8_head_46 : decode cX8_head 46 = .ok (.iload_n 3, 1) := by decide +kernel
theorem dX8_head_47 : decode cX8_head 47 = .ok (.invokevirtual 353, 3) := by decide +kernel
theorem dX8_head_50 : decode cX8_head 50 = .ok (.if_icmp .le 6, 3) := by decide +kernel
theorem dX8_head_53 : decode cX8_head 53 = .ok (.iload 4, 2) := by decide +kernel
theorem dX8_head_55 : decode cX8_head 55 = .ok (.istore_n 3, 1) := by decide +kernel
theorem dX8_head_56 : decode cX8_head 56 = .ok (.iinc 4 1, 3) := by decide +kernel
theorem dX8_head_59 : decode cX8_head 59 = .ok (.goto (-29), 3) := by decide +kernel
theorem dX8_head_62 : decode cX8_head 62 = .ok (.iload_n 1, 1) := by decide +kernel
theorem dX8_head_63 : decode cX8_head 63 = .ok (.ifCond .ne 7, 3) := by decide +kernel
theorem dX8_head_66 : decode cX8_head 66 = .ok (.iload_n 3, 1) := by decide +kernel
theorem dX8_head_67 : decode cX8_head 67 = .ok (.goto 14, 3) := by decide +kernel
theorem dX8_head_70 : decode cX8_head 70 = .ok (.aload_n 0, 1) := by decide +kernel
theorem dX8_head_71 : decode cX8_head 71 = .ok (.iload_n 3, 1) := by decide +kernel
theorem dX8_head_72 : decode cX8_head 72 = .ok (.invokevirtual 344, 3) := by decide +kernel
theorem dX8_head_75 : decode cX8_head 75 = .ok (.aload_n 0, 1) := by decide +kernel
theorem dX8_head_76 : decode cX8_head 76 = .ok (.iload_n 2, 1) := by decide +kernel
theorem dX8_head_77 : decode cX8_head 77 = .ok (.invokevirtual 344, 3) := by decide +kernel
theorem dX8_head_80 : decode cX8_head 80 = .ok (.isub, 1) := by decide +kernel
theorem dX8_head_81 : decode cX8_head 81 = .ok (.ireturn, 1) := by decide +kernel
theorem dX8_ordersOf_0 : decode cX8_ordersOf 0 = .ok (.iconst 1, 1) := by decide +kernel
theorem dX8_ordersOf_1 : decode cX8_ordersOf 1 = .ok (.istore_n 2, 1) := by decide +kernel
theorem dX8_ordersOf_2 : decode cX8_ordersOf 2 = .ok (.iconst 0, 1) := by decide +kernel
theorem dX8_ordersOf_3 : decode cX8_ordersOf 3 = .ok (.istore_n 3, 1) := by decide +kernel
theorem dX8_ordersOf_4 : decode cX8_ordersOf 4 = .ok (.iload_n 3, 1) := by decide +kernel
theorem dX8_ordersOf_5 : decode cX8_ordersOf 5 = .ok (.bipush 22, 2) := by decide +kernel
theorem dX8_ordersOf_7 : decode cX8_ordersOf 7 = .ok (.if_icmp .ge 62, 3) := by decide +kernel
theorem dX8_ordersOf_10 : decode cX8_ordersOf 10 = .ok (.iconst 0, 1) := by decide +kernel
theorem dX8_ordersOf_11 : decode cX8_ordersOf 11 = .ok (.istore 4, 2) := by decide +kernel
theorem dX8_ordersOf_13 : decode cX8_ordersOf 13 = .ok (.iconst 0, 1) := by decide +kernel
theorem dX8_ordersOf_14 : decode cX8_ordersOf 14 = .ok (.istore 5, 2) := by decide +kernel
theorem dX8_ordersOf_16 : decode cX8_ordersOf 16 = .ok (.iload 5, 2) := by decide +kernel
theorem dX8_ordersOf_18 : decode cX8_ordersOf 18 = .ok (.aload_n 0, 1) := by decide +kernel
theorem dX8_ordersOf_19 : decode cX8_ordersOf 19 = .ok (.getfield 7, 3) := by decide +kernel
theorem dX8_ordersOf_22 : decode cX8_ordersOf 22 = .ok (.iconst 0, 1) := by decide +kernel
theorem dX8_ordersOf_23 : decode cX8_ordersOf 23 = .ok (.iaload, 1) := by decide +kernel
theorem dX8_ordersOf_24 : decode cX8_ordersOf 24 = .ok (.if_icmp .ge 39, 3) := by decide +kernel
theorem dX8_ordersOf_27 : decode cX8_ordersOf 27 = .ok (.aload_n 0, 1) := by decide +kernel
theorem dX8_ordersOf_28 : decode cX8_ordersOf 28 = .ok (.getfield 31, 3) := by decide +kernel
theorem dX8_ordersOf_31 : decode cX8_ordersOf 31 = .ok (.iload_n 1, 1) := by decide +kernel
theorem dX8_ordersOf_32 : decode cX8_ordersOf 32 = .ok (.bipush 10, 2) := by decide +kernel
theorem dX8_ordersOf_34 : decode cX8_ordersOf 34 = .ok (.imul, 1) := by decide +kernel
theorem dX8_ordersOf_35 : decode cX8_ordersOf 35 = .ok (.iload 5, 2) := by decide +kernel
theorem dX8_ordersOf_37 : decode cX8_ordersOf 37 = .ok (.iadd, 1) := by decide +kernel
theorem dX8_ordersOf_38 : decode cX8_ordersOf 38 = .ok (.iaload, 1) := by decide +kernel
theorem dX8_ordersOf_39 : decode cX8_ordersOf 39 = .ok (.iload_n 3, 1) := by decide +kernel
theorem dX8_ordersOf_40 : decode cX8_ordersOf 40 = .ok (.if_icmp .ne 17, 3) := by decide +kernel
theorem dX8_ordersOf_43 : decode cX8_ordersOf 43 = .ok (.iinc 4 1, 3) := by decide +kernel
theorem dX8_ordersOf_46 : decode cX8_ordersOf 46 = .ok (.sipush 241, 3) := by decide +kernel
theorem dX8_ordersOf_49 : decode cX8_ordersOf 49 = .ok (.iload_n 2, 1) := by decide +kernel
theorem dX8_ordersOf_50 : decode cX8_ordersOf 50 = .ok (.iload 4, 2) := by decide +kernel
theorem dX8_ordersOf_52 : decode cX8_ordersOf 52 = .ok (.imul, 1) := by decide +kernel
theorem dX8_ordersOf_53 : decode cX8_ordersOf 53 = .ok (.invokestatic 153, 3) := by decide +kernel
theorem dX8_ordersOf_56 : decode cX8_ordersOf 56 = .ok (.istore_n 2, 1) := by decide +kernel
theorem dX8_ordersOf_57 : decode cX8_ordersOf 57 = .ok (.iinc 5 1, 3) := by decide +kernel
theorem dX8_ordersOf_60 : decode cX8_ordersOf 60 = .ok (.goto (-44), 3) := by decide +kernel
theorem dX8_ordersOf_63 : decode cX8_ordersOf 63 = .ok (.iinc 3 1, 3) := by decide +kernel
theorem dX8_ordersOf_66 : decode cX8_ordersOf 66 = .ok (.goto (-62), 3) := by decide +kernel
theorem dX8_ordersOf_69 : decode cX8_ordersOf 69 = .ok (.iload_n 2, 1) := by decide +kernel
theorem dX8_ordersOf_70 : decode cX8_ordersOf 70 = .ok (.ireturn, 1) := by decide +kernel
theorem dX8_lookOrder_0 : decode cX8_lookOrder 0 = .ok (.iload_n 2, 1) := by decide +kernel
theorem dX8_lookOrder_1 : decode cX8_lookOrder 1 = .ok (.istore_n 3, 1) := by decide +kernel
theorem dX8_lookOrder_2 : decode cX8_lookOrder 2 = .ok (.iload_n 1, 1) := by decide +kernel
theorem dX8_lookOrder_3 : decode cX8_lookOrder 3 = .ok (.bipush 10, 2) := by decide +kernel
theorem dX8_lookOrder_5 : decode cX8_lookOrder 5 = .ok (.imul, 1) := by decide +kernel
theorem dX8_lookOrder_6 : decode cX8_lookOrder 6 = .ok (.istore 4, 2) := by decide +kernel
theorem dX8_lookOrder_8 : decode cX8_lookOrder 8 = .ok (.iconst 0, 1) := by decide +kernel
theorem dX8_lookOrder_9 : decode cX8_lookOrder 9 = .ok (.istore 5, 2) := by decide +kernel
theorem dX8_lookOrder_11 : decode cX8_lookOrder 11 = .ok (.iconst 0, 1) := by decide +kernel
theorem dX8_lookOrder_12 : decode cX8_lookOrder 12 = .ok (.istore 6, 2) := by decide +kernel
theorem dX8_lookOrder_14 : decode cX8_lookOrder 14 = .ok (.iload 6, 2) := by decide +kernel
theorem dX8_lookOrder_16 : decode cX8_lookOrder 16 = .ok (.bipush 22, 2) := by decide +kernel
theorem dX8_lookOrder_18 : decode cX8_lookOrder 18 = .ok (.if_icmp .ge 143, 3) := by decide +kernel
theorem dX8_lookOrder_21 : decode cX8_lookOrder 21 = .ok (.iconst 0, 1) := by decide +kernel
theorem dX8_lookOrder_22 : decode cX8_lookOrder 22 = .ok (.istore 7, 2) := by decide +kernel
theorem dX8_lookOrder_24 : decode cX8_lookOrder 24 = .ok (.iconst 0, 1) := by decide +kernel
theorem dX8_lookOrder_25 : decode cX8_lookOrder 25 = .ok (.istore 8, 2) := by decide +kernel
theorem dX8_lookOrder_27 : decode cX8_lookOrder 27 = .ok (.iload 8, 2) := by decide +kernel
theorem dX8_lookOrder_29 : decode cX8_lookOrder 29 = .ok (.aload_n 0, 1) := by decide +kernel
theorem dX8_lookOrder_30 : decode cX8_lookOrder 30 = .ok (.getfield 7, 3) := by decide +kernel
theorem dX8_lookOrder_33 : decode cX8_lookOrder 33 = .ok (.iconst 0, 1) := by decide +kernel
theorem dX8_lookOrder_34 : decode cX8_lookOrder 34 = .ok (.iaload, 1) := by decide +kernel
theorem dX8_lookOrder_35 : decode cX8_lookOrder 35 = .ok (.if_icmp .ge 39, 3) := by decide +kernel
theorem dX8_lookOrder_38 : decode cX8_lookOrder 38 = .ok (.aload_n 0, 1) := by decide +kernel
theorem dX8_lookOrder_39 : decode cX8_lookOrder 39 = .ok (.getfield 31, 3) := by decide +kernel
theorem dX8_lookOrder_42 : decode cX8_lookOrder 42 = .ok (.iload 4, 2) := by decide +kernel
theorem dX8_lookOrder_44 : decode cX8_lookOrder 44 = .ok (.iload 8, 2) := by decide +kernel
theorem dX8_lookOrder_46 : decode cX8_lookOrder 46 = .ok (.iadd, 1) := by decide +kernel
theorem dX8_lookOrder_47 : decode cX8_lookOrder 47 = .ok (.iaload, 1) := by decide +kernel
theorem dX8_lookOrder_48 : decode cX8_lookOrder 48 = .ok (.iload 6, 2) := by decide +kernel
theorem dX8_lookOrder_50 : decode cX8_lookOrder 50 = .ok (.if_icmp .eq 6, 3) := by decide +kernel
theorem dX8_lookOrder_53 : decode cX8_lookOrder 53 = .ok (.goto 15, 3) := by decide +kernel
theorem dX8_lookOrder_56 : decode cX8_lookOrder 56 = .ok (.aload_n 0, 1) := by decide +kernel
theorem dX8_lookOrder_57 : decode cX8_lookOrder 57 = .ok (.getfield 99, 3) := by decide +kernel
theorem dX8_lookOrder_60 : decode cX8_lookOrder 60 = .ok (.iload 7, 2) := by decide +kernel
theorem dX8_lookOrder_62 : decode cX8_lookOrder 62 = .ok (.iload 8, 2) := by decide +kernel
theorem dX8_lookOrder_64 : decode cX8_lookOrder 64 = .ok (.iastore, 1) := by decide +kernel
theorem dX8_lookOrder_65 : decode cX8_lookOrder 65 = .ok (.iinc 7 1, 3) := by decide +kernel
theorem dX8_lookOrder_68 : decode cX8_lookOrder 68 = .ok (.iinc 8 1, 3) := by decide +kernel
theorem dX8_lookOrder_71 : decode cX8_lookOrder 71 = .ok (.goto (-44), 3) := by decide +kernel
theorem dX8_lookOrder_74 : decode cX8_lookOrder 74 = .ok (.iload 7, 2) := by decide +kernel
theorem dX8_lookOrder_76 : decode cX8_lookOrder 76 = .ok (.istore 8, 2) := by decide +kernel
theorem dX8_lookOrder_78 : decode cX8_lookOrder 78 = .ok (.iload 8, 2) := by decide +kernel
theorem dX8_lookOrder_80 : decode cX8_lookOrder 80 = .ok (.ifCond .le 75, 3) := by decide +kernel
theorem dX8_lookOrder_83 : decode cX8_lookOrder 83 = .ok (.iload_n 3, 1) := by decide +kernel
theorem dX8_lookOrder_84 : decode cX8_lookOrder 84 = .ok (.iload 8, 2) := by decide +kernel
theorem dX8_lookOrder_86 : decode cX8_lookOrder 86 = .ok (.irem, 1) := by decide +kernel
theorem dX8_lookOrder_87 : decode cX8_lookOrder 87 = .ok (.istore 9, 2) := by decide +kernel
theorem dX8_lookOrder_89 : decode cX8_lookOrder 89 = .ok (.iload_n 3, 1) := by decide +kernel
theorem dX8_lookOrder_90 : decode cX8_lookOrder 90 = .ok (.iload 8, 2) := by decide +kernel
theorem dX8_lookOrder_92 : decode cX8_lookOrder 92 = .ok (.idiv, 1) := by decide +kernel
theorem dX8_lookOrder_93 : decode cX8_lookOrder 93 = .ok (.istore_n 3, 1) := by decide +kernel
theorem dX8_lookOrder_94 : decode cX8_lookOrder 94 = .ok (.aload_n 0, 1) := by decide +kernel
theorem dX8_lookOrder_95 : decode cX8_lookOrder 95 = .ok (.getfield 51, 3) := by decide +kernel
theorem dX8_lookOrder_98 : decode cX8_lookOrder 98 = .ok (.iload 4, 2) := by decide +kernel
theorem dX8_lookOrder_100 : decode cX8_lookOrder 100 = .ok (.aload_n 0, 1) := by decide +kernel
theorem dX8_lookOrder_101 : decode cX8_lookOrder 101 = .ok (.getfield 99, 3) := by decide +kernel
theorem dX8_lookOrder_104 : decode cX8_lookOrder 104 = .ok (.iload 9, 2) := by decide +kernel
theorem dX8_lookOrder_106 : decode cX8_lookOrder 106 = .ok (.iaload, 1) := by decide +kernel
theorem dX8_lookOrder_107 : decode cX8_lookOrder 107 = .ok (.iadd, 1) := by decide +kernel
theorem dX8_lookOrder_108 : decode cX8_lookOrder 108 = .ok (.iload 5, 2) := by decide +kernel
theorem dX8_lookOrder_110 : decode cX8_lookOrder 110 = .ok (.iastore, 1) := by decide +kernel
theorem dX8_lookOrder_111 : decode cX8_lookOrder 111 = .ok (.iinc 5 1, 3) := by decide +kernel
theorem dX8_lookOrder_114 : decode cX8_lookOrder 114 = .ok (.iload 9, 2) := by decide +kernel
theorem dX8_lookOrder_116 : decode cX8_lookOrder 116 = .ok (.istore 10, 2) := by decide +kernel
theorem dX8_lookOrder_118 : decode cX8_lookOrder 118 = .ok (.iload 10, 2) := by decide +kernel
theorem dX8_lookOrder_120 : decode cX8_lookOrder 120 = .ok (.iload 8, 2) := by decide +kernel
theorem dX8_lookOrder_122 : decode cX8_lookOrder 122 = .ok (.iconst 1, 1) := by decide +kernel
theorem dX8_lookOrder_123 : decode cX8_lookOrder 123 = .ok (.isub, 1) := by decide +kernel
theorem dX8_lookOrder_124 : decode cX8_lookOrder 124 = .ok (.if_icmp .ge 25, 3) := by decide +kernel
theorem dX8_lookOrder_127 : decode cX8_lookOrder 127 = .ok (.aload_n 0, 1) := by decide +kernel
theorem dX8_lookOrder_128 : decode cX8_lookOrder 128 = .ok (.getfield 99, 3) := by decide +kernel
theorem dX8_lookOrder_131 : decode cX8_lookOrder 131 = .ok (.iload 10, 2) := by decide +kernel
theorem dX8_lookOrder_133 : decode cX8_lookOrder 133 = .ok (.aload_n 0, 1) := by decide +kernel
theorem dX8_lookOrder_134 : decode cX8_lookOrder 134 = .ok (.getfield 99, 3) := by decide +kernel
theorem dX8_lookOrder_137 : decode cX8_lookOrder 137 = .ok (.iload 10, 2) := by decide +kernel
theorem dX8_lookOrder_139 : decode cX8_lookOrder 139 = .ok (.iconst 1, 1) := by decide +kernel
theorem dX8_lookOrder_140 : decode cX8_lookOrder 140 = .ok (.iadd, 1) := by decide +kernel
theorem dX8_lookOrder_141 : decode cX8_lookOrder 141 = .ok (.iaload, 1) := by decide +kernel
theorem dX8_lookOrder_142 : decode cX8_lookOrder 142 = .ok (.iastore, 1) := by decide +kernel
theorem dX8_lookOrder_143 : decode cX8_lookOrder 143 = .ok (.iinc 10 1, 3) := by decide +kernel
theorem dX8_lookOrder_146 : decode cX8_lookOrder 146 = .ok (.goto (-28), 3) := by decide +kernel
theorem dX8_lookOrder_149 : decode cX8_lookOrder 149 = .ok (.iinc 8 (-1), 3) := by decide +kernel
theorem dX8_lookOrder_152 : decode cX8_lookOrder 152 = .ok (.goto (-74), 3) := by decide +kernel
theorem dX8_lookOrder_155 : decode cX8_lookOrder 155 = .ok (.iinc 6 1, 3) := by decide +kernel
theorem dX8_lookOrder_158 : decode cX8_lookOrder 158 = .ok (.goto (-144), 3) := by decide +kernel
theorem dX8_lookOrder_161 : decode cX8_lookOrder 161 = .ok (.return_, 1) := by decide +kernel
theorem dX8_tellTies_0 : decode cX8_tellTies 0 = .ok (.aload_n 0, 1) := by decide +kernel
theorem dX8_tellTies_1 : decode cX8_tellTies 1 = .ok (.getfield 102, 3) := by decide +kernel
theorem dX8_tellTies_4 : decode cX8_tellTies 4 = .ok (.aload_n 0, 1) := by decide +kernel
theorem dX8_tellTies_5 : decode cX8_tellTies 5 = .ok (.getfield 242, 3) := by decide +kernel
theorem dX8_tellTies_8 : decode cX8_tellTies 8 = .ok (.if_icmp .ne 16, 3) := by decide +kernel
theorem dX8_tellTies_11 : decode cX8_tellTies 11 = .ok (.aload_n 0, 1) := by decide +kernel
theorem dX8_tellTies_12 : decode cX8_tellTies 12 = .ok (.getfield 356, 3) := by decide +kernel
theorem dX8_tellTies_15 : decode cX8_tellTies 15 = .ok (.ifCond .ne 7, 3) := by decide +kernel
theorem dX8_tellTies_18 : decode cX8_tellTies 18 = .ok (.iconst 1, 1) := by decide +kernel
theorem dX8_tellTies_19 : decode cX8_tellTies 19 = .ok (.goto 4, 3) := by decide +kernel
theorem dX8_tellTies_22 : decode cX8_tellTies 22 = .ok (.iconst 0, 1) := by decide +kernel
theorem dX8_tellTies_23 : decode cX8_tellTies 23 = .ok (.ireturn, 1) := by decide +kernel
theorem dX8_tellTies_24 : decode cX8_tellTies 24 = .ok (.aload_n 0, 1) := by decide +kernel
theorem dX8_tellTies_25 : decode cX8_tellTies 25 = .ok (.aload_n 0, 1) := by decide +kernel
theorem dX8_tellTies_26 : decode cX8_tellTies 26 = .ok (.getfield 242, 3) := by decide +kernel
theorem dX8_tellTies_29 : decode cX8_tellTies 29 = .ok (.putfield 102, 3) := by decide +kernel
theorem dX8_tellTies_32 : decode cX8_tellTies 32 = .ok (.aload_n 0, 1) := by decide +kernel
theorem dX8_tellTies_33 : decode cX8_tellTies 33 = .ok (.iconst 1, 1) := by decide +kernel
theorem dX8_tellTies_34 : decode cX8_tellTies 34 = .ok (.putfield 360, 3) := by decide +kernel
theorem dX8_tellTies_37 : decode cX8_tellTies 37 = .ok (.iconst 0, 1) := by decide +kernel
theorem dX8_tellTies_38 : decode cX8_tellTies 38 = .ok (.istore_n 1, 1) := by decide +kernel
theorem dX8_tellTies_39 : decode cX8_tellTies 39 = .ok (.iload_n 1, 1) := by decide +kernel
theorem dX8_tellTies_40 : decode cX8_tellTies 40 = .ok (.aload_n 0, 1) := by decide +kernel
theorem dX8_tellTies_41 : decode cX8_tellTies 41 = .ok (.getfield 13, 3) := by decide +kernel
theorem dX8_tellTies_44 : decode cX8_tellTies 44 = .ok (.iconst 0, 1) := by decide +kernel
theorem dX8_tellTies_45 : decode cX8_tellTies 45 = .ok (.iaload, 1) := by decide +kernel
theorem dX8_tellTies_46 : decode cX8_tellTies 46 = .ok (.if_icmp .ge 41, 3) := by decide +kernel
theorem dX8_tellTies_49 : decode cX8_tellTies 49 = .ok (.aload_n 0, 1) := by decide +kernel
theorem dX8_tellTies_50 : decode cX8_tellTies 50 = .ok (.getfield 87, 3) := by decide +kernel
theorem dX8_tellTies_53 : decode cX8_tellTies 53 = .ok (.iload_n 1, 1) := by decide +kernel
theorem dX8_tellTies_54 : decode cX8_tellTies 54 = .ok (.aload_n 0, 1) := by decide +kernel
theorem dX8_tellTies_55 : decode cX8_tellTies 55 = .ok (.iload_n 1, 1) := by decide +kernel
theorem dX8_tellTies_56 : decode cX8_tellTies 56 = .ok (.invokevirtual 363, 3) := by decide +kernel
theorem dX8_tellTies_59 : decode cX8_tellTies 59 = .ok (.iastore, 1) := by decide +kernel
theorem dX8_tellTies_60 : decode cX8_tellTies 60 = .ok (.aload_n 0, 1) := by decide +kernel
theorem dX8_tellTies_61 : decode cX8_tellTies 61 = .ok (.sipush 241, 3) := by decide +kernel
theorem dX8_tellTies_64 : decode cX8_tellTies 64 = .ok (.aload_n 0, 1) := by decide +kernel
theorem dX8_tellTies_65 : decode cX8_tellTies 65 = .ok (.getfield 360, 3) := by decide +kernel
theorem dX8_tellTies_68 : decode cX8_tellTies 68 = .ok (.aload_n 0, 1) := by decide +kernel
theorem dX8_tellTies_69 : decode cX8_tellTies 69 = .ok (.getfield 87, 3) := by decide +kernel
theorem dX8_tellTies_72 : decode cX8_tellTies 72 = .ok (.iload_n 1, 1) := by decide +kernel
theorem dX8_tellTies_73 : decode cX8_tellTies 73 = .ok (.iaload, 1) := by decide +kernel
theorem dX8_tellTies_74 : decode cX8_tellTies 74 = .ok (.imul, 1) := by decide +kernel
theorem dX8_tellTies_75 : decode cX8_tellTies 75 = .ok (.invokestatic 153, 3) := by decide +kernel
theorem dX8_tellTies_78 : decode cX8_tellTies 78 = .ok (.putfield 360, 3) := by decide +kernel
theorem dX8_tellTies_81 : decode cX8_tellTies 81 = .ok (.iinc 1 1, 3) := by decide +kernel
theorem dX8_tellTies_84 : decode cX8_tellTies 84 = .ok (.goto (-45), 3) := by decide +kernel
theorem dX8_tellTies_87 : decode cX8_tellTies 87 = .ok (.aload_n 0, 1) := by decide +kernel
theorem dX8_tellTies_88 : decode cX8_tellTies 88 = .ok (.aload_n 0, 1) := by decide +kernel
theorem dX8_tellTies_89 : decode cX8_tellTies 89 = .ok (.getfield 360, 3) := by decide +kernel
theorem dX8_tellTies_92 : decode cX8_tellTies 92 = .ok (.sipush 240, 3) := by decide +kernel
theorem dX8_tellTies_95 : decode cX8_tellTies 95 = .ok (.if_icmp .le 7, 3) := by decide +kernel
theorem dX8_tellTies_98 : decode cX8_tellTies 98 = .ok (.iconst 1, 1) := by decide +kernel
theorem dX8_tellTies_99 : decode cX8_tellTies 99 = .ok (.goto 4, 3) := by decide +kernel
theorem dX8_tellTies_102 : decode cX8_tellTies 102 = .ok (.iconst 0, 1) := by decide +kernel
theorem dX8_tellTies_103 : decode cX8_tellTies 103 = .ok (.putfield 356, 3) := by decide +kernel
theorem dX8_tellTies_106 : decode cX8_tellTies 106 = .ok (.aload_n 0, 1) := by decide +kernel
theorem dX8_tellTies_107 : decode cX8_tellTies 107 = .ok (.getfield 356, 3) := by decide +kernel
theorem dX8_tellTies_110 : decode cX8_tellTies 110 = .ok (.ifCond .eq 5, 3) := by decide +kernel
theorem dX8_tellTies_113 : decode cX8_tellTies 113 = .ok (.iconst 0, 1) := by decide +kernel
theorem dX8_tellTies_114 : decode cX8_tellTies 114 = .ok (.ireturn, 1) := by decide +kernel
theorem dX8_tellTies_115 : decode cX8_tellTies 115 = .ok (.aload_n 0, 1) := by decide +kernel
theorem dX8_tellTies_116 : decode cX8_tellTies 116 = .ok (.invokevirtual 258, 3) := by decide +kernel
theorem dX8_tellTies_119 : decode cX8_tellTies 119 = .ok (.aload_n 0, 1) := by decide +kernel
theorem dX8_tellTies_120 : decode cX8_tellTies 120 = .ok (.iconst 0, 1) := by decide +kernel
theorem dX8_tellTies_121 : decode cX8_tellTies 121 = .ok (.putfield 366, 3) := by decide +kernel
theorem dX8_tellTies_124 : decode cX8_tellTies 124 = .ok (.aload_n 0, 1) := by decide +kernel
theorem dX8_tellTies_125 : decode cX8_tellTies 125 = .ok (.iconst 1, 1) := by decide +kernel
theorem dX8_tellTies_126 : decode cX8_tellTies 126 = .ok (.aload_n 0, 1) := by decide +kernel
theorem dX8_tellTies_127 : decode cX8_tellTies 127 = .ok (.getfield 251, 3) := by decide +kernel
theorem dX8_tellTies_130 : decode cX8_tellTies 130 = .ok (.ishl, 1) := by decide +kernel
theorem dX8_tellTies_131 : decode cX8_tellTies 131 = .ok (.iconst 1, 1) := by decide +kernel
theorem dX8_tellTies_132 : decode cX8_tellTies 132 = .ok (.isub, 1) := by decide +kernel
theorem dX8_tellTies_133 : decode cX8_tellTies 133 = .ok (.putfield 369, 3) := by decide +kernel
theorem dX8_tellTies_136 : decode cX8_tellTies 136 = .ok (.iconst 0, 1) := by decide +kernel
theorem dX8_tellTies_137 : decode cX8_tellTies 137 = .ok (.istore_n 1, 1) := by decide +kernel
theorem dX8_tellTies_138 : decode cX8_tellTies 138 = .ok (.iload_n 1, 1) := by decide +kernel
theorem dX8_tellTies_139 : decode cX8_tellTies 139 = .ok (.sipush 1920, 3) := by decide +kernel
theorem dX8_tellTies_142 : decode cX8_tellTies 142 = .ok (.if_icmp .ge 26, 3) := by decide +kernel
theorem dX8_tellTies_145 : decode cX8_tellTies 145 = .ok (.aload_n 0, 1) := by decide +kernel
theorem dX8_tellTies_146 : decode cX8_tellTies 146 = .ok (.getfield 93, 3) := by decide +kernel
theorem dX8_tellTies_149 : decode cX8_tellTies 149 = .ok (.iload_n 1, 1) := by decide +kernel
theorem dX8_tellTies_150 : decode cX8_tellTies 150 = .ok (.iconst 0, 1) := by decide +kernel
theorem dX8_tellTies_151 : decode cX8_tellTies 151 = .ok (.iastore, 1) := by decide +kernel
theorem dX8_tellTies_152 : decode cX8_tellTies 152 = .ok (.aload_n 0, 1) := by decide +kernel
theorem dX8_tellTies_153 : decode cX8_tellTies 153 = .ok (.getfield 96, 3) := by decide +kernel
theorem dX8_tellTies_156 : decode cX8_tellTies 156 = .ok (.iload_n 1, 1) := by decide +kernel
theorem dX8_tellTies_157 : decode cX8_tellTies 157 = .ok (.aload_n 0, 1) := by decide +kernel
theorem dX8_tellTies_158 : decode cX8_tellTies 158 = .ok (.getfield 369, 3) := by decide +kernel
theorem dX8_tellTies_161 : decode cX8_tellTies 161 = .ok (.iastore, 1) := by decide +kernel
theorem dX8_tellTies_162 : decode cX8_tellTies 162 = .ok (.iinc 1 1, 3) := by decide +kernel
theorem dX8_tellTies_165 : decode cX8_tellTies 165 = .ok (.goto (-27), 3) := by decide +kernel
theorem dX8_tellTies_168 : decode cX8_tellTies 168 = .ok (.iconst 0, 1) := by decide +kernel
theorem dX8_tellTies_169 : decode cX8_tellTies 169 = .ok (.istore_n 1, 1) := by decide +kernel
theorem dX8_tellTies_170 : decode cX8_tellTies 170 = .ok (.iload_n 1, 1) := by decide +kernel
theorem dX8_tellTies_171 : decode cX8_tellTies 171 = .ok (.aload_n 0, 1) := by decide +kernel
theorem dX8_tellTies_172 : decode cX8_tellTies 172 = .ok (.getfield 360, 3) := by decide +kernel
theorem dX8_tellTies_175 : decode cX8_tellTies 175 = .ok (.if_icmp .ge 156, 3) := by decide +kernel
theorem dX8_tellTies_178 : decode cX8_tellTies 178 = .ok (.iload_n 1, 1) := by decide +kernel
theorem dX8_tellTies_179 : decode cX8_tellTies 179 = .ok (.istore_n 2, 1) := by decide +kernel
theorem dX8_tellTies_180 : decode cX8_tellTies 180 = .ok (.iconst 0, 1) := by decide +kernel
theorem dX8_tellTies_181 : decode cX8_tellTies 181 = .ok (.istore_n 3, 1) := by decide +kernel
theorem dX8_tellTies_182 : decode cX8_tellTies 182 = .ok (.iload_n 3, 1) := by decide +kernel
theorem dX8_tellTies_183 : decode cX8_tellTies 183 = .ok (.aload_n 0, 1) := by decide +kernel
theorem dX8_tellTies_184 : decode cX8_tellTies 184 = .ok (.getfield 13, 3) := by decide +kernel
theorem dX8_tellTies_187 : decode cX8_tellTies 187 = .ok (.iconst 0, 1) := by decide +kernel
theorem dX8_tellTies_188 : decode cX8_tellTies 188 = .ok (.iaload, 1) := by decide +kernel
theorem dX8_tellTies_189 : decode cX8_tellTies 189 = .ok (.if_icmp .ge 35, 3) := by decide +kernel
theorem dX8_tellTies_192 : decode cX8_tellTies 192 = .ok (.iload_n 2, 1) := by decide +kernel
theorem dX8_tellTies_193 : decode cX8_tellTies 193 = .ok (.aload_n 0, 1) := by decide +kernel
theorem dX8_tellTies_194 : decode cX8_tellTies 194 = .ok (.getfield 87, 3) := by decide +kernel
theorem dX8_tellTies_197 : decode cX8_tellTies 197 = .ok (.iload_n 3, 1) := by decide +kernel
theorem dX8_tellTies_198 : decode cX8_tellTies 198 = .ok (.iaload, 1) := by decide +kernel
theorem dX8_tellTies_199 : decode cX8_tellTies 199 = .ok (.irem, 1) := by decide +kernel
theorem dX8_tellTies_200 : decode cX8_tellTies 200 = .ok (.istore 4, 2) := by decide +kernel
theorem dX8_tellTies_202 : decode cX8_tellTies 202 = .ok (.aload_n 0, 1) := by decide +kernel
theorem dX8_tellTies_203 : decode cX8_tellTies 203 = .ok (.iload_n 3, 1) := by decide +kernel
theorem dX8_tellTies_204 : decode cX8_tellTies 204 = .ok (.iload 4, 2) := by decide +kernel
theorem dX8_tellTies_206 : decode cX8_tellTies 206 = .ok (.invokevirtual 372, 3) := by decide +kernel
theorem dX8_tellTies_209 : decode cX8_tellTies 209 = .ok (.iload_n 2, 1) := by decide +kernel
theorem dX8_tellTies_210 : decode cX8_tellTies 210 = .ok (.aload_n 0, 1) := by decide +kernel
theorem dX8_tellTies_211 : decode cX8_tellTies 211 = .ok (.getfield 87, 3) := by decide +kernel
theorem dX8_tellTies_214 : decode cX8_tellTies 214 = .ok (.iload_n 3, 1) := by decide +kernel
theorem dX8_tellTies_215 : decode cX8_tellTies 215 = .ok (.iaload, 1) := by decide +kernel
theorem dX8_tellTies_216 : decode cX8_tellTies 216 = .ok (.idiv, 1) := by decide +kernel
theorem dX8_tellTies_217 : decode cX8_tellTies 217 = .ok (.istore_n 2, 1) := by decide +kernel
theorem dX8_tellTies_218 : decode cX8_tellTies 218 = .ok (.iinc 3 1, 3) := by decide +kernel
theorem dX8_tellTies_221 : decode cX8_tellTies 221 = .ok (.goto (-39), 3) := by decide +kernel
theorem dX8_tellTies_224 : decode cX8_tellTies 224 = .ok (.aload_n 0, 1) := by decide +kernel
theorem dX8_tellTies_225 : decode cX8_tellTies 225 = .ok (.aload_n 0, 1) := by decide +kernel
theorem dX8_tellTies_226 : decode cX8_tellTies 226 = .ok (.invokevirtual 270, 3) := by decide +kernel
theorem dX8_tellTies_229 : decode cX8_tellTies 229 = .ok (.invokevirtual 301, 3) := by decide +kernel
theorem dX8_tellTies_232 : decode cX8_tellTies 232 = .ok (.istore_n 3, 1) := by decide +kernel
theorem dX8_tellTies_233 : decode cX8_tellTies 233 = .ok (.aload_n 0, 1) := by decide +kernel
theorem dX8_tellTies_234 : decode cX8_tellTies 234 = .ok (.dup, 1) := by decide +kernel
theorem dX8_tellTies_235 : decode cX8_tellTies 235 = .ok (.getfield 366, 3) := by decide +kernel
theorem dX8_tellTies_238 : decode cX8_tellTies 238 = .ok (.iload_n 3, 1) := by decide +kernel
theorem dX8_tellTies_239 : decode cX8_tellTies 239 = .ok (.ior, 1) := by decide +kernel
theorem dX8_tellTies_240 : decode cX8_tellTies 240 = .ok (.putfield 366, 3) := by decide +kernel
theorem dX8_tellTies_243 : decode cX8_tellTies 243 = .ok (.aload_n 0, 1) := by decide +kernel
theorem dX8_tellTies_244 : decode cX8_tellTies 244 = .ok (.dup, 1) := by decide +kernel
theorem dX8_tellTies_245 : decode cX8_tellTies 245 = .ok (.getfield 369, 3) := by decide +kernel
theorem dX8_tellTies_248 : decode cX8_tellTies 248 = .ok (.iload_n 3, 1) := by decide +kernel
theorem dX8_tellTies_249 : decode cX8_tellTies 249 = .ok (.iand, 1) := by decide +kernel
theorem dX8_tellTies_250 : decode cX8_tellTies 250 = .ok (.putfield 369, 3) := by decide +kernel
theorem dX8_tellTies_253 : decode cX8_tellTies 253 = .ok (.iload_n 1, 1) := by decide +kernel
theorem dX8_tellTies_254 : decode cX8_tellTies 254 = .ok (.istore_n 2, 1) := by decide +kernel
theorem dX8_tellTies_255 : decode cX8_tellTies 255 = .ok (.iconst 0, 1) := by decide +kernel
theorem dX8_tellTies_256 : decode cX8_tellTies 256 = .ok (.istore 4, 2) := by decide +kernel
theorem dX8_tellTies_258 : decode cX8_tellTies 258 = .ok (.iload 4, 2) := by decide +kernel
theorem dX8_tellTies_260 : decode cX8_tellTies 260 = .ok (.aload_n 0, 1) := by decide +kernel
theorem dX8_tellTies_261 : decode cX8_tellTies 261 = .ok (.getfield 13, 3) := by decide +kernel
theorem dX8_tellTies_264 : decode cX8_tellTies 264 = .ok (.iconst 0, 1) := by decide +kernel
theorem dX8_tellTies_265 : decode cX8_tellTies 265 = .ok (.iaload, 1) := by decide +kernel
theorem dX8_tellTies_266 : decode cX8_tellTies 266 = .ok (.if_icmp .ge 59, 3) := by decide +kernel
theorem dX8_tellTies_269 : decode cX8_tellTies 269 = .ok (.sipush 240, 3) := by decide +kernel
theorem dX8_tellTies_272 : decode cX8_tellTies 272 = .ok (.iload 4, 2) := by decide +kernel
theorem dX8_tellTies_274 : decode cX8_tellTies 274 = .ok (.imul, 1) := by decide +kernel
theorem dX8_tellTies_275 : decode cX8_tellTies 275 = .ok (.iload_n 2, 1) := by decide +kernel
theorem dX8_tellTies_276 : decode cX8_tellTies 276 = .ok (.aload_n 0, 1) := by decide +kernel
theorem dX8_tellTies_277 : decode cX8_tellTies 277 = .ok (.getfield 87, 3) := by decide +kernel
theorem dX8_tellTies_280 : decode cX8_tellTies 280 = .ok (.iload 4, 2) := by decide +kernel
theorem dX8_tellTies_282 : decode cX8_tellTies 282 = .ok (.iaload, 1) := by decide +kernel
theorem dX8_tellTies_283 : decode cX8_tellTies 283 = .ok (.irem, 1) := by decide +kernel
theorem dX8_tellTies_284 : decode cX8_tellTies 284 = .ok (.iadd, 1) := by decide +kernel
theorem dX8_tellTies_285 : decode cX8_tellTies 285 = .ok (.istore 5, 2) := by decide +kernel
theorem dX8_tellTies_287 : decode cX8_tellTies 287 = .ok (.aload_n 0, 1) := by decide +kernel
theorem dX8_tellTies_288 : decode cX8_tellTies 288 = .ok (.getfield 93, 3) := by decide +kernel
theorem dX8_tellTies_291 : decode cX8_tellTies 291 = .ok (.iload 5, 2) := by decide +kernel
theorem dX8_tellTies_293 : decode cX8_tellTies 293 = .ok (.dup2, 1) := by decide +kernel
theorem dX8_tellTies_294 : decode cX8_tellTies 294 = .ok (.iaload, 1) := by decide +kernel
theorem dX8_tellTies_295 : decode cX8_tellTies 295 = .ok (.iload_n 3, 1) := by decide +kernel
theorem dX8_tellTies_296 : decode cX8_tellTies 296 = .ok (.ior, 1) := by decide +kernel
theorem dX8_tellTies_297 : decode cX8_tellTies 297 = .ok (.iastore, 1) := by decide +kernel
theorem dX8_tellTies_298 : decode cX8_tellTies 298 = .ok (.aload_n 0, 1) := by decide +kernel
theorem dX8_tellTies_299 : decode cX8_tellTies 299 = .ok (.getfield 96, 3) := by decide +kernel
theorem dX8_tellTies_302 : decode cX8_tellTies 302 = .ok (.iload 5, 2) := by decide +kernel
theorem dX8_tellTies_304 : decode cX8_tellTies 304 = .ok (.dup2, 1) := by decide +kernel
theorem dX8_tellTies_305 : decode cX8_tellTies 305 = .ok (.iaload, 1) := by decide +kernel
theorem dX8_tellTies_306 : decode cX8_tellTies 306 = .ok (.iload_n 3, 1) := by decide +kernel
theorem dX8_tellTies_307 : decode cX8_tellTies 307 = .ok (.iand, 1) := by decide +kernel
theorem dX8_tellTies_308 : decode cX8_tellTies 308 = .ok (.iastore, 1) := by decide +kernel
theorem dX8_tellTies_309 : decode cX8_tellTies 309 = .ok (.iload_n 2, 1) := by decide +kernel
theorem dX8_tellTies_310 : decode cX8_tellTies 310 = .ok (.aload_n 0, 1) := by decide +kernel
theorem dX8_tellTies_311 : decode cX8_tellTies 311 = .ok (.getfield 87, 3) := by decide +kernel
theorem dX8_tellTies_314 : decode cX8_tellTies 314 = .ok (.iload 4, 2) := by decide +kernel
theorem dX8_tellTies_316 : decode cX8_tellTies 316 = .ok (.iaload, 1) := by decide +kernel
theorem dX8_tellTies_317 : decode cX8_tellTies 317 = .ok (.idiv, 1) := by decide +kernel
theorem dX8_tellTies_318 : decode cX8_tellTies 318 = .ok (.istore_n 2, 1) := by decide +kernel
theorem dX8_tellTies_319 : decode cX8_tellTies 319 = .ok (.iinc 4 1, 3) := by decide +kernel
theorem dX8_tellTies_322 : decode cX8_tellTies 322 = .ok (.goto (-64), 3) := by decide +kernel
theorem dX8_tellTies_325 : decode cX8_tellTies 325 = .ok (.iinc 1 1, 3) := by decide +kernel
theorem dX8_tellTies_328 : decode cX8_tellTies 328 = .ok (.goto (-158), 3) := by decide +kernel
theorem dX8_tellTies_331 : decode cX8_tellTies 331 = .ok (.iconst 1, 1) := by decide +kernel
theorem dX8_tellTies_332 : decode cX8_tellTies 332 = .ok (.ireturn, 1) := by decide +kernel
theorem dX8_ties_0 : decode cX8_ties 0 = .ok (.aload_n 0, 1) := by decide +kernel
theorem dX8_ties_1 : decode cX8_ties 1 = .ok (.iconst 0, 1) := by decide +kernel
theorem dX8_ties_2 : decode cX8_ties 2 = .ok (.putfield 117, 3) := by decide +kernel
theorem dX8_ties_5 : decode cX8_ties 5 = .ok (.iload_n 1, 1) := by decide +kernel
theorem dX8_ties_6 : decode cX8_ties 6 = .ok (.ifCond .lt 8, 3) := by decide +kernel
theorem dX8_ties_9 : decode cX8_ties 9 = .ok (.iload_n 1, 1) := by decide +kernel
theorem dX8_ties_10 : decode cX8_ties 10 = .ok (.iconst 3, 1) := by decide +kernel
theorem dX8_ties_11 : decode cX8_ties 11 = .ok (.if_icmp .le 9, 3) := by decide +kernel
theorem dX8_ties_14 : decode cX8_ties 14 = .ok (.aload_n 0, 1) := by decide +kernel
theorem dX8_ties_15 : decode cX8_ties 15 = .ok (.iconst 1, 1) := by decide +kernel
theorem dX8_ties_16 : decode cX8_ties 16 = .ok (.invokevirtual 232, 3) := by decide +kernel
theorem dX8_ties_19 : decode cX8_ties 19 = .ok (.ireturn, 1) := by decide +kernel
theorem dX8_ties_20 : decode cX8_ties 20 = .ok (.aload_n 0, 1) := by decide +kernel
theorem dX8_ties_21 : decode cX8_ties 21 = .ok (.invokevirtual 375, 3) := by decide +kernel
theorem dX8_ties_24 : decode cX8_ties 24 = .ok (.ifCond .ne 5, 3) := by decide +kernel
theorem dX8_ties_27 : decode cX8_ties 27 = .ok (.iconst (-1), 1) := by decide +kernel
theorem dX8_ties_28 : decode cX8_ties 28 = .ok (.ireturn, 1) := by decide +kernel
theorem dX8_ties_29 : decode cX8_ties 29 = .ok (.iload_n 1, 1) := by decide +kernel
theorem dX8_ties_30 : decode cX8_ties 30 = .ok (.tableswitch 54 0 2 #[26, 31, 36], 26) := by decide +kernel
theorem dX8_ties_56 : decode cX8_ties 56 = .ok (.aload_n 0, 1) := by decide +kernel
theorem dX8_ties_57 : decode cX8_ties 57 = .ok (.getfield 360, 3) := by decide +kernel
theorem dX8_ties_60 : decode cX8_ties 60 = .ok (.ireturn, 1) := by decide +kernel
theorem dX8_ties_61 : decode cX8_ties 61 = .ok (.aload_n 0, 1) := by decide +kernel
theorem dX8_ties_62 : decode cX8_ties 62 = .ok (.getfield 369, 3) := by decide +kernel
theorem dX8_ties_65 : decode cX8_ties 65 = .ok (.ireturn, 1) := by decide +kernel
theorem dX8_ties_66 : decode cX8_ties 66 = .ok (.iconst 1, 1) := by decide +kernel
theorem dX8_ties_67 : decode cX8_ties 67 = .ok (.aload_n 0, 1) := by decide +kernel
theorem dX8_ties_68 : decode cX8_ties 68 = .ok (.getfield 7, 3) := by decide +kernel
theorem dX8_ties_71 : decode cX8_ties 71 = .ok (.iconst 0, 1) := by decide +kernel
theorem dX8_ties_72 : decode cX8_ties 72 = .ok (.iaload, 1) := by decide +kernel
theorem dX8_ties_73 : decode cX8_ties 73 = .ok (.ishl, 1) := by decide +kernel
theorem dX8_ties_74 : decode cX8_ties 74 = .ok (.iconst 1, 1) := by decide +kernel
theorem dX8_ties_75 : decode cX8_ties 75 = .ok (.isub, 1) := by decide +kernel
theorem dX8_ties_76 : decode cX8_ties 76 = .ok (.aload_n 0, 1) := by decide +kernel
theorem dX8_ties_77 : decode cX8_ties 77 = .ok (.getfield 366, 3) := by decide +kernel
theorem dX8_ties_80 : decode cX8_ties 80 = .ok (.iconst (-1), 1) := by decide +kernel
theorem dX8_ties_81 : decode cX8_ties 81 = .ok (.ixor, 1) := by decide +kernel
theorem dX8_ties_82 : decode cX8_ties 82 = .ok (.iand, 1) := by decide +kernel
theorem dX8_ties_83 : decode cX8_ties 83 = .ok (.ireturn, 1) := by decide +kernel
theorem dX8_ties_84 : decode cX8_ties 84 = .ok (.aload_n 0, 1) := by decide +kernel
theorem dX8_ties_85 : decode cX8_ties 85 = .ok (.getfield 366, 3) := by decide +kernel
theorem dX8_ties_88 : decode cX8_ties 88 = .ok (.aload_n 0, 1) := by decide +kernel
theorem dX8_ties_89 : decode cX8_ties 89 = .ok (.getfield 369, 3) := by decide +kernel
theorem dX8_ties_92 : decode cX8_ties 92 = .ok (.iconst (-1), 1) := by decide +kernel
theorem dX8_ties_93 : decode cX8_ties 93 = .ok (.ixor, 1) := by decide +kernel
theorem dX8_ties_94 : decode cX8_ties 94 = .ok (.iand, 1) := by decide +kernel
theorem dX8_ties_95 : decode cX8_ties 95 = .ok (.ireturn, 1) := by decide +kernel
theorem dX8_ask_0 : decode cX8_ask 0 = .ok (.aload_n 0, 1) := by decide +kernel
theorem dX8_ask_1 : decode cX8_ask 1 = .ok (.iconst 0, 1) := by decide +kernel
theorem dX8_ask_2 : decode cX8_ask 2 = .ok (.putfield 117, 3) := by decide +kernel
theorem dX8_ask_5 : decode cX8_ask 5 = .ok (.aload_n 0, 1) := by decide +kernel
theorem dX8_ask_6 : decode cX8_ask 6 = .ok (.invokevirtual 375, 3) := by decide +kernel
theorem dX8_ask_9 : decode cX8_ask 9 = .ok (.ifCond .ne 5, 3) := by decide +kernel
theorem dX8_ask_12 : decode cX8_ask 12 = .ok (.iconst (-1), 1) := by decide +kernel
theorem dX8_ask_13 : decode cX8_ask 13 = .ok (.ireturn, 1) := by decide +kernel
theorem dX8_ask_14 : decode cX8_ask 14 = .ok (.iconst (-1), 1) := by decide +kernel
theorem dX8_ask_15 : decode cX8_ask 15 = .ok (.istore_n 1, 1) := by decide +kernel
theorem dX8_ask_16 : decode cX8_ask 16 = .ok (.iconst 0, 1) := by decide +kernel
theorem dX8_ask_17 : decode cX8_ask 17 = .ok (.istore_n 2, 1) := by decide +kernel
theorem dX8_ask_18 : decode cX8_ask 18 = .ok (.iconst 0, 1) := by decide +kernel
theorem dX8_ask_19 : decode cX8_ask 19 = .ok (.istore_n 3, 1) := by decide +kernel
theorem dX8_ask_20 : decode cX8_ask 20 = .ok (.iload_n 3, 1) := by decide +kernel
theorem dX8_ask_21 : decode cX8_ask 21 = .ok (.aload_n 0, 1) := by decide +kernel
theorem dX8_ask_22 : decode cX8_ask 22 = .ok (.getfield 13, 3) := by decide +kernel
theorem dX8_ask_25 : decode cX8_ask 25 = .ok (.iconst 0, 1) := by decide +kernel
theorem dX8_ask_26 : decode cX8_ask 26 = .ok (.iaload, 1) := by decide +kernel
theorem dX8_ask_27 : decode cX8_ask 27 = .ok (.if_icmp .ge 103, 3) := by decide +kernel
theorem dX8_ask_30 : decode cX8_ask 30 = .ok (.aload_n 0, 1) := by decide +kernel
theorem dX8_ask_31 : decode cX8_ask 31 = .ok (.getfield 87, 3) := by decide +kernel
theorem dX8_ask_34 : decode cX8_ask 34 = .ok (.iload_n 3, 1) := by decide +kernel
theorem dX8_ask_35 : decode cX8_ask 35 = .ok (.iaload, 1) := by decide +kernel
theorem dX8_ask_36 : decode cX8_ask 36 = .ok (.iconst 1, 1) := by decide +kernel
theorem dX8_ask_37 : decode cX8_ask 37 = .ok (.if_icmp .ne 6, 3) := by decide +kernel
theorem dX8_ask_40 : decode cX8_ask 40 = .ok (.goto 84, 3) := by decide +kernel
theorem dX8_ask_43 : decode cX8_ask 43 = .ok (.iconst 0, 1) := by decide +kernel
theorem dX8_ask_44 : decode cX8_ask 44 = .ok (.istore 4, 2) := by decide +kernel
theorem dX8_ask_46 : decode cX8_ask 46 = .ok (.iconst 0, 1) := by decide +kernel
theorem dX8_ask_47 : decode cX8_ask 47 = .ok (.istore 5, 2) := by decide +kernel
theorem dX8_ask_49 : decode cX8_ask 49 = .ok (.iload 5, 2) := by decide +kernel
theorem dX8_ask_51 : decode cX8_ask 51 = .ok (.aload_n 0, 1) := by decide +kernel
theorem dX8_ask_52 : decode cX8_ask 52 = .ok (.getfield 87, 3) := by decide +kernel
theorem dX8_ask_55 : decode cX8_ask 55 = .ok (.iload_n 3, 1) := by decide +kernel
theorem dX8_ask_56 : decode cX8_ask 56 = .ok (.iaload, 1) := by decide +kernel
theorem dX8_ask_57 : decode cX8_ask 57 = .ok (.if_icmp .ge 48, 3) := by decide +kernel
theorem dX8_ask_60 : decode cX8_ask 60 = .ok (.iload 4, 2) := by decide +kernel
theorem dX8_ask_62 : decode cX8_ask 62 = .ok (.aload_n 0, 1) := by decide +kernel
theorem dX8_ask_63 : decode cX8_ask 63 = .ok (.getfield 93, 3) := by decide +kernel
theorem dX8_ask_66 : decode cX8_ask 66 = .ok (.sipush 240, 3) := by decide +kernel
theorem dX8_ask_69 : decode cX8_ask 69 = .ok (.iload_n 3, 1) := by decide +kernel
theorem dX8_ask_70 : decode cX8_ask 70 = .ok (.imul, 1) := by decide +kernel
theorem dX8_ask_71 : decode cX8_ask 71 = .ok (.iload 5, 2) := by decide +kernel
theorem dX8_ask_73 : decode cX8_ask 73 = .ok (.iadd, 1) := by decide +kernel
theorem dX8_ask_74 : decode cX8_ask 74 = .ok (.iaload, 1) := by decide +kernel
theorem dX8_ask_75 : decode cX8_ask 75 = .ok (.aload_n 0, 1) := by decide +kernel
theorem dX8_ask_76 : decode cX8_ask 76 = .ok (.getfield 96, 3) := by decide +kernel
theorem dX8_ask_79 : decode cX8_ask 79 = .ok (.sipush 240, 3) := by decide +kernel
theorem dX8_ask_82 : decode cX8_ask 82 = .ok (.iload_n 3, 1) := by decide +kernel
theorem dX8_ask_83 : decode cX8_ask 83 = .ok (.imul, 1) := by decide +kernel
theorem dX8_ask_84 : decode cX8_ask 84 = .ok (.iload 5, 2) := by decide +kernel
theorem dX8_ask_86 : decode cX8_ask 86 = .ok (.iadd, 1) := by decide +kernel
theorem dX8_ask_87 : decode cX8_ask 87 = .ok (.iaload, 1) := by decide +kernel
theorem dX8_ask_88 : decode cX8_ask 88 = .ok (.iconst (-1), 1) := by decide +kernel
theorem dX8_ask_89 : decode cX8_ask 89 = .ok (.ixor, 1) := by decide +kernel
theorem dX8_ask_90 : decode cX8_ask 90 = .ok (.iand, 1) := by decide +kernel
theorem dX8_ask_91 : decode cX8_ask 91 = .ok (.invokestatic 267, 3) := by decide +kernel
theorem dX8_ask_94 : decode cX8_ask 94 = .ok (.invokestatic 329, 3) := by decide +kernel
theorem dX8_ask_97 : decode cX8_ask 97 = .ok (.istore 4, 2) := by decide +kernel
theorem dX8_ask_99 : decode cX8_ask 99 = .ok (.iinc 5 1, 3) := by decide +kernel
theorem dX8_ask_102 : decode cX8_ask 102 = .ok (.goto (-53), 3) := by decide +kernel
theorem dX8_ask_105 : decode cX8_ask 105 = .ok (.iload_n 1, 1) := by decide +kernel
theorem dX8_ask_106 : decode cX8_ask 106 = .ok (.iconst (-1), 1) := by decide +kernel
theorem dX8_ask_107 : decode cX8_ask 107 = .ok (.if_icmp .eq 12, 3) := by decide +kernel
theorem dX8_ask_110 : decode cX8_ask 110 = .ok (.iload 4, 2) := by decide +kernel
theorem dX8_ask_112 : decode cX8_ask 112 = .ok (.iload_n 2, 1) := by decide +kernel
theorem dX8_ask_113 : decode cX8_ask 113 = .ok (.if_icmp .lt 6, 3) := by decide +kernel
theorem dX8_ask_116 : decode cX8_ask 116 = .ok (.goto 8, 3) := by decide +kernel
theorem dX8_ask_119 : decode cX8_ask 119 = .ok (.iload_n 3, 1) := by decide +kernel
theorem dX8_ask_120 : decode cX8_ask 120 = .ok (.istore_n 1, 1) := by decide +kernel
theorem dX8_ask_121 : decode cX8_ask 121 = .ok (.iload 4, 2) := by decide +kernel
theorem dX8_ask_123 : decode cX8_ask 123 = .ok (.istore_n 2, 1) := by decide +kernel
theorem dX8_ask_124 : decode cX8_ask 124 = .ok (.iinc 3 1, 3) := by decide +kernel
theorem dX8_ask_127 : decode cX8_ask 127 = .ok (.goto (-107), 3) := by decide +kernel
theorem dX8_ask_130 : decode cX8_ask 130 = .ok (.iload_n 1, 1) := by decide +kernel
theorem dX8_ask_131 : decode cX8_ask 131 = .ok (.ireturn, 1) := by decide +kernel
theorem dX8_row_0 : decode cX8_row 0 = .ok (.aload_n 0, 1) := by decide +kernel
theorem dX8_row_1 : decode cX8_row 1 = .ok (.iconst 0, 1) := by decide +kernel
theorem dX8_row_2 : decode cX8_row 2 = .ok (.putfield 117, 3) := by decide +kernel
theorem dX8_row_5 : decode cX8_row 5 = .ok (.aload_n 0, 1) := by decide +kernel
theorem dX8_row_6 : decode cX8_row 6 = .ok (.getfield 245, 3) := by decide +kernel
theorem dX8_row_9 : decode cX8_row 9 = .ok (.bipush 12, 2) := by decide +kernel
theorem dX8_row_11 : decode cX8_row 11 = .ok (.if_icmp .eq 17, 3) := by decide +kernel
theorem dX8_row_14 : decode cX8_row 14 = .ok (.iload_n 1, 1) := by decide +kernel
theorem dX8_row_15 : decode cX8_row 15 = .ok (.iconst 0, 1) := by decide +kernel
theorem dX8_row_16 : decode cX8_row 16 = .ok (.aload_n 0, 1) := by decide +kernel
theorem dX8_row_17 : decode cX8_row 17 = .ok (.getfield 25, 3) := by decide +kernel
theorem dX8_row_20 : decode cX8_row 20 = .ok (.iconst 0, 1) := by decide +kernel
theorem dX8_row_21 : decode cX8_row 21 = .ok (.iaload, 1) := by decide +kernel
theorem dX8_row_22 : decode cX8_row 22 = .ok (.invokestatic 120, 3) := by decide +kernel
theorem dX8_row_25 : decode cX8_row 25 = .ok (.ifCond .ne 5, 3) := by decide +kernel
theorem dX8_row_28 : decode cX8_row 28 = .ok (.iconst (-1), 1) := by decide +kernel
theorem dX8_row_29 : decode cX8_row 29 = .ok (.ireturn, 1) := by decide +kernel
theorem dX8_row_30 : decode cX8_row 30 = .ok (.iconst 0, 1) := by decide +kernel
theorem dX8_row_31 : decode cX8_row 31 = .ok (.istore 4, 2) := by decide +kernel
theorem dX8_row_33 : decode cX8_row 33 = .ok (.iload 4, 2) := by decide +kernel
theorem dX8_row_35 : decode cX8_row 35 = .ok (.iload_n 1, 1) := by decide +kernel
theorem dX8_row_36 : decode cX8_row 36 = .ok (.if_icmp .ge 49, 3) := by decide +kernel
theorem dX8_row_39 : decode cX8_row 39 = .ok (.lload_n 2, 1) := by decide +kernel
theorem dX8_row_40 : decode cX8_row 40 = .ok (.iconst 4, 1) := by decide +kernel
theorem dX8_row_41 : decode cX8_row 41 = .ok (.iload 4, 2) := by decide +kernel
theorem dX8_row_43 : decode cX8_row 43 = .ok (.imul, 1) := by decide +kernel
theorem dX8_row_44 : decode cX8_row 44 = .ok (.lshr, 1) := by decide +kernel
theorem dX8_row_45 : decode cX8_row 45 = .ok (.l2i, 1) := by decide +kernel
theorem dX8_row_46 : decode cX8_row 46 = .ok (.bipush 15, 2) := by decide +kernel
theorem dX8_row_48 : decode cX8_row 48 = .ok (.iand, 1) := by decide +kernel
theorem dX8_row_49 : decode cX8_row 49 = .ok (.istore 5, 2) := by decide +kernel
theorem dX8_row_51 : decode cX8_row 51 = .ok (.aload_n 0, 1) := by decide +kernel
theorem dX8_row_52 : decode cX8_row 52 = .ok (.iload 5, 2) := by decide +kernel
theorem dX8_row_54 : decode cX8_row 54 = .ok (.invokevirtual 264, 3) := by decide +kernel
theorem dX8_row_57 : decode cX8_row 57 = .ok (.ifCond .ne 5, 3) := by decide +kernel
theorem dX8_row_60 : decode cX8_row 60 = .ok (.iconst (-1), 1) := by decide +kernel
theorem dX8_row_61 : decode cX8_row 61 = .ok (.ireturn, 1) := by decide +kernel
theorem dX8_row_62 : decode cX8_row 62 = .ok (.aload_n 0, 1) := by decide +kernel
theorem dX8_row_63 : decode cX8_row 63 = .ok (.getfield 108, 3) := by decide +kernel
theorem dX8_row_66 : decode cX8_row 66 = .ok (.bipush 9, 2) := by decide +kernel
theorem dX8_row_68 : decode cX8_row 68 = .ok (.aload_n 0, 1) := by decide +kernel
theorem dX8_row_69 : decode cX8_row 69 = .ok (.getfield 245, 3) := by decide +kernel
theorem dX8_row_72 : decode cX8_row 72 = .ok (.imul, 1) := by decide +kernel
theorem dX8_row_73 : decode cX8_row 73 = .ok (.iload 4, 2) := by decide +kernel
theorem dX8_row_75 : decode cX8_row 75 = .ok (.iadd, 1) := by decide +kernel
theorem dX8_row_76 : decode cX8_row 76 = .ok (.iload 5, 2) := by decide +kernel
theorem dX8_row_78 : decode cX8_row 78 = .ok (.iastore, 1) := by decide +kernel
theorem dX8_row_79 : decode cX8_row 79 = .ok (.iinc 4 1, 3) := by decide +kernel
theorem dX8_row_82 : decode cX8_row 82 = .ok (.goto (-49), 3) := by decide +kernel
theorem dX8_row_85 : decode cX8_row 85 = .ok (.aload_n 0, 1) := by decide +kernel
theorem dX8_row_86 : decode cX8_row 86 = .ok (.getfield 105, 3) := by decide +kernel
theorem dX8_row_89 : decode cX8_row 89 = .ok (.aload_n 0, 1) := by decide +kernel
theorem dX8_row_90 : decode cX8_row 90 = .ok (.getfield 245, 3) := by decide +kernel
theorem dX8_row_93 : decode cX8_row 93 = .ok (.iload_n 1, 1) := by decide +kernel
theorem dX8_row_94 : decode cX8_row 94 = .ok (.iastore, 1) := by decide +kernel
theorem dX8_row_95 : decode cX8_row 95 = .ok (.aload_n 0, 1) := by decide +kernel
theorem dX8_row_96 : decode cX8_row 96 = .ok (.dup, 1) := by decide +kernel
theorem dX8_row_97 : decode cX8_row 97 = .ok (.getfield 245, 3) := by decide +kernel
theorem dX8_row_100 : decode cX8_row 100 = .ok (.iconst 1, 1) := by decide +kernel
theorem dX8_row_101 : decode cX8_row 101 = .ok (.iadd, 1) := by decide +kernel
theorem dX8_row_102 : decode cX8_row 102 = .ok (.putfield 245, 3) := by decide +kernel
theorem dX8_row_105 : decode cX8_row 105 = .ok (.aload_n 0, 1) := by decide +kernel
theorem dX8_row_106 : decode cX8_row 106 = .ok (.getfield 245, 3) := by decide +kernel
theorem dX8_row_109 : decode cX8_row 109 = .ok (.iconst 1, 1) := by decide +kernel
theorem dX8_row_110 : decode cX8_row 110 = .ok (.isub, 1) := by decide +kernel
theorem dX8_row_111 : decode cX8_row 111 = .ok (.ireturn, 1) := by decide +kernel
theorem dX8_isRow_0 : decode cX8_isRow 0 = .ok (.iload_n 1, 1) := by decide +kernel
theorem dX8_isRow_1 : decode cX8_isRow 1 = .ok (.iconst 0, 1) := by decide +kernel
theorem dX8_isRow_2 : decode cX8_isRow 2 = .ok (.aload_n 0, 1) := by decide +kernel
theorem dX8_isRow_3 : decode cX8_isRow 3 = .ok (.getfield 245, 3) := by decide +kernel
theorem dX8_isRow_6 : decode cX8_isRow 6 = .ok (.iconst 1, 1) := by decide +kernel
theorem dX8_isRow_7 : decode cX8_isRow 7 = .ok (.isub, 1) := by decide +kernel
theorem dX8_isRow_8 : decode cX8_isRow 8 = .ok (.invokestatic 120, 3) := by decide +kernel
theorem dX8_isRow_11 : decode cX8_isRow 11 = .ok (.ireturn, 1) := by decide +kernel
theorem dX8_leftBehind_0 : decode cX8_leftBehind 0 = .ok (.iconst 1, 1) := by decide +kernel
theorem dX8_leftBehind_1 : decode cX8_leftBehind 1 = .ok (.aload_n 0, 1) := by decide +kernel
theorem dX8_leftBehind_2 : decode cX8_leftBehind 2 = .ok (.getfield 7, 3) := by decide +kernel
theorem dX8_leftBehind_5 : decode cX8_leftBehind 5 = .ok (.iconst 0, 1) := by decide +kernel
theorem dX8_leftBehind_6 : decode cX8_leftBehind 6 = .ok (.iaload, 1) := by decide +kernel
theorem dX8_leftBehind_7 : decode cX8_leftBehind 7 = .ok (.ishl, 1) := by decide +kernel
theorem dX8_leftBehind_8 : decode cX8_leftBehind 8 = .ok (.iconst 1, 1) := by decide +kernel
theorem dX8_leftBehind_9 : decode cX8_leftBehind 9 = .ok (.isub, 1) := by decide +kernel
theorem dX8_leftBehind_10 : decode cX8_leftBehind 10 = .ok (.istore_n 2, 1) := by decide +kernel
theorem dX8_leftBehind_11 : decode cX8_leftBehind 11 = .ok (.iconst 0, 1) := by decide +kernel
theorem dX8_leftBehind_12 : decode cX8_leftBehind 12 = .ok (.istore_n 3, 1) := by decide +kernel
theorem dX8_leftBehind_13 : decode cX8_leftBehind 13 = .ok (.iload_n 3, 1) := by decide +kernel
theorem dX8_leftBehind_14 : decode cX8_leftBehind 14 = .ok (.aload_n 0, 1) := by decide +kernel
theorem dX8_leftBehind_15 : decode cX8_leftBehind 15 = .ok (.getfield 105, 3) := by decide +kernel
theorem dX8_leftBehind_18 : decode cX8_leftBehind 18 = .ok (.iload_n 1, 1) := by decide +kernel
theorem dX8_leftBehind_19 : decode cX8_leftBehind 19 = .ok (.iaload, 1) := by decide +kernel
theorem dX8_leftBehind_20 : decode cX8_leftBehind 20 = .ok (.if_icmp .ge 27, 3) := by decide +kernel
theorem dX8_leftBehind_23 : decode cX8_leftBehind 23 = .ok (.iload_n 2, 1) := by decide +kernel
theorem dX8_leftBehind_24 : decode cX8_leftBehind 24 = .ok (.iconst 1, 1) := by decide +kernel
theorem dX8_leftBehind_25 : decode cX8_leftBehind 25 = .ok (.aload_n 0, 1) := by decide +kernel
theorem dX8_leftBehind_26 : decode cX8_leftBehind 26 = .ok (.getfield 108, 3) := by decide +kernel
theorem dX8_leftBehind_29 : decode cX8_leftBehind 29 = .ok (.bipush 9, 2) := by decide +kernel
theorem dX8_leftBehind_31 : decode cX8_leftBehind 31 = .ok (.iload_n 1, 1) := by decide +kernel
theorem dX8_leftBehind_32 : decode cX8_leftBehind 32 = .ok (.imul, 1) := by decide +kernel
theorem dX8_leftBehind_33 : decode cX8_leftBehind 33 = .ok (.iload_n 3, 1) := by decide +kernel
theorem dX8_leftBehind_34 : decode cX8_leftBehind 34 = .ok (.iadd, 1) := by decide +kernel
theorem dX8_leftBehind_35 : decode cX8_leftBehind 35 = .ok (.iaload, 1) := by decide +kernel
theorem dX8_leftBehind_36 : decode cX8_leftBehind 36 = .ok (.ishl, 1) := by decide +kernel
theorem dX8_leftBehind_37 : decode cX8_leftBehind 37 = .ok (.iconst (-1), 1) := by decide +kernel
theorem dX8_leftBehind_38 : decode cX8_leftBehind 38 = .ok (.ixor, 1) := by decide +kernel
theorem dX8_leftBehind_39 : decode cX8_leftBehind 39 = .ok (.iand, 1) := by decide +kernel
theorem dX8_leftBehind_40 : decode cX8_leftBehind 40 = .ok (.istore_n 2, 1) := by decide +kernel
theorem dX8_leftBehind_41 : decode cX8_leftBehind 41 = .ok (.iinc 3 1, 3) := by decide +kernel
theorem dX8_leftBehind_44 : decode cX8_leftBehind 44 = .ok (.goto (-31), 3) := by decide +kernel
theorem dX8_leftBehind_47 : decode cX8_leftBehind 47 = .ok (.iload_n 2, 1) := by decide +kernel
theorem dX8_leftBehind_48 : decode cX8_leftBehind 48 = .ok (.ireturn, 1) := by decide +kernel
theorem dX8_judge_0 : decode cX8_judge 0 = .ok (.aload_n 0, 1) := by decide +kernel
theorem dX8_judge_1 : decode cX8_judge 1 = .ok (.iconst 0, 1) := by decide +kernel
theorem dX8_judge_2 : decode cX8_judge 2 = .ok (.putfield 117, 3) := by decide +kernel
theorem dX8_judge_5 : decode cX8_judge 5 = .ok (.aload_n 0, 1) := by decide +kernel
theorem dX8_judge_6 : decode cX8_judge 6 = .ok (.iload_n 1, 1) := by decide +kernel
theorem dX8_judge_7 : decode cX8_judge 7 = .ok (.invokevirtual 378, 3) := by decide +kernel
theorem dX8_judge_10 : decode cX8_judge 10 = .ok (.ifCond .eq 12, 3) := by decide +kernel
theorem dX8_judge_13 : decode cX8_judge 13 = .ok (.iload_n 2, 1) := by decide +kernel
theorem dX8_judge_14 : decode cX8_judge 14 = .ok (.iconst 0, 1) := by decide +kernel
theorem dX8_judge_15 : decode cX8_judge 15 = .ok (.iconst 3, 1) := by decide +kernel
theorem dX8_judge_16 : decode cX8_judge 16 = .ok (.invokestatic 120, 3) := by decide +kernel
theorem dX8_judge_19 : decode cX8_judge 19 = .ok (.ifCond .ne 9, 3) := by decide +kernel
theorem dX8_judge_22 : decode cX8_judge 22 = .ok (.aload_n 0, 1) := by decide +kernel
theorem dX8_judge_23 : decode cX8_judge 23 = .ok (.iconst 1, 1) := by decide +kernel
theorem dX8_judge_24 : decode cX8_judge 24 = .ok (.invokevirtual 232, 3) := by decide +kernel
theorem dX8_judge_27 : decode cX8_judge 27 = .ok (.ireturn, 1) := by decide +kernel
theorem dX8_judge_28 : decode cX8_judge 28 = .ok (.iload_n 2, 1) := by decide +kernel
theorem dX8_judge_29 : decode cX8_judge 29 = .ok (.ifCond .ne 10, 3) := by decide +kernel
theorem dX8_judge_32 : decode cX8_judge 32 = .ok (.aload_n 0, 1) := by decide +kernel
theorem dX8_judge_33 : decode cX8_judge 33 = .ok (.getfield 105, 3) := by decide +kernel
theorem dX8_judge_36 : decode cX8_judge 36 = .ok (.iload_n 1, 1) := by decide +kernel
theorem dX8_judge_37 : decode cX8_judge 37 = .ok (.iaload, 1) := by decide +kernel
theorem dX8_judge_38 : decode cX8_judge 38 = .ok (.ireturn, 1) := by decide +kernel
theorem dX8_judge_39 : decode cX8_judge 39 = .ok (.iload_n 2, 1) := by decide +kernel
theorem dX8_judge_40 : decode cX8_judge 40 = .ok (.iconst 3, 1) := by decide +kernel
theorem dX8_judge_41 : decode cX8_judge 41 = .ok (.if_icmp .ne 9, 3) := by decide +kernel
theorem dX8_judge_44 : decode cX8_judge 44 = .ok (.aload_n 0, 1) := by decide +kernel
theorem dX8_judge_45 : decode cX8_judge 45 = .ok (.iload_n 1, 1) := by decide +kernel
theorem dX8_judge_46 : decode cX8_judge 46 = .ok (.invokevirtual 381, 3) := by decide +kernel
theorem dX8_judge_49 : decode cX8_judge 49 = .ok (.ireturn, 1) := by decide +kernel
theorem dX8_judge_50 : decode cX8_judge 50 = .ok (.aload_n 0, 1) := by decide +kernel
theorem dX8_judge_51 : decode cX8_judge 51 = .ok (.invokevirtual 258, 3) := by decide +kernel
theorem dX8_judge_54 : decode cX8_judge 54 = .ok (.iconst 1, 1) := by decide +kernel
theorem dX8_judge_55 : decode cX8_judge 55 = .ok (.aload_n 0, 1) := by decide +kernel
theorem dX8_judge_56 : decode cX8_judge 56 = .ok (.getfield 251, 3) := by decide +kernel
theorem dX8_judge_59 : decode cX8_judge 59 = .ok (.ishl, 1) := by decide +kernel
theorem dX8_judge_60 : decode cX8_judge 60 = .ok (.iconst 1, 1) := by decide +kernel
theorem dX8_judge_61 : decode cX8_judge 61 = .ok (.isub, 1) := by decide +kernel
theorem dX8_judge_62 : decode cX8_judge 62 = .ok (.istore_n 3, 1) := by decide +kernel
theorem dX8_judge_63 : decode cX8_judge 63 = .ok (.iconst 0, 1) := by decide +kernel
theorem dX8_judge_64 : decode cX8_judge 64 = .ok (.istore 4, 2) := by decide +kernel
theorem dX8_judge_66 : decode cX8_judge 66 = .ok (.iload 4, 2) := by decide +kernel
theorem dX8_judge_68 : decode cX8_judge 68 = .ok (.aload_n 0, 1) := by decide +kernel
theorem dX8_judge_69 : decode cX8_judge 69 = .ok (.getfield 105, 3) := by decide +kernel
theorem dX8_judge_72 : decode cX8_judge 72 = .ok (.iload_n 1, 1) := by decide +kernel
theorem dX8_judge_73 : decode cX8_judge 73 = .ok (.iaload, 1) := by decide +kernel
theorem dX8_judge_74 : decode cX8_judge 74 = .ok (.if_icmp .ge 79, 3) := by decide +kernel
theorem dX8_judge_77 : decode cX8_judge 77 = .ok (.aload_n 0, 1) := by decide +kernel
theorem dX8_judge_78 : decode cX8_judge 78 = .ok (.getfield 108, 3) := by decide +kernel
theorem dX8_judge_81 : decode cX8_judge 81 = .ok (.bipush 9, 2) := by decide +kernel
theorem dX8_judge_83 : decode cX8_judge 83 = .ok (.iload_n 1, 1) := by decide +kernel
theorem dX8_judge_84 : decode cX8_judge 84 = .ok (.imul, 1) := by decide +kernel
theorem dX8_judge_85 : decode cX8_judge 85 = .ok (.iload 4, 2) := by decide +kernel
theorem dX8_judge_87 : decode cX8_judge 87 = .ok (.iadd, 1) := by decide +kernel
theorem dX8_judge_88 : decode cX8_judge 88 = .ok (.iaload, 1) := by decide +kernel
theorem dX8_judge_89 : decode cX8_judge 89 = .ok (.istore 5, 2) := by decide +kernel
theorem dX8_judge_91 : decode cX8_judge 91 = .ok (.iload_n 3, 1) := by decide +kernel
theorem dX8_judge_92 : decode cX8_judge 92 = .ok (.iload 5, 2) := by decide +kernel
theorem dX8_judge_94 : decode cX8_judge 94 = .ok (.ishr, 1) := by decide +kernel
theorem dX8_judge_95 : decode cX8_judge 95 = .ok (.iconst 1, 1) := by decide +kernel
theorem dX8_judge_96 : decode cX8_judge 96 = .ok (.iand, 1) := by decide +kernel
theorem dX8_judge_97 : decode cX8_judge 97 = .ok (.iconst 1, 1) := by decide +kernel
theorem dX8_judge_98 : decode cX8_judge 98 = .ok (.if_icmp .ne 29, 3) := by decide +kernel
theorem dX8_judge_101 : decode cX8_judge 101 = .ok (.iload_n 2, 1) := by decide +kernel
theorem dX8_judge_102 : decode cX8_judge 102 = .ok (.iconst 1, 1) := by decide +kernel
theorem dX8_judge_103 : decode cX8_judge 103 = .ok (.if_icmp .eq 20, 3) := by decide +kernel
theorem dX8_judge_106 : decode cX8_judge 106 = .ok (.aload_n 0, 1) := by decide +kernel
theorem dX8_judge_107 : decode cX8_judge 107 = .ok (.aload_n 0, 1) := by decide +kernel
theorem dX8_judge_108 : decode cX8_judge 108 = .ok (.getfield 37, 3) := by decide +kernel
theorem dX8_judge_111 : decode cX8_judge 111 = .ok (.iload 4, 2) := by decide +kernel
theorem dX8_judge_113 : decode cX8_judge 113 = .ok (.iaload, 1) := by decide +kernel
theorem dX8_judge_114 : decode cX8_judge 114 = .ok (.iload_n 3, 1) := by decide +kernel
theorem dX8_judge_115 : decode cX8_judge 115 = .ok (.invokevirtual 307, 3) := by decide +kernel
theorem dX8_judge_118 : decode cX8_judge 118 = .ok (.iload 5, 2) := by decide +kernel
theorem dX8_judge_120 : decode cX8_judge 120 = .ok (.if_icmp .ne 7, 3) := by decide +kernel
theorem dX8_judge_123 : decode cX8_judge 123 = .ok (.iconst 1, 1) := by decide +kernel
theorem dX8_judge_124 : decode cX8_judge 124 = .ok (.goto 4, 3) := by decide +kernel
theorem dX8_judge_127 : decode cX8_judge 127 = .ok (.iconst 0, 1) := by decide +kernel
theorem dX8_judge_128 : decode cX8_judge 128 = .ok (.istore 6, 2) := by decide +kernel
theorem dX8_judge_130 : decode cX8_judge 130 = .ok (.iload 6, 2) := by decide +kernel
theorem dX8_judge_132 : decode cX8_judge 132 = .ok (.ifCond .ne 6, 3) := by decide +kernel
theorem dX8_judge_135 : decode cX8_judge 135 = .ok (.iload 4, 2) := by decide +kernel
theorem dX8_judge_137 : decode cX8_judge 137 = .ok (.ireturn, 1) := by decide +kernel
theorem dX8_judge_138 : decode cX8_judge 138 = .ok (.iload_n 3, 1) := by decide +kernel
theorem dX8_judge_139 : decode cX8_judge 139 = .ok (.iconst 1, 1) := by decide +kernel
theorem dX8_judge_140 : decode cX8_judge 140 = .ok (.iload 5, 2) := by decide +kernel
theorem dX8_judge_142 : decode cX8_judge 142 = .ok (.ishl, 1) := by decide +kernel
theorem dX8_judge_143 : decode cX8_judge 143 = .ok (.iconst (-1), 1) := by decide +kernel
theorem dX8_judge_144 : decode cX8_judge 144 = .ok (.ixor, 1) := by decide +kernel
theorem dX8_judge_145 : decode cX8_judge 145 = .ok (.iand, 1) := by decide +kernel
theorem dX8_judge_146 : decode cX8_judge 146 = .ok (.istore_n 3, 1) := by decide +kernel
theorem dX8_judge_147 : decode cX8_judge 147 = .ok (.iinc 4 1, 3) := by decide +kernel
theorem dX8_judge_150 : decode cX8_judge 150 = .ok (.goto (-84), 3) := by decide +kernel
theorem dX8_judge_153 : decode cX8_judge 153 = .ok (.iconst (-1), 1) := by decide +kernel
theorem dX8_judge_154 : decode cX8_judge 154 = .ok (.ireturn, 1) := by decide +kernel
theorem dX8_isHolder_0 : decode cX8_isHolder 0 = .ok (.iload_n 0, 1) := by decide +kernel
theorem dX8_isHolder_1 : decode cX8_isHolder 1 = .ok (.iconst 0, 1) := by decide +kernel
theorem dX8_isHolder_2 : decode cX8_isHolder 2 = .ok (.bipush 7, 2) := by decide +kernel
theorem dX8_isHolder_4 : decode cX8_isHolder 4 = .ok (.invokestatic 120, 3) := by decide +kernel
theorem dX8_isHolder_7 : decode cX8_isHolder 7 = .ok (.ireturn, 1) := by decide +kernel
theorem dX8_hold_0 : decode cX8_hold 0 = .ok (.aload_n 0, 1) := by decide +kernel
theorem dX8_hold_1 : decode cX8_hold 1 = .ok (.iconst 0, 1) := by decide +kernel
theorem dX8_hold_2 : decode cX8_hold 2 = .ok (.putfield 117, 3) := by decide +kernel
theorem dX8_hold_5 : decode cX8_hold 5 = .ok (.iload_n 2, 1) := by decide +kernel
theorem dX8_hold_6 : decode cX8_hold 6 = .ok (.iconst 0, 1) := by decide +kernel
theorem dX8_hold_7 : decode cX8_hold 7 = .ok (.iconst 2, 1) := by decide +kernel
theorem dX8_hold_8 : decode cX8_hold 8 = .ok (.invokestatic 120, 3) := by decide +kernel
theorem dX8_hold_11 : decode cX8_hold 11 = .ok (.ifCond .eq 28, 3) := by decide +kernel
theorem dX8_hold_14 : decode cX8_hold 14 = .ok (.iload_n 2, 1) := by decide +kernel
theorem dX8_hold_15 : decode cX8_hold 15 = .ok (.ifCond .ne 11, 3) := by decide +kernel
theorem dX8_hold_18 : decode cX8_hold 18 = .ok (.aload_n 0, 1) := by decide +kernel
theorem dX8_hold_19 : decode cX8_hold 19 = .ok (.iload_n 3, 1) := by decide +kernel
theorem dX8_hold_20 : decode cX8_hold 20 = .ok (.invokevirtual 264, 3) := by decide +kernel
theorem dX8_hold_23 : decode cX8_hold 23 = .ok (.ifCond .eq 16, 3) := by decide +kernel
theorem dX8_hold_26 : decode cX8_hold 26 = .ok (.iload_n 2, 1) := by decide +kernel
theorem dX8_hold_27 : decode cX8_hold 27 = .ok (.iconst 1, 1) := by decide +kernel
theorem dX8_hold_28 : decode cX8_hold 28 = .ok (.if_icmp .ne 17, 3) := by decide +kernel
theorem dX8_hold_31 : decode cX8_hold 31 = .ok (.aload_n 0, 1) := by decide +kernel
theorem dX8_hold_32 : decode cX8_hold 32 = .ok (.iload_n 3, 1) := by decide +kernel
theorem dX8_hold_33 : decode cX8_hold 33 = .ok (.invokevirtual 378, 3) := by decide +kernel
theorem dX8_hold_36 : decode cX8_hold 36 = .ok (.ifCond .ne 9, 3) := by decide +kernel
theorem dX8_hold_39 : decode cX8_hold 39 = .ok (.aload_n 0, 1) := by decide +kernel
theorem dX8_hold_40 : decode cX8_hold 40 = .ok (.iconst 1, 1) := by decide +kernel
theorem dX8_hold_41 : decode cX8_hold 41 = .ok (.invokevirtual 282, 3) := by decide +kernel
theorem dX8_hold_44 : decode cX8_hold 44 = .ok (.ireturn, 1) := by decide +kernel
theorem dX8_hold_45 : decode cX8_hold 45 = .ok (.iload_n 1, 1) := by decide +kernel
theorem dX8_hold_46 : decode cX8_hold 46 = .ok (.invokestatic 384, 3) := by decide +kernel
theorem dX8_hold_49 : decode cX8_hold 49 = .ok (.ifCond .ne 5, 3) := by decide +kernel
theorem dX8_hold_52 : decode cX8_hold 52 = .ok (.iconst 0, 1) := by decide +kernel
theorem dX8_hold_53 : decode cX8_hold 53 = .ok (.ireturn, 1) := by decide +kernel
theorem dX8_hold_54 : decode cX8_hold 54 = .ok (.aload_n 0, 1) := by decide +kernel
theorem dX8_hold_55 : decode cX8_hold 55 = .ok (.getfield 111, 3) := by decide +kernel
theorem dX8_hold_58 : decode cX8_hold 58 = .ok (.iload_n 1, 1) := by decide +kernel
theorem dX8_hold_59 : decode cX8_hold 59 = .ok (.iload_n 2, 1) := by decide +kernel
theorem dX8_hold_60 : decode cX8_hold 60 = .ok (.iconst 2, 1) := by decide +kernel
theorem dX8_hold_61 : decode cX8_hold 61 = .ok (.if_icmp .ne 7, 3) := by decide +kernel
theorem dX8_hold_64 : decode cX8_hold 64 = .ok (.iconst (-1), 1) := by decide +kernel
theorem dX8_hold_65 : decode cX8_hold 65 = .ok (.goto 4, 3) := by decide +kernel
theorem dX8_hold_68 : decode cX8_hold 68 = .ok (.iload_n 2, 1) := by decide +kernel
theorem dX8_hold_69 : decode cX8_hold 69 = .ok (.iastore, 1) := by decide +kernel
theorem dX8_hold_70 : decode cX8_hold 70 = .ok (.aload_n 0, 1) := by decide +kernel
theorem dX8_hold_71 : decode cX8_hold 71 = .ok (.getfield 114, 3) := by decide +kernel
theorem dX8_hold_74 : decode cX8_hold 74 = .ok (.iload_n 1, 1) := by decide +kernel
theorem dX8_hold_75 : decode cX8_hold 75 = .ok (.iload_n 3, 1) := by decide +kernel
theorem dX8_hold_76 : decode cX8_hold 76 = .ok (.iastore, 1) := by decide +kernel
theorem dX8_hold_77 : decode cX8_hold 77 = .ok (.iconst 1, 1) := by decide +kernel
theorem dX8_hold_78 : decode cX8_hold 78 = .ok (.ireturn, 1) := by decide +kernel
theorem dX8_why_0 : decode cX8_why 0 = .ok (.aload_n 0, 1) := by decide +kernel
theorem dX8_why_1 : decode cX8_why 1 = .ok (.getfield 111, 3) := by decide +kernel
theorem dX8_why_4 : decode cX8_why 4 = .ok (.iload_n 1, 1) := by decide +kernel
theorem dX8_why_5 : decode cX8_why 5 = .ok (.iaload, 1) := by decide +kernel
theorem dX8_why_6 : decode cX8_why 6 = .ok (.iconst (-1), 1) := by decide +kernel
theorem dX8_why_7 : decode cX8_why 7 = .ok (.if_icmp .ne 7, 3) := by decide +kernel
theorem dX8_why_10 : decode cX8_why 10 = .ok (.iconst 1, 1) := by decide +kernel
theorem dX8_why_11 : decode cX8_why 11 = .ok (.goto 18, 3) := by decide +kernel
theorem dX8_why_14 : decode cX8_why 14 = .ok (.aload_n 0, 1) := by decide +kernel
theorem dX8_why_15 : decode cX8_why 15 = .ok (.getfield 111, 3) := by decide +kernel
theorem dX8_why_18 : decode cX8_why 18 = .ok (.iload_n 1, 1) := by decide +kernel
theorem dX8_why_19 : decode cX8_why 19 = .ok (.iaload, 1) := by decide +kernel
theorem dX8_why_20 : decode cX8_why 20 = .ok (.iload_n 2, 1) := by decide +kernel
theorem dX8_why_21 : decode cX8_why 21 = .ok (.if_icmp .eq 7, 3) := by decide +kernel
theorem dX8_why_24 : decode cX8_why 24 = .ok (.iconst 2, 1) := by decide +kernel
theorem dX8_why_25 : decode cX8_why 25 = .ok (.goto 4, 3) := by decide +kernel
theorem dX8_why_28 : decode cX8_why 28 = .ok (.iconst 0, 1) := by decide +kernel
theorem dX8_why_29 : decode cX8_why 29 = .ok (.ireturn, 1) := by decide +kernel
theorem dX8_held_0 : decode cX8_held 0 = .ok (.aload_n 0, 1) := by decide +kernel
theorem dX8_held_1 : decode cX8_held 1 = .ok (.iconst 0, 1) := by decide +kernel
theorem dX8_held_2 : decode cX8_held 2 = .ok (.putfield 117, 3) := by decide +kernel
theorem dX8_held_5 : decode cX8_held 5 = .ok (.iload_n 1, 1) := by decide +kernel
theorem dX8_held_6 : decode cX8_held 6 = .ok (.invokestatic 384, 3) := by decide +kernel
theorem dX8_held_9 : decode cX8_held 9 = .ok (.ifCond .eq 12, 3) := by decide +kernel
theorem dX8_held_12 : decode cX8_held 12 = .ok (.iload_n 2, 1) := by decide +kernel
theorem dX8_held_13 : decode cX8_held 13 = .ok (.ifCond .lt 8, 3) := by decide +kernel
theorem dX8_held_16 : decode cX8_held 16 = .ok (.iload_n 2, 1) := by decide +kernel
theorem dX8_held_17 : decode cX8_held 17 = .ok (.iconst 1, 1) := by decide +kernel
theorem dX8_held_18 : decode cX8_held 18 = .ok (.if_icmp .le 9, 3) := by decide +kernel
theorem dX8_held_21 : decode cX8_held 21 = .ok (.aload_n 0, 1) := by decide +kernel
theorem dX8_held_22 : decode cX8_held 22 = .ok (.iconst 1, 1) := by decide +kernel
theorem dX8_held_23 : decode cX8_held 23 = .ok (.invokevirtual 232, 3) := by decide +kernel
theorem dX8_held_26 : decode cX8_held 26 = .ok (.ireturn, 1) := by decide +kernel
theorem dX8_held_27 : decode cX8_held 27 = .ok (.aload_n 0, 1) := by decide +kernel
theorem dX8_held_28 : decode cX8_held 28 = .ok (.iload_n 1, 1) := by decide +kernel
theorem dX8_held_29 : decode cX8_held 29 = .ok (.iload_n 2, 1) := by decide +kernel
theorem dX8_held_30 : decode cX8_held 30 = .ok (.invokevirtual 387, 3) := by decide +kernel
theorem dX8_held_33 : decode cX8_held 33 = .ok (.istore_n 3, 1) := by decide +kernel
theorem dX8_held_34 : decode cX8_held 34 = .ok (.iload_n 3, 1) := by decide +kernel
theorem dX8_held_35 : decode cX8_held 35 = .ok (.ifCond .ne 15, 3) := by decide +kernel
theorem dX8_held_38 : decode cX8_held 38 = .ok (.bipush 10, 2) := by decide +kernel
theorem dX8_held_40 : decode cX8_held 40 = .ok (.aload_n 0, 1) := by decide +kernel
theorem dX8_held_41 : decode cX8_held 41 = .ok (.getfield 114, 3) := by decide +kernel
theorem dX8_held_44 : decode cX8_held 44 = .ok (.iload_n 1, 1) := by decide +kernel
theorem dX8_held_45 : decode cX8_held 45 = .ok (.iaload, 1) := by decide +kernel
theorem dX8_held_46 : decode cX8_held 46 = .ok (.iadd, 1) := by decide +kernel
theorem dX8_held_47 : decode cX8_held 47 = .ok (.goto 4, 3) := by decide +kernel
theorem dX8_held_50 : decode cX8_held 50 = .ok (.iload_n 3, 1) := by decide +kernel
theorem dX8_held_51 : decode cX8_held 51 = .ok (.ireturn, 1) := by decide +kernel
theorem dX8_left_0 : decode cX8_left 0 = .ok (.aload_n 0, 1) := by decide +kernel
theorem dX8_left_1 : decode cX8_left 1 = .ok (.iconst 0, 1) := by decide +kernel
theorem dX8_left_2 : decode cX8_left 2 = .ok (.putfield 117, 3) := by decide +kernel
theorem dX8_left_5 : decode cX8_left 5 = .ok (.iload_n 1, 1) := by decide +kernel
theorem dX8_left_6 : decode cX8_left 6 = .ok (.invokestatic 384, 3) := by decide +kernel
theorem dX8_left_9 : decode cX8_left 9 = .ok (.ifCond .eq 10, 3) := by decide +kernel
theorem dX8_left_12 : decode cX8_left 12 = .ok (.iload_n 2, 1) := by decide +kernel
theorem dX8_left_13 : decode cX8_left 13 = .ok (.invokestatic 384, 3) := by decide +kernel
theorem dX8_left_16 : decode cX8_left 16 = .ok (.ifCond .ne 9, 3) := by decide +kernel
theorem dX8_left_19 : decode cX8_left 19 = .ok (.aload_n 0, 1) := by decide +kernel
theorem dX8_left_20 : decode cX8_left 20 = .ok (.iconst 1, 1) := by decide +kernel
theorem dX8_left_21 : decode cX8_left 21 = .ok (.invokevirtual 232, 3) := by decide +kernel
theorem dX8_left_24 : decode cX8_left 24 = .ok (.ireturn, 1) := by decide +kernel
theorem dX8_left_25 : decode cX8_left 25 = .ok (.aload_n 0, 1) := by decide +kernel
theorem dX8_left_26 : decode cX8_left 26 = .ok (.iload_n 1, 1) := by decide +kernel
theorem dX8_left_27 : decode cX8_left 27 = .ok (.iconst 0, 1) := by decide +kernel
theorem dX8_left_28 : decode cX8_left 28 = .ok (.invokevirtual 387, 3) := by decide +kernel
theorem dX8_left_31 : decode cX8_left 31 = .ok (.istore_n 3, 1) := by decide +kernel
theorem dX8_left_32 : decode cX8_left 32 = .ok (.aload_n 0, 1) := by decide +kernel
theorem dX8_left_33 : decode cX8_left 33 = .ok (.iload_n 2, 1) := by decide +kernel
theorem dX8_left_34 : decode cX8_left 34 = .ok (.iconst 1, 1) := by decide +kernel
theorem dX8_left_35 : decode cX8_left 35 = .ok (.invokevirtual 387, 3) := by decide +kernel
theorem dX8_left_38 : decode cX8_left 38 = .ok (.istore 4, 2) := by decide +kernel
theorem dX8_left_40 : decode cX8_left 40 = .ok (.iload_n 3, 1) := by decide +kernel
theorem dX8_left_41 : decode cX8_left 41 = .ok (.ifCond .ne 8, 3) := by decide +kernel
theorem dX8_left_44 : decode cX8_left 44 = .ok (.iload 4, 2) := by decide +kernel
theorem dX8_left_46 : decode cX8_left 46 = .ok (.ifCond .eq 28, 3) := by decide +kernel
theorem dX8_left_49 : decode cX8_left 49 = .ok (.iload_n 3, 1) := by decide +kernel
theorem dX8_left_50 : decode cX8_left 50 = .ok (.ifCond .ne 8, 3) := by decide +kernel
theorem dX8_left_53 : decode cX8_left 53 = .ok (.iload 4, 2) := by decide +kernel
theorem dX8_left_55 : decode cX8_left 55 = .ok (.goto 18, 3) := by decide +kernel
theorem dX8_left_58 : decode cX8_left 58 = .ok (.iload 4, 2) := by decide +kernel
theorem dX8_left_60 : decode cX8_left 60 = .ok (.ifCond .ne 7, 3) := by decide +kernel
theorem dX8_left_63 : decode cX8_left 63 = .ok (.iload_n 3, 1) := by decide +kernel
theorem dX8_left_64 : decode cX8_left 64 = .ok (.goto 9, 3) := by decide +kernel
theorem dX8_left_67 : decode cX8_left 67 = .ok (.iload_n 3, 1) := by decide +kernel
theorem dX8_left_68 : decode cX8_left 68 = .ok (.iload 4, 2) := by decide +kernel
theorem dX8_left_70 : decode cX8_left 70 = .ok (.invokestatic 153, 3) := by decide +kernel
theorem dX8_left_73 : decode cX8_left 73 = .ok (.ireturn, 1) := by decide +kernel
theorem dX8_left_74 : decode cX8_left 74 = .ok (.aload_n 0, 1) := by decide +kernel
theorem dX8_left_75 : decode cX8_left 75 = .ok (.aload_n 0, 1) := by decide +kernel
theorem dX8_left_76 : decode cX8_left 76 = .ok (.getfield 114, 3) := by decide +kernel
theorem dX8_left_79 : decode cX8_left 79 = .ok (.iload_n 2, 1) := by decide +kernel
theorem dX8_left_80 : decode cX8_left 80 = .ok (.iaload, 1) := by decide +kernel
theorem dX8_left_81 : decode cX8_left 81 = .ok (.invokevirtual 381, 3) := by decide +kernel
theorem dX8_left_84 : decode cX8_left 84 = .ok (.aload_n 0, 1) := by decide +kernel
theorem dX8_left_85 : decode cX8_left 85 = .ok (.getfield 114, 3) := by decide +kernel
theorem dX8_left_88 : decode cX8_left 88 = .ok (.iload_n 1, 1) := by decide +kernel
theorem dX8_left_89 : decode cX8_left 89 = .ok (.iaload, 1) := by decide +kernel
theorem dX8_left_90 : decode cX8_left 90 = .ok (.ishr, 1) := by decide +kernel
theorem dX8_left_91 : decode cX8_left 91 = .ok (.iconst 1, 1) := by decide +kernel
theorem dX8_left_92 : decode cX8_left 92 = .ok (.iand, 1) := by decide +kernel
theorem dX8_left_93 : decode cX8_left 93 = .ok (.iconst 1, 1) := by decide +kernel
theorem dX8_left_94 : decode cX8_left 94 = .ok (.if_icmp .ne 8, 3) := by decide +kernel
theorem dX8_left_97 : decode cX8_left 97 = .ok (.bipush 11, 2) := by decide +kernel
theorem dX8_left_99 : decode cX8_left 99 = .ok (.goto 5, 3) := by decide +kernel
theorem dX8_left_102 : decode cX8_left 102 = .ok (.bipush 10, 2) := by decide +kernel
theorem dX8_left_104 : decode cX8_left 104 = .ok (.ireturn, 1) := by decide +kernel
