theorem dX12_init_0 : decode cX12_init 0 = .ok (.aload_n 0, 1) := by decide +kernel
theorem dX12_init_1 : decode cX12_init 1 = .ok (.invokespecial 1, 3) := by decide +kernel
theorem dX12_init_4 : decode cX12_init 4 = .ok (.aload_n 0, 1) := by decide +kernel
theorem dX12_init_5 : decode cX12_init 5 = .ok (.sipush 1620, 3) := by decide +kernel
theorem dX12_init_8 : decode cX12_init 8 = .ok (.newarray .byte, 2) := by decide +kernel
theorem dX12_init_10 : decode cX12_init 10 = .ok (.putfield 7, 3) := by decide +kernel
theorem dX12_init_13 : decode cX12_init 13 = .ok (.aload_n 0, 1) := by decide +kernel
theorem dX12_init_14 : decode cX12_init 14 = .ok (.sipush 1600, 3) := by decide +kernel
theorem dX12_init_17 : decode cX12_init 17 = .ok (.newarray .byte, 2) := by decide +kernel
theorem dX12_init_19 : decode cX12_init 19 = .ok (.putfield 13, 3) := by decide +kernel
theorem dX12_init_22 : decode cX12_init 22 = .ok (.aload_n 0, 1) := by decide +kernel
theorem dX12_init_23 : decode cX12_init 23 = .ok (.iconst (-1), 1) := by decide +kernel
theorem dX12_init_24 : decode cX12_init 24 = .ok (.putfield 16, 3) := by decide +kernel
theorem dX12_init_27 : decode cX12_init 27 = .ok (.aload_n 0, 1) := by decide +kernel
theorem dX12_init_28 : decode cX12_init 28 = .ok (.iconst 2, 1) := by decide +kernel
theorem dX12_init_29 : decode cX12_init 29 = .ok (.newarray .int, 2) := by decide +kernel
theorem dX12_init_31 : decode cX12_init 31 = .ok (.putfield 20, 3) := by decide +kernel
theorem dX12_init_34 : decode cX12_init 34 = .ok (.aload_n 0, 1) := by decide +kernel
theorem dX12_init_35 : decode cX12_init 35 = .ok (.iconst 2, 1) := by decide +kernel
theorem dX12_init_36 : decode cX12_init 36 = .ok (.newarray .int, 2) := by decide +kernel
theorem dX12_init_38 : decode cX12_init 38 = .ok (.putfield 24, 3) := by decide +kernel
theorem dX12_init_41 : decode cX12_init 41 = .ok (.aload_n 0, 1) := by decide +kernel
theorem dX12_init_42 : decode cX12_init 42 = .ok (.iconst 2, 1) := by decide +kernel
theorem dX12_init_43 : decode cX12_init 43 = .ok (.newarray .int, 2) := by decide +kernel
theorem dX12_init_45 : decode cX12_init 45 = .ok (.putfield 27, 3) := by decide +kernel
theorem dX12_init_48 : decode cX12_init 48 = .ok (.aload_n 0, 1) := by decide +kernel
theorem dX12_init_49 : decode cX12_init 49 = .ok (.iconst 2, 1) := by decide +kernel
theorem dX12_init_50 : decode cX12_init 50 = .ok (.newarray .int, 2) := by decide +kernel
theorem dX12_init_52 : decode cX12_init 52 = .ok (.putfield 30, 3) := by decide +kernel
theorem dX12_init_55 : decode cX12_init 55 = .ok (.aload_n 0, 1) := by decide +kernel
theorem dX12_init_56 : decode cX12_init 56 = .ok (.bipush 6, 2) := by decide +kernel
theorem dX12_init_58 : decode cX12_init 58 = .ok (.newarray .long, 2) := by decide +kernel
theorem dX12_init_60 : decode cX12_init 60 = .ok (.putfield 33, 3) := by decide +kernel
theorem dX12_init_63 : decode cX12_init 63 = .ok (.aload_n 0, 1) := by decide +kernel
theorem dX12_init_64 : decode cX12_init 64 = .ok (.bipush 8, 2) := by decide +kernel
theorem dX12_init_66 : decode cX12_init 66 = .ok (.newarray .long, 2) := by decide +kernel
theorem dX12_init_68 : decode cX12_init 68 = .ok (.putfield 37, 3) := by decide +kernel
theorem dX12_init_71 : decode cX12_init 71 = .ok (.aload_n 0, 1) := by decide +kernel
theorem dX12_init_72 : decode cX12_init 72 = .ok (.bipush 16, 2) := by decide +kernel
theorem dX12_init_74 : decode cX12_init 74 = .ok (.newarray .long, 2) := by decide +kernel
theorem dX12_init_76 : decode cX12_init 76 = .ok (.putfield 40, 3) := by decide +kernel
theorem dX12_init_79 : decode cX12_init 79 = .ok (.aload_n 0, 1) := by decide +kernel
theorem dX12_init_80 : decode cX12_init 80 = .ok (.bipush 16, 2) := by decide +kernel
theorem dX12_init_82 : decode cX12_init 82 = .ok (.newarray .int, 2) := by decide +kernel
theorem dX12_init_84 : decode cX12_init 84 = .ok (.putfield 43, 3) := by decide +kernel
theorem dX12_init_87 : decode cX12_init 87 = .ok (.aload_n 0, 1) := by decide +kernel
theorem dX12_init_88 : decode cX12_init 88 = .ok (.bipush 16, 2) := by decide +kernel
theorem dX12_init_90 : decode cX12_init 90 = .ok (.newarray .int, 2) := by decide +kernel
theorem dX12_init_92 : decode cX12_init 92 = .ok (.putfield 46, 3) := by decide +kernel
theorem dX12_init_95 : decode cX12_init 95 = .ok (.aload_n 0, 1) := by decide +kernel
theorem dX12_init_96 : decode cX12_init 96 = .ok (.bipush 16, 2) := by decide +kernel
theorem dX12_init_98 : decode cX12_init 98 = .ok (.newarray .boolean, 2) := by decide +kernel
theorem dX12_init_100 : decode cX12_init 100 = .ok (.putfield 49, 3) := by decide +kernel
theorem dX12_init_103 : decode cX12_init 103 = .ok (.aload_n 0, 1) := by decide +kernel
theorem dX12_init_104 : decode cX12_init 104 = .ok (.bipush 48, 2) := by decide +kernel
theorem dX12_init_106 : decode cX12_init 106 = .ok (.newarray .int, 2) := by decide +kernel
theorem dX12_init_108 : decode cX12_init 108 = .ok (.putfield 53, 3) := by decide +kernel
theorem dX12_init_111 : decode cX12_init 111 = .ok (.aload_n 0, 1) := by decide +kernel
theorem dX12_init_112 : decode cX12_init 112 = .ok (.bipush 48, 2) := by decide +kernel
theorem dX12_init_114 : decode cX12_init 114 = .ok (.newarray .int, 2) := by decide +kernel
theorem dX12_init_116 : decode cX12_init 116 = .ok (.putfield 56, 3) := by decide +kernel
theorem dX12_init_119 : decode cX12_init 119 = .ok (.aload_n 0, 1) := by decide +kernel
theorem dX12_init_120 : decode cX12_init 120 = .ok (.sipush 30720, 3) := by decide +kernel
theorem dX12_init_123 : decode cX12_init 123 = .ok (.newarray .int, 2) := by decide +kernel
theorem dX12_init_125 : decode cX12_init 125 = .ok (.putfield 59, 3) := by decide +kernel
theorem dX12_init_128 : decode cX12_init 128 = .ok (.aload_n 0, 1) := by decide +kernel
theorem dX12_init_129 : decode cX12_init 129 = .ok (.sipush 30720, 3) := by decide +kernel
theorem dX12_init_132 : decode cX12_init 132 = .ok (.newarray .int, 2) := by decide +kernel
theorem dX12_init_134 : decode cX12_init 134 = .ok (.putfield 62, 3) := by decide +kernel
theorem dX12_init_137 : decode cX12_init 137 = .ok (.aload_n 0, 1) := by decide +kernel
theorem dX12_init_138 : decode cX12_init 138 = .ok (.sipush 30720, 3) := by decide +kernel
theorem dX12_init_141 : decode cX12_init 141 = .ok (.newarray .int, 2) := by decide +kernel
theorem dX12_init_143 : decode cX12_init 143 = .ok (.putfield 65, 3) := by decide +kernel
theorem dX12_init_146 : decode cX12_init 146 = .ok (.aload_n 0, 1) := by decide +kernel
theorem dX12_init_147 : decode cX12_init 147 = .ok (.bipush 120, 2) := by decide +kernel
theorem dX12_init_149 : decode cX12_init 149 = .ok (.newarray .int, 2) := by decide +kernel
theorem dX12_init_151 : decode cX12_init 151 = .ok (.putfield 68, 3) := by decide +kernel
theorem dX12_init_154 : decode cX12_init 154 = .ok (.aload_n 0, 1) := by decide +kernel
theorem dX12_init_155 : decode cX12_init 155 = .ok (.bipush 120, 2) := by decide +kernel
theorem dX12_init_157 : decode cX12_init 157 = .ok (.newarray .int, 2) := by decide +kernel
theorem dX12_init_159 : decode cX12_init 159 = .ok (.putfield 71, 3) := by decide +kernel
theorem dX12_init_162 : decode cX12_init 162 = .ok (.aload_n 0, 1) := by decide +kernel
theorem dX12_init_163 : decode cX12_init 163 = .ok (.bipush 8, 2) := by decide +kernel
theorem dX12_init_165 : decode cX12_init 165 = .ok (.newarray .int, 2) := by decide +kernel
theorem dX12_init_167 : decode cX12_init 167 = .ok (.putfield 74, 3) := by decide +kernel
theorem dX12_init_170 : decode cX12_init 170 = .ok (.aload_n 0, 1) := by decide +kernel
theorem dX12_init_171 : decode cX12_init 171 = .ok (.bipush 8, 2) := by decide +kernel
theorem dX12_init_173 : decode cX12_init 173 = .ok (.newarray .int, 2) := by decide +kernel
theorem dX12_init_175 : decode cX12_init 175 = .ok (.putfield 77, 3) := by decide +kernel
theorem dX12_init_178 : decode cX12_init 178 = .ok (.aload_n 0, 1) := by decide +kernel
theorem dX12_init_179 : decode cX12_init 179 = .ok (.bipush 9, 2) := by decide +kernel
theorem dX12_init_181 : decode cX12_init 181 = .ok (.newarray .int, 2) := by decide +kernel
theorem dX12_init_183 : decode cX12_init 183 = .ok (.putfield 80, 3) := by decide +kernel
theorem dX12_init_186 : decode cX12_init 186 = .ok (.aload_n 0, 1) := by decide +kernel
theorem dX12_init_187 : decode cX12_init 187 = .ok (.bipush 120, 2) := by decide +kernel
theorem dX12_init_189 : decode cX12_init 189 = .ok (.newarray .int, 2) := by decide +kernel
theorem dX12_init_191 : decode cX12_init 191 = .ok (.putfield 83, 3) := by decide +kernel
theorem dX12_init_194 : decode cX12_init 194 = .ok (.aload_n 0, 1) := by decide +kernel
theorem dX12_init_195 : decode cX12_init 195 = .ok (.iconst (-1), 1) := by decide +kernel
theorem dX12_init_196 : decode cX12_init 196 = .ok (.putfield 86, 3) := by decide +kernel
theorem dX12_init_199 : decode cX12_init 199 = .ok (.aload_n 0, 1) := by decide +kernel
theorem dX12_init_200 : decode cX12_init 200 = .ok (.ldc 89, 2) := by decide +kernel
theorem dX12_init_202 : decode cX12_init 202 = .ok (.newarray .int, 2) := by decide +kernel
theorem dX12_init_204 : decode cX12_init 204 = .ok (.putfield 90, 3) := by decide +kernel
theorem dX12_init_207 : decode cX12_init 207 = .ok (.aload_n 0, 1) := by decide +kernel
theorem dX12_init_208 : decode cX12_init 208 = .ok (.ldc 89, 2) := by decide +kernel
theorem dX12_init_210 : decode cX12_init 210 = .ok (.newarray .int, 2) := by decide +kernel
theorem dX12_init_212 : decode cX12_init 212 = .ok (.putfield 93, 3) := by decide +kernel
theorem dX12_init_215 : decode cX12_init 215 = .ok (.aload_n 0, 1) := by decide +kernel
theorem dX12_init_216 : decode cX12_init 216 = .ok (.sipush 256, 3) := by decide +kernel
theorem dX12_init_219 : decode cX12_init 219 = .ok (.newarray .boolean, 2) := by decide +kernel
theorem dX12_init_221 : decode cX12_init 221 = .ok (.putfield 96, 3) := by decide +kernel
theorem dX12_init_224 : decode cX12_init 224 = .ok (.aload_n 0, 1) := by decide +kernel
theorem dX12_init_225 : decode cX12_init 225 = .ok (.bipush 8, 2) := by decide +kernel
theorem dX12_init_227 : decode cX12_init 227 = .ok (.newarray .int, 2) := by decide +kernel
theorem dX12_init_229 : decode cX12_init 229 = .ok (.putfield 99, 3) := by decide +kernel
theorem dX12_init_232 : decode cX12_init 232 = .ok (.aload_n 0, 1) := by decide +kernel
theorem dX12_init_233 : decode cX12_init 233 = .ok (.bipush 8, 2) := by decide +kernel
theorem dX12_init_235 : decode cX12_init 235 = .ok (.newarray .int, 2) := by decide +kernel
theorem dX12_init_237 : decode cX12_init 237 = .ok (.putfield 102, 3) := by decide +kernel
theorem dX12_init_240 : decode cX12_init 240 = .ok (.aload_n 0, 1) := by decide +kernel
theorem dX12_init_241 : decode cX12_init 241 = .ok (.bipush 8, 2) := by decide +kernel
theorem dX12_init_243 : decode cX12_init 243 = .ok (.newarray .int, 2) := by decide +kernel
theorem dX12_init_245 : decode cX12_init 245 = .ok (.putfield 105, 3) := by decide +kernel
theorem dX12_init_248 : decode cX12_init 248 = .ok (.aload_n 0, 1) := by decide +kernel
theorem dX12_init_249 : decode cX12_init 249 = .ok (.bipush 64, 2) := by decide +kernel
theorem dX12_init_251 : decode cX12_init 251 = .ok (.newarray .int, 2) := by decide +kernel
theorem dX12_init_253 : decode cX12_init 253 = .ok (.putfield 108, 3) := by decide +kernel
theorem dX12_init_256 : decode cX12_init 256 = .ok (.aload_n 0, 1) := by decide +kernel
theorem dX12_init_257 : decode cX12_init 257 = .ok (.bipush 64, 2) := by decide +kernel
theorem dX12_init_259 : decode cX12_init 259 = .ok (.newarray .int, 2) := by decide +kernel
theorem dX12_init_261 : decode cX12_init 261 = .ok (.putfield 111, 3) := by decide +kernel
theorem dX12_init_264 : decode cX12_init 264 = .ok (.aload_n 0, 1) := by decide +kernel
theorem dX12_init_265 : decode cX12_init 265 = .ok (.bipush 20, 2) := by decide +kernel
theorem dX12_init_267 : decode cX12_init 267 = .ok (.newarray .int, 2) := by decide +kernel
theorem dX12_init_269 : decode cX12_init 269 = .ok (.putfield 114, 3) := by decide +kernel
theorem dX12_init_272 : decode cX12_init 272 = .ok (.aload_n 0, 1) := by decide +kernel
theorem dX12_init_273 : decode cX12_init 273 = .ok (.bipush 20, 2) := by decide +kernel
theorem dX12_init_275 : decode cX12_init 275 = .ok (.newarray .int, 2) := by decide +kernel
theorem dX12_init_277 : decode cX12_init 277 = .ok (.putfield 117, 3) := by decide +kernel
theorem dX12_init_280 : decode cX12_init 280 = .ok (.aload_n 0, 1) := by decide +kernel
theorem dX12_init_281 : decode cX12_init 281 = .ok (.bipush 20, 2) := by decide +kernel
theorem dX12_init_283 : decode cX12_init 283 = .ok (.newarray .int, 2) := by decide +kernel
theorem dX12_init_285 : decode cX12_init 285 = .ok (.putfield 120, 3) := by decide +kernel
theorem dX12_init_288 : decode cX12_init 288 = .ok (.aload_n 0, 1) := by decide +kernel
theorem dX12_init_289 : decode cX12_init 289 = .ok (.bipush 20, 2) := by decide +kernel
theorem dX12_init_291 : decode cX12_init 291 = .ok (.newarray .int, 2) := by decide +kernel
theorem dX12_init_293 : decode cX12_init 293 = .ok (.putfield 123, 3) := by decide +kernel
theorem dX12_init_296 : decode cX12_init 296 = .ok (.aload_n 0, 1) := by decide +kernel
theorem dX12_init_297 : decode cX12_init 297 = .ok (.iconst 3, 1) := by decide +kernel
theorem dX12_init_298 : decode cX12_init 298 = .ok (.newarray .int, 2) := by decide +kernel
theorem dX12_init_300 : decode cX12_init 300 = .ok (.putfield 126, 3) := by decide +kernel
theorem dX12_init_303 : decode cX12_init 303 = .ok (.aload_n 0, 1) := by decide +kernel
theorem dX12_init_304 : decode cX12_init 304 = .ok (.bipush 24, 2) := by decide +kernel
theorem dX12_init_306 : decode cX12_init 306 = .ok (.newarray .int, 2) := by decide +kernel
theorem dX12_init_308 : decode cX12_init 308 = .ok (.putfield 129, 3) := by decide +kernel
theorem dX12_init_311 : decode cX12_init 311 = .ok (.aload_n 0, 1) := by decide +kernel
theorem dX12_init_312 : decode cX12_init 312 = .ok (.bipush 60, 2) := by decide +kernel
theorem dX12_init_314 : decode cX12_init 314 = .ok (.newarray .int, 2) := by decide +kernel
theorem dX12_init_316 : decode cX12_init 316 = .ok (.putfield 132, 3) := by decide +kernel
theorem dX12_init_319 : decode cX12_init 319 = .ok (.aload_n 0, 1) := by decide +kernel
theorem dX12_init_320 : decode cX12_init 320 = .ok (.bipush 60, 2) := by decide +kernel
theorem dX12_init_322 : decode cX12_init 322 = .ok (.newarray .int, 2) := by decide +kernel
theorem dX12_init_324 : decode cX12_init 324 = .ok (.putfield 135, 3) := by decide +kernel
theorem dX12_init_327 : decode cX12_init 327 = .ok (.aload_n 0, 1) := by decide +kernel
theorem dX12_init_328 : decode cX12_init 328 = .ok (.bipush 60, 2) := by decide +kernel
theorem dX12_init_330 : decode cX12_init 330 = .ok (.newarray .int, 2) := by decide +kernel
theorem dX12_init_332 : decode cX12_init 332 = .ok (.putfield 138, 3) := by decide +kernel
theorem dX12_init_335 : decode cX12_init 335 = .ok (.aload_n 0, 1) := by decide +kernel
theorem dX12_init_336 : decode cX12_init 336 = .ok (.bipush 60, 2) := by decide +kernel
theorem dX12_init_338 : decode cX12_init 338 = .ok (.newarray .int, 2) := by decide +kernel
theorem dX12_init_340 : decode cX12_init 340 = .ok (.putfield 141, 3) := by decide +kernel
theorem dX12_init_343 : decode cX12_init 343 = .ok (.aload_n 0, 1) := by decide +kernel
theorem dX12_init_344 : decode cX12_init 344 = .ok (.invokevirtual 144, 3) := by decide +kernel
theorem dX12_init_347 : decode cX12_init 347 = .ok (.aload_n 0, 1) := by decide +kernel
theorem dX12_init_348 : decode cX12_init 348 = .ok (.invokevirtual 147, 3) := by decide +kernel
theorem dX12_init_351 : decode cX12_init 351 = .ok (.iconst 0, 1) := by decide +kernel
theorem dX12_init_352 : decode cX12_init 352 = .ok (.istore_n 1, 1) := by decide +kernel
theorem dX12_init_353 : decode cX12_init 353 = .ok (.iload_n 1, 1) := by decide +kernel
theorem dX12_init_354 : decode cX12_init 354 = .ok (.iconst 3, 1) := by decide +kernel
theorem dX12_init_355 : decode cX12_init 355 = .ok (.if_icmp .ge 16, 3) := by decide +kernel
theorem dX12_init_358 : decode cX12_init 358 = .ok (.aload_n 0, 1) := by decide +kernel
theorem dX12_init_359 : decode cX12_init 359 = .ok (.getfield 126, 3) := by decide +kernel
theorem dX12_init_362 : decode cX12_init 362 = .ok (.iload_n 1, 1) := by decide +kernel
theorem dX12_init_363 : decode cX12_init 363 = .ok (.iconst (-1), 1) := by decide +kernel
theorem dX12_init_364 : decode cX12_init 364 = .ok (.iastore, 1) := by decide +kernel
theorem dX12_init_365 : decode cX12_init 365 = .ok (.iinc 1 1, 3) := by decide +kernel
theorem dX12_init_368 : decode cX12_init 368 = .ok (.goto (-15), 3) := by decide +kernel
theorem dX12_init_371 : decode cX12_init 371 = .ok (.return_, 1) := by decide +kernel
theorem dX12_sign_0 : decode cX12_sign 0 = .ok (.iload_n 1, 1) := by decide +kernel
theorem dX12_sign_1 : decode cX12_sign 1 = .ok (.aload_n 0, 1) := by decide +kernel
theorem dX12_sign_2 : decode cX12_sign 2 = .ok (.getfield 150, 3) := by decide +kernel
theorem dX12_sign_5 : decode cX12_sign 5 = .ok (.if_icmp .ge 16, 3) := by decide +kernel
theorem dX12_sign_8 : decode cX12_sign 8 = .ok (.aload_n 0, 1) := by decide +kernel
theorem dX12_sign_9 : decode cX12_sign 9 = .ok (.getfield 13, 3) := by decide +kernel
theorem dX12_sign_12 : decode cX12_sign 12 = .ok (.iload_n 1, 1) := by decide +kernel
theorem dX12_sign_13 : decode cX12_sign 13 = .ok (.baload, 1) := by decide +kernel
theorem dX12_sign_14 : decode cX12_sign 14 = .ok (.sipush 255, 3) := by decide +kernel
theorem dX12_sign_17 : decode cX12_sign 17 = .ok (.iand, 1) := by decide +kernel
theorem dX12_sign_18 : decode cX12_sign 18 = .ok (.goto 4, 3) := by decide +kernel
theorem dX12_sign_21 : decode cX12_sign 21 = .ok (.iconst 0, 1) := by decide +kernel
theorem dX12_sign_22 : decode cX12_sign 22 = .ok (.ireturn, 1) := by decide +kernel
theorem dX12_isLetter_0 : decode cX12_isLetter 0 = .ok (.iload_n 0, 1) := by decide +kernel
theorem dX12_isLetter_1 : decode cX12_isLetter 1 = .ok (.bipush 97, 2) := by decide +kernel
theorem dX12_isLetter_3 : decode cX12_isLetter 3 = .ok (.if_icmp .lt 13, 3) := by decide +kernel
theorem dX12_isLetter_6 : decode cX12_isLetter 6 = .ok (.iload_n 0, 1) := by decide +kernel
theorem dX12_isLetter_7 : decode cX12_isLetter 7 = .ok (.bipush 122, 2) := by decide +kernel
theorem dX12_isLetter_9 : decode cX12_isLetter 9 = .ok (.if_icmp .gt 7, 3) := by decide +kernel
theorem dX12_isLetter_12 : decode cX12_isLetter 12 = .ok (.iconst 1, 1) := by decide +kernel
theorem dX12_isLetter_13 : decode cX12_isLetter 13 = .ok (.goto 4, 3) := by decide +kernel
theorem dX12_isLetter_16 : decode cX12_isLetter 16 = .ok (.iconst 0, 1) := by decide +kernel
theorem dX12_isLetter_17 : decode cX12_isLetter 17 = .ok (.ireturn, 1) := by decide +kernel
theorem dX12_isDigit_0 : decode cX12_isDigit 0 = .ok (.iload_n 0, 1) := by decide +kernel
theorem dX12_isDigit_1 : decode cX12_isDigit 1 = .ok (.bipush 48, 2) := by decide +kernel
theorem dX12_isDigit_3 : decode cX12_isDigit 3 = .ok (.if_icmp .lt 13, 3) := by decide +kernel
theorem dX12_isDigit_6 : decode cX12_isDigit 6 = .ok (.iload_n 0, 1) := by decide +kernel
theorem dX12_isDigit_7 : decode cX12_isDigit 7 = .ok (.bipush 57, 2) := by decide +kernel
theorem dX12_isDigit_9 : decode cX12_isDigit 9 = .ok (.if_icmp .gt 7, 3) := by decide +kernel
theorem dX12_isDigit_12 : decode cX12_isDigit 12 = .ok (.iconst 1, 1) := by decide +kernel
theorem dX12_isDigit_13 : decode cX12_isDigit 13 = .ok (.goto 4, 3) := by decide +kernel
theorem dX12_isDigit_16 : decode cX12_isDigit 16 = .ok (.iconst 0, 1) := by decide +kernel
theorem dX12_isDigit_17 : decode cX12_isDigit 17 = .ok (.ireturn, 1) := by decide +kernel
theorem dX12_fails_0 : decode cX12_fails 0 = .ok (.aload_n 0, 1) := by decide +kernel
theorem dX12_fails_1 : decode cX12_fails 1 = .ok (.getfield 153, 3) := by decide +kernel
theorem dX12_fails_4 : decode cX12_fails 4 = .ok (.ifCond .le 4, 3) := by decide +kernel
theorem dX12_fails_7 : decode cX12_fails 7 = .ok (.return_, 1) := by decide +kernel
theorem dX12_fails_8 : decode cX12_fails 8 = .ok (.aload_n 0, 1) := by decide +kernel
theorem dX12_fails_9 : decode cX12_fails 9 = .ok (.iload_n 1, 1) := by decide +kernel
theorem dX12_fails_10 : decode cX12_fails 10 = .ok (.putfield 153, 3) := by decide +kernel
theorem dX12_fails_13 : decode cX12_fails 13 = .ok (.aload_n 0, 1) := by decide +kernel
theorem dX12_fails_14 : decode cX12_fails 14 = .ok (.iload_n 2, 1) := by decide +kernel
theorem dX12_fails_15 : decode cX12_fails 15 = .ok (.putfield 16, 3) := by decide +kernel
theorem dX12_fails_18 : decode cX12_fails 18 = .ok (.return_, 1) := by decide +kernel
theorem dX12_isGood_0 : decode cX12_isGood 0 = .ok (.aload_n 0, 1) := by decide +kernel
theorem dX12_isGood_1 : decode cX12_isGood 1 = .ok (.getfield 153, 3) := by decide +kernel
theorem dX12_isGood_4 : decode cX12_isGood 4 = .ok (.ifCond .ne 7, 3) := by decide +kernel
theorem dX12_isGood_7 : decode cX12_isGood 7 = .ok (.iconst 1, 1) := by decide +kernel
theorem dX12_isGood_8 : decode cX12_isGood 8 = .ok (.goto 4, 3) := by decide +kernel
theorem dX12_isGood_11 : decode cX12_isGood 11 = .ok (.iconst 0, 1) := by decide +kernel
theorem dX12_isGood_12 : decode cX12_isGood 12 = .ok (.ireturn, 1) := by decide +kernel
theorem dX12_isKept_0 : decode cX12_isKept 0 = .ok (.lload_n 0, 1) := by decide +kernel
theorem dX12_isKept_1 : decode cX12_isKept 1 = .ok (.ldc2_w 156, 3) := by decide +kernel
theorem dX12_isKept_4 : decode cX12_isKept 4 = .ok (.lcmp, 1) := by decide +kernel
theorem dX12_isKept_5 : decode cX12_isKept 5 = .ok (.ifCond .eq 75, 3) := by decide +kernel
theorem dX12_isKept_8 : decode cX12_isKept 8 = .ok (.lload_n 0, 1) := by decide +kernel
theorem dX12_isKept_9 : decode cX12_isKept 9 = .ok (.ldc2_w 158, 3) := by decide +kernel
theorem dX12_isKept_12 : decode cX12_isKept 12 = .ok (.lcmp, 1) := by decide +kernel
theorem dX12_isKept_13 : decode cX12_isKept 13 = .ok (.ifCond .eq 67, 3) := by decide +kernel
theorem dX12_isKept_16 : decode cX12_isKept 16 = .ok (.lload_n 0, 1) := by decide +kernel
theorem dX12_isKept_17 : decode cX12_isKept 17 = .ok (.ldc2_w 160, 3) := by decide +kernel
theorem dX12_isKept_20 : decode cX12_isKept 20 = .ok (.lcmp, 1) := by decide +kernel
theorem dX12_isKept_21 : decode cX12_isKept 21 = .ok (.ifCond .eq 59, 3) := by decide +kernel
theorem dX12_isKept_24 : decode cX12_isKept 24 = .ok (.lload_n 0, 1) := by decide +kernel
theorem dX12_isKept_25 : decode cX12_isKept 25 = .ok (.ldc2_w 162, 3) := by decide +kernel
theorem dX12_isKept_28 : decode cX12_isKept 28 = .ok (.lcmp, 1) := by decide +kernel
theorem dX12_isKept_29 : decode cX12_isKept 29 = .ok (.ifCond .eq 51, 3) := by decide +kernel
theorem dX12_isKept_32 : decode cX12_isKept 32 = .ok (.lload_n 0, 1) := by decide +kernel
theorem dX12_isKept_33 : decode cX12_isKept 33 = .ok (.ldc2_w 164, 3) := by decide +kernel
theorem dX12_isKept_36 : decode cX12_isKept 36 = .ok (.lcmp, 1) := by decide +kernel
theorem dX12_isKept_37 : decode cX12_isKept 37 = .ok (.ifCond .eq 43, 3) := by decide +kernel
theorem dX12_isKept_40 : decode cX12_isKept 40 = .ok (.lload_n 0, 1) := by decide +kernel
theorem dX12_isKept_41 : decode cX12_isKept 41 = .ok (.ldc2_w 166, 3) := by decide +kernel
theorem dX12_isKept_44 : decode cX12_isKept 44 = .ok (.lcmp, 1) := by decide +kernel
theorem dX12_isKept_45 : decode cX12_isKept 45 = .ok (.ifCond .eq 35, 3) := by decide +kernel
theorem dX12_isKept_48 : decode cX12_isKept 48 = .ok (.lload_n 0, 1) := by decide +kernel
theorem dX12_isKept_49 : decode cX12_isKept 49 = .ok (.ldc2_w 168, 3) := by decide +kernel
theorem dX12_isKept_52 : decode cX12_isKept 52 = .ok (.lcmp, 1) := by decide +kernel
theorem dX12_isKept_53 : decode cX12_isKept 53 = .ok (.ifCond .eq 27, 3) := by decide +kernel
theorem dX12_isKept_56 : decode cX12_isKept 56 = .ok (.lload_n 0, 1) := by decide +kernel
theorem dX12_isKept_57 : decode cX12_isKept 57 = .ok (.ldc2_w 170, 3) := by decide +kernel
theorem dX12_isKept_60 : decode cX12_isKept 60 = .ok (.lcmp, 1) := by decide +kernel
theorem dX12_isKept_61 : decode cX12_isKept 61 = .ok (.ifCond .eq 19, 3) := by decide +kernel
theorem dX12_isKept_64 : decode cX12_isKept 64 = .ok (.lload_n 0, 1) := by decide +kernel
theorem dX12_isKept_65 : decode cX12_isKept 65 = .ok (.ldc2_w 172, 3) := by decide +kernel
theorem dX12_isKept_68 : decode cX12_isKept 68 = .ok (.lcmp, 1) := by decide +kernel
theorem dX12_isKept_69 : decode cX12_isKept 69 = .ok (.ifCond .eq 11, 3) := by decide +kernel
theorem dX12_isKept_72 : decode cX12_isKept 72 = .ok (.lload_n 0, 1) := by decide +kernel
theorem dX12_isKept_73 : decode cX12_isKept 73 = .ok (.ldc2_w 174, 3) := by decide +kernel
theorem dX12_isKept_76 : decode cX12_isKept 76 = .ok (.lcmp, 1) := by decide +kernel
theorem dX12_isKept_77 : decode cX12_isKept 77 = .ok (.ifCond .ne 7, 3) := by decide +kernel
theorem dX12_isKept_80 : decode cX12_isKept 80 = .ok (.iconst 1, 1) := by decide +kernel
theorem dX12_isKept_81 : decode cX12_isKept 81 = .ok (.goto 4, 3) := by decide +kernel
theorem dX12_isKept_84 : decode cX12_isKept 84 = .ok (.iconst 0, 1) := by decide +kernel
theorem dX12_isKept_85 : decode cX12_isKept 85 = .ok (.istore_n 2, 1) := by decide +kernel
theorem dX12_isKept_86 : decode cX12_isKept 86 = .ok (.iload_n 2, 1) := by decide +kernel
theorem dX12_isKept_87 : decode cX12_isKept 87 = .ok (.ifCond .ne 83, 3) := by decide +kernel
theorem dX12_isKept_90 : decode cX12_isKept 90 = .ok (.lload_n 0, 1) := by decide +kernel
theorem dX12_isKept_91 : decode cX12_isKept 91 = .ok (.ldc2_w 176, 3) := by decide +kernel
theorem dX12_isKept_94 : decode cX12_isKept 94 = .ok (.lcmp, 1) := by decide +kernel
theorem dX12_isKept_95 : decode cX12_isKept 95 = .ok (.ifCond .eq 75, 3) := by decide +kernel
theorem dX12_isKept_98 : decode cX12_isKept 98 = .ok (.lload_n 0, 1) := by decide +kernel
theorem dX12_isKept_99 : decode cX12_isKept 99 = .ok (.ldc2_w 178, 3) := by decide +kernel
theorem dX12_isKept_102 : decode cX12_isKept 102 = .ok (.lcmp, 1) := by decide +kernel
theorem dX12_isKept_103 : decode cX12_isKept 103 = .ok (.ifCond .eq 67, 3) := by decide +kernel
theorem dX12_isKept_106 : decode cX12_isKept 106 = .ok (.lload_n 0, 1) := by decide +kernel
theorem dX12_isKept_107 : decode cX12_isKept 107 = .ok (.ldc2_w 180, 3) := by decide +kernel
theorem dX12_isKept_110 : decode cX12_isKept 110 = .ok (.lcmp, 1) := by decide +kernel
theorem dX12_isKept_111 : decode cX12_isKept 111 = .ok (.ifCond .eq 59, 3) := by decide +kernel
theorem dX12_isKept_114 : decode cX12_isKept 114 = .ok (.lload_n 0, 1) := by decide +kernel
theorem dX12_isKept_115 : decode cX12_isKept 115 = .ok (.ldc2_w 182, 3) := by decide +kernel
theorem dX12_isKept_118 : decode cX12_isKept 118 = .ok (.lcmp, 1) := by decide +kernel
theorem dX12_isKept_119 : decode cX12_isKept 119 = .ok (.ifCond .eq 51, 3) := by decide +kernel
theorem dX12_isKept_122 : decode cX12_isKept 122 = .ok (.lload_n 0, 1) := by decide +kernel
theorem dX12_isKept_123 : decode cX12_isKept 123 = .ok (.ldc2_w 184, 3) := by decide +kernel
theorem dX12_isKept_126 : decode cX12_isKept 126 = .ok (.lcmp, 1) := by decide +kernel
theorem dX12_isKept_127 : decode cX12_isKept 127 = .ok (.ifCond .eq 43, 3) := by decide +kernel
theorem dX12_isKept_130 : decode cX12_isKept 130 = .ok (.lload_n 0, 1) := by decide +kernel
theorem dX12_isKept_131 : decode cX12_isKept 131 = .ok (.ldc2_w 186, 3) := by decide +kernel
theorem dX12_isKept_134 : decode cX12_isKept 134 = .ok (.lcmp, 1) := by decide +kernel
theorem dX12_isKept_135 : decode cX12_isKept 135 = .ok (.ifCond .eq 35, 3) := by decide +kernel
theorem dX12_isKept_138 : decode cX12_isKept 138 = .ok (.lload_n 0, 1) := by decide +kernel
theorem dX12_isKept_139 : decode cX12_isKept 139 = .ok (.ldc2_w 188, 3) := by decide +kernel
theorem dX12_isKept_142 : decode cX12_isKept 142 = .ok (.lcmp, 1) := by decide +kernel
theorem dX12_isKept_143 : decode cX12_isKept 143 = .ok (.ifCond .eq 27, 3) := by decide +kernel
theorem dX12_isKept_146 : decode cX12_isKept 146 = .ok (.lload_n 0, 1) := by decide +kernel
theorem dX12_isKept_147 : decode cX12_isKept 147 = .ok (.ldc2_w 190, 3) := by decide +kernel
theorem dX12_isKept_150 : decode cX12_isKept 150 = .ok (.lcmp, 1) := by decide +kernel
theorem dX12_isKept_151 : decode cX12_isKept 151 = .ok (.ifCond .eq 19, 3) := by decide +kernel
theorem dX12_isKept_154 : decode cX12_isKept 154 = .ok (.lload_n 0, 1) := by decide +kernel
theorem dX12_isKept_155 : decode cX12_isKept 155 = .ok (.ldc2_w 192, 3) := by decide +kernel
theorem dX12_isKept_158 : decode cX12_isKept 158 = .ok (.lcmp, 1) := by decide +kernel
theorem dX12_isKept_159 : decode cX12_isKept 159 = .ok (.ifCond .eq 11, 3) := by decide +kernel
theorem dX12_isKept_162 : decode cX12_isKept 162 = .ok (.lload_n 0, 1) := by decide +kernel
theorem dX12_isKept_163 : decode cX12_isKept 163 = .ok (.ldc2_w 194, 3) := by decide +kernel
theorem dX12_isKept_166 : decode cX12_isKept 166 = .ok (.lcmp, 1) := by decide +kernel
theorem dX12_isKept_167 : decode cX12_isKept 167 = .ok (.ifCond .ne 7, 3) := by decide +kernel
theorem dX12_isKept_170 : decode cX12_isKept 170 = .ok (.iconst 1, 1) := by decide +kernel
theorem dX12_isKept_171 : decode cX12_isKept 171 = .ok (.goto 4, 3) := by decide +kernel
theorem dX12_isKept_174 : decode cX12_isKept 174 = .ok (.iconst 0, 1) := by decide +kernel
theorem dX12_isKept_175 : decode cX12_isKept 175 = .ok (.ireturn, 1) := by decide +kernel
theorem dX12_isSign_0 : decode cX12_isSign 0 = .ok (.iload_n 0, 1) := by decide +kernel
theorem dX12_isSign_1 : decode cX12_isSign 1 = .ok (.bipush 59, 2) := by decide +kernel
theorem dX12_isSign_3 : decode cX12_isSign 3 = .ok (.if_icmp .eq 45, 3) := by decide +kernel
theorem dX12_isSign_6 : decode cX12_isSign 6 = .ok (.iload_n 0, 1) := by decide +kernel
theorem dX12_isSign_7 : decode cX12_isSign 7 = .ok (.bipush 40, 2) := by decide +kernel
theorem dX12_isSign_9 : decode cX12_isSign 9 = .ok (.if_icmp .eq 39, 3) := by decide +kernel
theorem dX12_isSign_12 : decode cX12_isSign 12 = .ok (.iload_n 0, 1) := by decide +kernel
theorem dX12_isSign_13 : decode cX12_isSign 13 = .ok (.bipush 41, 2) := by decide +kernel
theorem dX12_isSign_15 : decode cX12_isSign 15 = .ok (.if_icmp .eq 33, 3) := by decide +kernel
theorem dX12_isSign_18 : decode cX12_isSign 18 = .ok (.iload_n 0, 1) := by decide +kernel
theorem dX12_isSign_19 : decode cX12_isSign 19 = .ok (.bipush 60, 2) := by decide +kernel
theorem dX12_isSign_21 : decode cX12_isSign 21 = .ok (.if_icmp .eq 27, 3) := by decide +kernel
theorem dX12_isSign_24 : decode cX12_isSign 24 = .ok (.iload_n 0, 1) := by decide +kernel
theorem dX12_isSign_25 : decode cX12_isSign 25 = .ok (.bipush 62, 2) := by decide +kernel
theorem dX12_isSign_27 : decode cX12_isSign 27 = .ok (.if_icmp .eq 21, 3) := by decide +kernel
theorem dX12_isSign_30 : decode cX12_isSign 30 = .ok (.iload_n 0, 1) := by decide +kernel
theorem dX12_isSign_31 : decode cX12_isSign 31 = .ok (.bipush 61, 2) := by decide +kernel
theorem dX12_isSign_33 : decode cX12_isSign 33 = .ok (.if_icmp .eq 15, 3) := by decide +kernel
theorem dX12_isSign_36 : decode cX12_isSign 36 = .ok (.iload_n 0, 1) := by decide +kernel
theorem dX12_isSign_37 : decode cX12_isSign 37 = .ok (.bipush 43, 2) := by decide +kernel
theorem dX12_isSign_39 : decode cX12_isSign 39 = .ok (.if_icmp .eq 9, 3) := by decide +kernel
theorem dX12_isSign_42 : decode cX12_isSign 42 = .ok (.iload_n 0, 1) := by decide +kernel
theorem dX12_isSign_43 : decode cX12_isSign 43 = .ok (.bipush 45, 2) := by decide +kernel
theorem dX12_isSign_45 : decode cX12_isSign 45 = .ok (.if_icmp .ne 7, 3) := by decide +kernel
theorem dX12_isSign_48 : decode cX12_isSign 48 = .ok (.iconst 1, 1) := by decide +kernel
theorem dX12_isSign_49 : decode cX12_isSign 49 = .ok (.goto 4, 3) := by decide +kernel
theorem dX12_isSign_52 : decode cX12_isSign 52 = .ok (.iconst 0, 1) := by decide +kernel
theorem dX12_isSign_53 : decode cX12_isSign 53 = .ok (.ireturn, 1) := by decide +kernel
theorem dX12_goOn_0 : decode cX12_goOn 0 = .ok (.aload_n 0, 1) := by decide +kernel
theorem dX12_goOn_1 : decode cX12_goOn 1 = .ok (.aload_n 0, 1) := by decide +kernel
theorem dX12_goOn_2 : decode cX12_goOn 2 = .ok (.getfield 196, 3) := by decide +kernel
theorem dX12_goOn_5 : decode cX12_goOn 5 = .ok (.putfield 199, 3) := by decide +kernel
theorem dX12_goOn_8 : decode cX12_goOn 8 = .ok (.aload_n 0, 1) := by decide +kernel
theorem dX12_goOn_9 : decode cX12_goOn 9 = .ok (.getfield 199, 3) := by decide +kernel
theorem dX12_goOn_12 : decode cX12_goOn 12 = .ok (.aload_n 0, 1) := by decide +kernel
theorem dX12_goOn_13 : decode cX12_goOn 13 = .ok (.getfield 150, 3) := by decide +kernel
theorem dX12_goOn_16 : decode cX12_goOn 16 = .ok (.if_icmp .ge 42, 3) := by decide +kernel
theorem dX12_goOn_19 : decode cX12_goOn 19 = .ok (.aload_n 0, 1) := by decide +kernel
theorem dX12_goOn_20 : decode cX12_goOn 20 = .ok (.aload_n 0, 1) := by decide +kernel
theorem dX12_goOn_21 : decode cX12_goOn 21 = .ok (.getfield 199, 3) := by decide +kernel
theorem dX12_goOn_24 : decode cX12_goOn 24 = .ok (.invokevirtual 202, 3) := by decide +kernel
theorem dX12_goOn_27 : decode cX12_goOn 27 = .ok (.bipush 32, 2) := by decide +kernel
theorem dX12_goOn_29 : decode cX12_goOn 29 = .ok (.if_icmp .eq 16, 3) := by decide +kernel
theorem dX12_goOn_32 : decode cX12_goOn 32 = .ok (.aload_n 0, 1) := by decide +kernel
theorem dX12_goOn_33 : decode cX12_goOn 33 = .ok (.aload_n 0, 1) := by decide +kernel
theorem dX12_goOn_34 : decode cX12_goOn 34 = .ok (.getfield 199, 3) := by decide +kernel
theorem dX12_goOn_37 : decode cX12_goOn 37 = .ok (.invokevirtual 202, 3) := by decide +kernel
theorem dX12_goOn_40 : decode cX12_goOn 40 = .ok (.bipush 10, 2) := by decide +kernel
theorem dX12_goOn_42 : decode cX12_goOn 42 = .ok (.if_icmp .ne 16, 3) := by decide +kernel
theorem dX12_goOn_45 : decode cX12_goOn 45 = .ok (.aload_n 0, 1) := by decide +kernel
theorem dX12_goOn_46 : decode cX12_goOn 46 = .ok (.dup, 1) := by decide +kernel
theorem dX12_goOn_47 : decode cX12_goOn 47 = .ok (.getfield 199, 3) := by decide +kernel
theorem dX12_goOn_50 : decode cX12_goOn 50 = .ok (.iconst 1, 1) := by decide +kernel
theorem dX12_goOn_51 : decode cX12_goOn 51 = .ok (.iadd, 1) := by decide +kernel
theorem dX12_goOn_52 : decode cX12_goOn 52 = .ok (.putfield 199, 3) := by decide +kernel
theorem dX12_goOn_55 : decode cX12_goOn 55 = .ok (.goto (-47), 3) := by decide +kernel
theorem dX12_goOn_58 : decode cX12_goOn 58 = .ok (.aload_n 0, 1) := by decide +kernel
theorem dX12_goOn_59 : decode cX12_goOn 59 = .ok (.aload_n 0, 1) := by decide +kernel
theorem dX12_goOn_60 : decode cX12_goOn 60 = .ok (.getfield 199, 3) := by decide +kernel
theorem dX12_goOn_63 : decode cX12_goOn 63 = .ok (.invokevirtual 202, 3) := by decide +kernel
theorem dX12_goOn_66 : decode cX12_goOn 66 = .ok (.istore_n 1, 1) := by decide +kernel
theorem dX12_goOn_67 : decode cX12_goOn 67 = .ok (.aload_n 0, 1) := by decide +kernel
theorem dX12_goOn_68 : decode cX12_goOn 68 = .ok (.aload_n 0, 1) := by decide +kernel
theorem dX12_goOn_69 : decode cX12_goOn 69 = .ok (.getfield 199, 3) := by decide +kernel
theorem dX12_goOn_72 : decode cX12_goOn 72 = .ok (.iconst 1, 1) := by decide +kernel
theorem dX12_goOn_73 : decode cX12_goOn 73 = .ok (.iadd, 1) := by decide +kernel
theorem dX12_goOn_74 : decode cX12_goOn 74 = .ok (.putfield 196, 3) := by decide +kernel
theorem dX12_goOn_77 : decode cX12_goOn 77 = .ok (.aload_n 0, 1) := by decide +kernel
theorem dX12_goOn_78 : decode cX12_goOn 78 = .ok (.getfield 199, 3) := by decide +kernel
theorem dX12_goOn_81 : decode cX12_goOn 81 = .ok (.aload_n 0, 1) := by decide +kernel
theorem dX12_goOn_82 : decode cX12_goOn 82 = .ok (.getfield 150, 3) := by decide +kernel
theorem dX12_goOn_85 : decode cX12_goOn 85 = .ok (.if_icmp .lt 27, 3) := by decide +kernel
theorem dX12_goOn_88 : decode cX12_goOn 88 = .ok (.aload_n 0, 1) := by decide +kernel
theorem dX12_goOn_89 : decode cX12_goOn 89 = .ok (.iconst 0, 1) := by decide +kernel
theorem dX12_goOn_90 : decode cX12_goOn 90 = .ok (.putfield 206, 3) := by decide +kernel
theorem dX12_goOn_93 : decode cX12_goOn 93 = .ok (.aload_n 0, 1) := by decide +kernel
theorem dX12_goOn_94 : decode cX12_goOn 94 = .ok (.aload_n 0, 1) := by decide +kernel
theorem dX12_goOn_95 : decode cX12_goOn 95 = .ok (.getfield 150, 3) := by decide +kernel
theorem dX12_goOn_98 : decode cX12_goOn 98 = .ok (.putfield 199, 3) := by decide +kernel
theorem dX12_goOn_101 : decode cX12_goOn 101 = .ok (.aload_n 0, 1) := by decide +kernel
theorem dX12_goOn_102 : decode cX12_goOn 102 = .ok (.aload_n 0, 1) := by decide +kernel
theorem dX12_goOn_103 : decode cX12_goOn 103 = .ok (.getfield 150, 3) := by decide +kernel
theorem dX12_goOn_106 : decode cX12_goOn 106 = .ok (.putfield 196, 3) := by decide +kernel
theorem dX12_goOn_109 : decode cX12_goOn 109 = .ok (.goto 268, 3) := by decide +kernel
theorem dX12_goOn_112 : decode cX12_goOn 112 = .ok (.iload_n 1, 1) := by decide +kernel
theorem dX12_goOn_113 : decode cX12_goOn 113 = .ok (.invokestatic 209, 3) := by decide +kernel
theorem dX12_goOn_116 : decode cX12_goOn 116 = .ok (.ifCond .eq 123, 3) := by decide +kernel
theorem dX12_goOn_119 : decode cX12_goOn 119 = .ok (.aload_n 0, 1) := by decide +kernel
theorem dX12_goOn_120 : decode cX12_goOn 120 = .ok (.aload_n 0, 1) := by decide +kernel
theorem dX12_goOn_121 : decode cX12_goOn 121 = .ok (.getfield 196, 3) := by decide +kernel
theorem dX12_goOn_124 : decode cX12_goOn 124 = .ok (.invokevirtual 202, 3) := by decide +kernel
theorem dX12_goOn_127 : decode cX12_goOn 127 = .ok (.invokestatic 209, 3) := by decide +kernel
theorem dX12_goOn_130 : decode cX12_goOn 130 = .ok (.ifCond .eq 16, 3) := by decide +kernel
theorem dX12_goOn_133 : decode cX12_goOn 133 = .ok (.aload_n 0, 1) := by decide +kernel
theorem dX12_goOn_134 : decode cX12_goOn 134 = .ok (.dup, 1) := by decide +kernel
theorem dX12_goOn_135 : decode cX12_goOn 135 = .ok (.getfield 196, 3) := by decide +kernel
theorem dX12_goOn_138 : decode cX12_goOn 138 = .ok (.iconst 1, 1) := by decide +kernel
theorem dX12_goOn_139 : decode cX12_goOn 139 = .ok (.iadd, 1) := by decide +kernel
theorem dX12_goOn_140 : decode cX12_goOn 140 = .ok (.putfield 196, 3) := by decide +kernel
theorem dX12_goOn_143 : decode cX12_goOn 143 = .ok (.goto (-24), 3) := by decide +kernel
theorem dX12_goOn_146 : decode cX12_goOn 146 = .ok (.aload_n 0, 1) := by decide +kernel
theorem dX12_goOn_147 : decode cX12_goOn 147 = .ok (.lconst 0, 1) := by decide +kernel
theorem dX12_goOn_148 : decode cX12_goOn 148 = .ok (.putfield 213, 3) := by decide +kernel
theorem dX12_goOn_151 : decode cX12_goOn 151 = .ok (.aload_n 0, 1) := by decide +kernel
theorem dX12_goOn_152 : decode cX12_goOn 152 = .ok (.getfield 199, 3) := by decide +kernel
theorem dX12_goOn_155 : decode cX12_goOn 155 = .ok (.istore_n 2, 1) := by decide +kernel
theorem dX12_goOn_156 : decode cX12_goOn 156 = .ok (.iload_n 2, 1) := by decide +kernel
theorem dX12_goOn_157 : decode cX12_goOn 157 = .ok (.aload_n 0, 1) := by decide +kernel
theorem dX12_goOn_158 : decode cX12_goOn 158 = .ok (.getfield 196, 3) := by decide +kernel
theorem dX12_goOn_161 : decode cX12_goOn 161 = .ok (.if_icmp .ge 38, 3) := by decide +kernel
theorem dX12_goOn_164 : decode cX12_goOn 164 = .ok (.iload_n 2, 1) := by decide +kernel
theorem dX12_goOn_165 : decode cX12_goOn 165 = .ok (.aload_n 0, 1) := by decide +kernel
theorem dX12_goOn_166 : decode cX12_goOn 166 = .ok (.getfield 199, 3) := by decide +kernel
theorem dX12_goOn_169 : decode cX12_goOn 169 = .ok (.bipush 8, 2) := by decide +kernel
theorem dX12_goOn_171 : decode cX12_goOn 171 = .ok (.iadd, 1) := by decide +kernel
theorem dX12_goOn_172 : decode cX12_goOn 172 = .ok (.if_icmp .ge 27, 3) := by decide +kernel
theorem dX12_goOn_175 : decode cX12_goOn 175 = .ok (.aload_n 0, 1) := by decide +kernel
theorem dX12_goOn_176 : decode cX12_goOn 176 = .ok (.aload_n 0, 1) := by decide +kernel
theorem dX12_goOn_177 : decode cX12_goOn 177 = .ok (.getfield 213, 3) := by decide +kernel
theorem dX12_goOn_180 : decode cX12_goOn 180 = .ok (.bipush 8, 2) := by decide +kernel
theorem dX12_goOn_182 : decode cX12_goOn 182 = .ok (.lshl, 1) := by decide +kernel
theorem dX12_goOn_183 : decode cX12_goOn 183 = .ok (.aload_n 0, 1) := by decide +kernel
theorem dX12_goOn_184 : decode cX12_goOn 184 = .ok (.iload_n 2, 1) := by decide +kernel
theorem dX12_goOn_185 : decode cX12_goOn 185 = .ok (.invokevirtual 202, 3) := by decide +kernel
theorem dX12_goOn_188 : decode cX12_goOn 188 = .ok (.i2l, 1) := by decide +kernel
theorem dX12_goOn_189 : decode cX12_goOn 189 = .ok (.lor, 1) := by decide +kernel
theorem dX12_goOn_190 : decode cX12_goOn 190 = .ok (.putfield 213, 3) := by decide +kernel
theorem dX12_goOn_193 : decode cX12_goOn 193 = .ok (.iinc 2 1, 3) := by decide +kernel
theorem dX12_goOn_196 : decode cX12_goOn 196 = .ok (.goto (-40), 3) := by decide +kernel
theorem dX12_goOn_199 : decode cX12_goOn 199 = .ok (.aload_n 0, 1) := by decide +kernel
theorem dX12_goOn_200 : decode cX12_goOn 200 = .ok (.aload_n 0, 1) := by decide +kernel
theorem dX12_goOn_201 : decode cX12_goOn 201 = .ok (.getfield 196, 3) := by decide +kernel
theorem dX12_goOn_204 : decode cX12_goOn 204 = .ok (.aload_n 0, 1) := by decide +kernel
theorem dX12_goOn_205 : decode cX12_goOn 205 = .ok (.getfield 199, 3) := by decide +kernel
theorem dX12_goOn_208 : decode cX12_goOn 208 = .ok (.isub, 1) := by decide +kernel
theorem dX12_goOn_209 : decode cX12_goOn 209 = .ok (.bipush 8, 2) := by decide +kernel
theorem dX12_goOn_211 : decode cX12_goOn 211 = .ok (.if_icmp .le 7, 3) := by decide +kernel
theorem dX12_goOn_214 : decode cX12_goOn 214 = .ok (.iconst 1, 1) := by decide +kernel
theorem dX12_goOn_215 : decode cX12_goOn 215 = .ok (.goto 18, 3) := by decide +kernel
theorem dX12_goOn_218 : decode cX12_goOn 218 = .ok (.aload_n 0, 1) := by decide +kernel
theorem dX12_goOn_219 : decode cX12_goOn 219 = .ok (.getfield 213, 3) := by decide +kernel
theorem dX12_goOn_222 : decode cX12_goOn 222 = .ok (.invokestatic 217, 3) := by decide +kernel
theorem dX12_goOn_225 : decode cX12_goOn 225 = .ok (.ifCond .eq 7, 3) := by decide +kernel
theorem dX12_goOn_228 : decode cX12_goOn 228 = .ok (.iconst 3, 1) := by decide +kernel
theorem dX12_goOn_229 : decode cX12_goOn 229 = .ok (.goto 4, 3) := by decide +kernel
theorem dX12_goOn_232 : decode cX12_goOn 232 = .ok (.iconst 2, 1) := by decide +kernel
theorem dX12_goOn_233 : decode cX12_goOn 233 = .ok (.putfield 206, 3) := by decide +kernel
theorem dX12_goOn_236 : decode cX12_goOn 236 = .ok (.goto 141, 3) := by decide +kernel
theorem dX12_goOn_239 : decode cX12_goOn 239 = .ok (.iload_n 1, 1) := by decide +kernel
theorem dX12_goOn_240 : decode cX12_goOn 240 = .ok (.invokestatic 221, 3) := by decide +kernel
theorem dX12_goOn_243 : decode cX12_goOn 243 = .ok (.ifCond .eq 118, 3) := by decide +kernel
theorem dX12_goOn_246 : decode cX12_goOn 246 = .ok (.aload_n 0, 1) := by decide +kernel
theorem dX12_goOn_247 : decode cX12_goOn 247 = .ok (.iconst 0, 1) := by decide +kernel
theorem dX12_goOn_248 : decode cX12_goOn 248 = .ok (.putfield 224, 3) := by decide +kernel
theorem dX12_goOn_251 : decode cX12_goOn 251 = .ok (.aload_n 0, 1) := by decide +kernel
theorem dX12_goOn_252 : decode cX12_goOn 252 = .ok (.aload_n 0, 1) := by decide +kernel
theorem dX12_goOn_253 : decode cX12_goOn 253 = .ok (.getfield 199, 3) := by decide +kernel
theorem dX12_goOn_256 : decode cX12_goOn 256 = .ok (.putfield 196, 3) := by decide +kernel
theorem dX12_goOn_259 : decode cX12_goOn 259 = .ok (.aload_n 0, 1) := by decide +kernel
theorem dX12_goOn_260 : decode cX12_goOn 260 = .ok (.aload_n 0, 1) := by decide +kernel
theorem dX12_goOn_261 : decode cX12_goOn 261 = .ok (.getfield 196, 3) := by decide +kernel
theorem dX12_goOn_264 : decode cX12_goOn 264 = .ok (.invokevirtual 202, 3) := by decide +kernel
theorem dX12_goOn_267 : decode cX12_goOn 267 = .ok (.invokestatic 221, 3) := by decide +kernel
theorem dX12_goOn_270 : decode cX12_goOn 270 = .ok (.ifCond .eq 52, 3) := by decide +kernel
theorem dX12_goOn_273 : decode cX12_goOn 273 = .ok (.aload_n 0, 1) := by decide +kernel
theorem dX12_goOn_274 : decode cX12_goOn 274 = .ok (.getfield 196, 3) := by decide +kernel
theorem dX12_goOn_277 : decode cX12_goOn 277 = .ok (.aload_n 0, 1) := by decide +kernel
theorem dX12_goOn_278 : decode cX12_goOn 278 = .ok (.getfield 199, 3) := by decide +kernel
theorem dX12_goOn_281 : decode cX12_goOn 281 = .ok (.isub, 1) := by decide +kernel
theorem dX12_goOn_282 : decode cX12_goOn 282 = .ok (.iconst 4, 1) := by decide +kernel
theorem dX12_goOn_283 : decode cX12_goOn 283 = .ok (.if_icmp .ge 26, 3) := by decide +kernel
theorem dX12_goOn_286 : decode cX12_goOn 286 = .ok (.aload_n 0, 1) := by decide +kernel
theorem dX12_goOn_287 : decode cX12_goOn 287 = .ok (.bipush 10, 2) := by decide +kernel
theorem dX12_goOn_289 : decode cX12_goOn 289 = .ok (.aload_n 0, 1) := by decide +kernel
theorem dX12_goOn_290 : decode cX12_goOn 290 = .ok (.getfield 224, 3) := by decide +kernel
theorem dX12_goOn_293 : decode cX12_goOn 293 = .ok (.imul, 1) := by decide +kernel
theorem dX12_goOn_294 : decode cX12_goOn 294 = .ok (.aload_n 0, 1) := by decide +kernel
theorem dX12_goOn_295 : decode cX12_goOn 295 = .ok (.aload_n 0, 1) := by decide +kernel
theorem dX12_goOn_296 : decode cX12_goOn 296 = .ok (.getfield 196, 3) := by decide +kernel
theorem dX12_goOn_299 : decode cX12_goOn 299 = .ok (.invokevirtual 202, 3) := by decide +kernel
theorem dX12_goOn_302 : decode cX12_goOn 302 = .ok (.iadd, 1) := by decide +kernel
theorem dX12_goOn_303 : decode cX12_goOn 303 = .ok (.bipush 48, 2) := by decide +kernel
theorem dX12_goOn_305 : decode cX12_goOn 305 = .ok (.isub, 1) := by decide +kernel
theorem dX12_goOn_306 : decode cX12_goOn 306 = .ok (.putfield 224, 3) := by decide +kernel
theorem dX12_goOn_309 : decode cX12_goOn 309 = .ok (.aload_n 0, 1) := by decide +kernel
theorem dX12_goOn_310 : decode cX12_goOn 310 = .ok (.dup, 1) := by decide +kernel
theorem dX12_goOn_311 : decode cX12_goOn 311 = .ok (.getfield 196, 3) := by decide +kernel
theorem dX12_goOn_314 : decode cX12_goOn 314 = .ok (.iconst 1, 1) := by decide +kernel
theorem dX12_goOn_315 : decode cX12_goOn 315 = .ok (.iadd, 1) := by decide +kernel
theorem dX12_goOn_316 : decode cX12_goOn 316 = .ok (.putfield 196, 3) := by decide +kernel
theorem dX12_goOn_319 : decode cX12_goOn 319 = .ok (.goto (-60), 3) := by decide +kernel
theorem dX12_goOn_322 : decode cX12_goOn 322 = .ok (.aload_n 0, 1) := by decide +kernel
theorem dX12_goOn_323 : decode cX12_goOn 323 = .ok (.aload_n 0, 1) := by decide +kernel
theorem dX12_goOn_324 : decode cX12_goOn 324 = .ok (.getfield 196, 3) := by decide +kernel
theorem dX12_goOn_327 : decode cX12_goOn 327 = .ok (.aload_n 0, 1) := by decide +kernel
theorem dX12_goOn_328 : decode cX12_goOn 328 = .ok (.getfield 199, 3) := by decide +kernel
theorem dX12_goOn_331 : decode cX12_goOn 331 = .ok (.isub, 1) := by decide +kernel
theorem dX12_goOn_332 : decode cX12_goOn 332 = .ok (.iconst 4, 1) := by decide +kernel
theorem dX12_goOn_333 : decode cX12_goOn 333 = .ok (.if_icmp .gt 17, 3) := by decide +kernel
theorem dX12_goOn_336 : decode cX12_goOn 336 = .ok (.aload_n 0, 1) := by decide +kernel
theorem dX12_goOn_337 : decode cX12_goOn 337 = .ok (.aload_n 0, 1) := by decide +kernel
theorem dX12_goOn_338 : decode cX12_goOn 338 = .ok (.getfield 196, 3) := by decide +kernel
theorem dX12_goOn_341 : decode cX12_goOn 341 = .ok (.invokevirtual 202, 3) := by decide +kernel
theorem dX12_goOn_344 : decode cX12_goOn 344 = .ok (.invokestatic 209, 3) := by decide +kernel
theorem dX12_goOn_347 : decode cX12_goOn 347 = .ok (.ifCond .eq 7, 3) := by decide +kernel
theorem dX12_goOn_350 : decode cX12_goOn 350 = .ok (.iconst 1, 1) := by decide +kernel
theorem dX12_goOn_351 : decode cX12_goOn 351 = .ok (.goto 4, 3) := by decide +kernel
theorem dX12_goOn_354 : decode cX12_goOn 354 = .ok (.iconst 4, 1) := by decide +kernel
theorem dX12_goOn_355 : decode cX12_goOn 355 = .ok (.putfield 206, 3) := by decide +kernel
theorem dX12_goOn_358 : decode cX12_goOn 358 = .ok (.goto 19, 3) := by decide +kernel
theorem dX12_goOn_361 : decode cX12_goOn 361 = .ok (.aload_n 0, 1) := by decide +kernel
theorem dX12_goOn_362 : decode cX12_goOn 362 = .ok (.iload_n 1, 1) := by decide +kernel
theorem dX12_goOn_363 : decode cX12_goOn 363 = .ok (.invokestatic 227, 3) := by decide +kernel
theorem dX12_goOn_366 : decode cX12_goOn 366 = .ok (.ifCond .eq 7, 3) := by decide +kernel
theorem dX12_goOn_369 : decode cX12_goOn 369 = .ok (.iconst 5, 1) := by decide +kernel
theorem dX12_goOn_370 : decode cX12_goOn 370 = .ok (.goto 4, 3) := by decide +kernel
theorem dX12_goOn_373 : decode cX12_goOn 373 = .ok (.iconst 1, 1) := by decide +kernel
theorem dX12_goOn_374 : decode cX12_goOn 374 = .ok (.putfield 206, 3) := by decide +kernel
theorem dX12_goOn_377 : decode cX12_goOn 377 = .ok (.return_, 1) := by decide +kernel
theorem dX12_stands_0 : decode cX12_stands 0 = .ok (.aload_n 0, 1) := by decide +kernel
theorem dX12_stands_1 : decode cX12_stands 1 = .ok (.getfield 206, 3) := by decide +kernel
theorem dX12_stands_4 : decode cX12_stands 4 = .ok (.iconst 5, 1) := by decide +kernel
theorem dX12_stands_5 : decode cX12_stands 5 = .ok (.if_icmp .ne 19, 3) := by decide +kernel
theorem dX12_stands_8 : decode cX12_stands 8 = .ok (.aload_n 0, 1) := by decide +kernel
theorem dX12_stands_9 : decode cX12_stands 9 = .ok (.aload_n 0, 1) := by decide +kernel
theorem dX12_stands_10 : decode cX12_stands 10 = .ok (.getfield 199, 3) := by decide +kernel
theorem dX12_stands_13 : decode cX12_stands 13 = .ok (.invokevirtual 202, 3) := by decide +kernel
theorem dX12_stands_16 : decode cX12_stands 16 = .ok (.iload_n 1, 1) := by decide +kernel
theorem dX12_stands_17 : decode cX12_stands 17 = .ok (.if_icmp .ne 7, 3) := by decide +kernel
theorem dX12_stands_20 : decode cX12_stands 20 = .ok (.iconst 1, 1) := by decide +kernel
theorem dX12_stands_21 : decode cX12_stands 21 = .ok (.goto 4, 3) := by decide +kernel
theorem dX12_stands_24 : decode cX12_stands 24 = .ok (.iconst 0, 1) := by decide +kernel
theorem dX12_stands_25 : decode cX12_stands 25 = .ok (.ireturn, 1) := by decide +kernel
theorem dX12_isWord_0 : decode cX12_isWord 0 = .ok (.aload_n 0, 1) := by decide +kernel
theorem dX12_isWord_1 : decode cX12_isWord 1 = .ok (.getfield 206, 3) := by decide +kernel
theorem dX12_isWord_4 : decode cX12_isWord 4 = .ok (.iconst 3, 1) := by decide +kernel
theorem dX12_isWord_5 : decode cX12_isWord 5 = .ok (.if_icmp .ne 16, 3) := by decide +kernel
theorem dX12_isWord_8 : decode cX12_isWord 8 = .ok (.aload_n 0, 1) := by decide +kernel
theorem dX12_isWord_9 : decode cX12_isWord 9 = .ok (.getfield 213, 3) := by decide +kernel
theorem dX12_isWord_12 : decode cX12_isWord 12 = .ok (.lload_n 1, 1) := by decide +kernel
theorem dX12_isWord_13 : decode cX12_isWord 13 = .ok (.lcmp, 1) := by decide +kernel
theorem dX12_isWord_14 : decode cX12_isWord 14 = .ok (.ifCond .ne 7, 3) := by decide +kernel
theorem dX12_isWord_17 : decode cX12_isWord 17 = .ok (.iconst 1, 1) := by decide +kernel
theorem dX12_isWord_18 : decode cX12_isWord 18 = .ok (.goto 4, 3) := by decide +kernel
theorem dX12_isWord_21 : decode cX12_isWord 21 = .ok (.iconst 0, 1) := by decide +kernel
theorem dX12_isWord_22 : decode cX12_isWord 22 = .ok (.ireturn, 1) := by decide +kernel
theorem dX12_misplaced_0 : decode cX12_misplaced 0 = .ok (.aload_n 0, 1) := by decide +kernel
theorem dX12_misplaced_1 : decode cX12_misplaced 1 = .ok (.aload_n 0, 1) := by decide +kernel
theorem dX12_misplaced_2 : decode cX12_misplaced 2 = .ok (.getfield 206, 3) := by decide +kernel
theorem dX12_misplaced_5 : decode cX12_misplaced 5 = .ok (.iconst 1, 1) := by decide +kernel
theorem dX12_misplaced_6 : decode cX12_misplaced 6 = .ok (.if_icmp .ne 7, 3) := by decide +kernel
theorem dX12_misplaced_9 : decode cX12_misplaced 9 = .ok (.iconst 1, 1) := by decide +kernel
theorem dX12_misplaced_10 : decode cX12_misplaced 10 = .ok (.goto 4, 3) := by decide +kernel
theorem dX12_misplaced_13 : decode cX12_misplaced 13 = .ok (.iconst 2, 1) := by decide +kernel
theorem dX12_misplaced_14 : decode cX12_misplaced 14 = .ok (.aload_n 0, 1) := by decide +kernel
theorem dX12_misplaced_15 : decode cX12_misplaced 15 = .ok (.getfield 199, 3) := by decide +kernel
theorem dX12_misplaced_18 : decode cX12_misplaced 18 = .ok (.invokevirtual 230, 3) := by decide +kernel
theorem dX12_misplaced_21 : decode cX12_misplaced 21 = .ok (.return_, 1) := by decide +kernel
theorem dX12_must_0 : decode cX12_must 0 = .ok (.aload_n 0, 1) := by decide +kernel
theorem dX12_must_1 : decode cX12_must 1 = .ok (.invokevirtual 234, 3) := by decide +kernel
theorem dX12_must_4 : decode cX12_must 4 = .ok (.ifCond .ne 4, 3) := by decide +kernel
theorem dX12_must_7 : decode cX12_must 7 = .ok (.return_, 1) := by decide +kernel
theorem dX12_must_8 : decode cX12_must 8 = .ok (.iload_n 1, 1) := by decide +kernel
theorem dX12_must_9 : decode cX12_must 9 = .ok (.ifCond .eq 10, 3) := by decide +kernel
theorem dX12_must_12 : decode cX12_must 12 = .ok (.aload_n 0, 1) := by decide +kernel
theorem dX12_must_13 : decode cX12_must 13 = .ok (.invokevirtual 238, 3) := by decide +kernel
theorem dX12_must_16 : decode cX12_must 16 = .ok (.goto 7, 3) := by decide +kernel
theorem dX12_must_19 : decode cX12_must 19 = .ok (.aload_n 0, 1) := by decide +kernel
theorem dX12_must_20 : decode cX12_must 20 = .ok (.invokevirtual 241, 3) := by decide +kernel
theorem dX12_must_23 : decode cX12_must 23 = .ok (.return_, 1) := by decide +kernel
theorem dX12_takeTape_0 : decode cX12_takeTape 0 = .ok (.aload_n 0, 1) := by decide +kernel
theorem dX12_takeTape_1 : decode cX12_takeTape 1 = .ok (.iconst 0, 1) := by decide +kernel
theorem dX12_takeTape_2 : decode cX12_takeTape 2 = .ok (.putfield 153, 3) := by decide +kernel
theorem dX12_takeTape_5 : decode cX12_takeTape 5 = .ok (.aload_n 0, 1) := by decide +kernel
theorem dX12_takeTape_6 : decode cX12_takeTape 6 = .ok (.iconst (-1), 1) := by decide +kernel
theorem dX12_takeTape_7 : decode cX12_takeTape 7 = .ok (.putfield 16, 3) := by decide +kernel
theorem dX12_takeTape_10 : decode cX12_takeTape 10 = .ok (.aload_n 0, 1) := by decide +kernel
theorem dX12_takeTape_11 : decode cX12_takeTape 11 = .ok (.aload_n 0, 1) := by decide +kernel
theorem dX12_takeTape_12 : decode cX12_takeTape 12 = .ok (.getfield 244, 3) := by decide +kernel
theorem dX12_takeTape_15 : decode cX12_takeTape 15 = .ok (.putfield 150, 3) := by decide +kernel
theorem dX12_takeTape_18 : decode cX12_takeTape 18 = .ok (.iconst 0, 1) := by decide +kernel
theorem dX12_takeTape_19 : decode cX12_takeTape 19 = .ok (.istore_n 1, 1) := by decide +kernel
theorem dX12_takeTape_20 : decode cX12_takeTape 20 = .ok (.iload_n 1, 1) := by decide +kernel
theorem dX12_takeTape_21 : decode cX12_takeTape 21 = .ok (.aload_n 0, 1) := by decide +kernel
theorem dX12_takeTape_22 : decode cX12_takeTape 22 = .ok (.getfield 150, 3) := by decide +kernel
theorem dX12_takeTape_25 : decode cX12_takeTape 25 = .ok (.if_icmp .ge 21, 3) := by decide +kernel
theorem dX12_takeTape_28 : decode cX12_takeTape 28 = .ok (.aload_n 0, 1) := by decide +kernel
theorem dX12_takeTape_29 : decode cX12_takeTape 29 = .ok (.getfield 13, 3) := by decide +kernel
theorem dX12_takeTape_32 : decode cX12_takeTape 32 = .ok (.iload_n 1, 1) := by decide +kernel
theorem dX12_takeTape_33 : decode cX12_takeTape 33 = .ok (.aload_n 0, 1) := by decide +kernel
theorem dX12_takeTape_34 : decode cX12_takeTape 34 = .ok (.getfield 7, 3) := by decide +kernel
theorem dX12_takeTape_37 : decode cX12_takeTape 37 = .ok (.iload_n 1, 1) := by decide +kernel
theorem dX12_takeTape_38 : decode cX12_takeTape 38 = .ok (.baload, 1) := by decide +kernel
theorem dX12_takeTape_39 : decode cX12_takeTape 39 = .ok (.bastore, 1) := by decide +kernel
theorem dX12_takeTape_40 : decode cX12_takeTape 40 = .ok (.iinc 1 1, 3) := by decide +kernel
theorem dX12_takeTape_43 : decode cX12_takeTape 43 = .ok (.goto (-23), 3) := by decide +kernel
theorem dX12_takeTape_46 : decode cX12_takeTape 46 = .ok (.aload_n 0, 1) := by decide +kernel
theorem dX12_takeTape_47 : decode cX12_takeTape 47 = .ok (.iconst 0, 1) := by decide +kernel
theorem dX12_takeTape_48 : decode cX12_takeTape 48 = .ok (.putfield 244, 3) := by decide +kernel
theorem dX12_takeTape_51 : decode cX12_takeTape 51 = .ok (.aload_n 0, 1) := by decide +kernel
theorem dX12_takeTape_52 : decode cX12_takeTape 52 = .ok (.iconst 0, 1) := by decide +kernel
theorem dX12_takeTape_53 : decode cX12_takeTape 53 = .ok (.putfield 196, 3) := by decide +kernel
theorem dX12_takeTape_56 : decode cX12_takeTape 56 = .ok (.aload_n 0, 1) := by decide +kernel
theorem dX12_takeTape_57 : decode cX12_takeTape 57 = .ok (.invokevirtual 238, 3) := by decide +kernel
theorem dX12_takeTape_60 : decode cX12_takeTape 60 = .ok (.return_, 1) := by decide +kernel
theorem dX12_clearBank_0 : decode cX12_clearBank 0 = .ok (.aload_n 0, 1) := by decide +kernel
theorem dX12_clearBank_1 : decode cX12_clearBank 1 = .ok (.getfield 20, 3) := by decide +kernel
theorem dX12_clearBank_4 : decode cX12_clearBank 4 = .ok (.aload_n 0, 1) := by decide +kernel
theorem dX12_clearBank_5 : decode cX12_clearBank 5 = .ok (.getfield 247, 3) := by decide +kernel
theorem dX12_clearBank_8 : decode cX12_clearBank 8 = .ok (.iconst 0, 1) := by decide +kernel
theorem dX12_clearBank_9 : decode cX12_clearBank 9 = .ok (.iastore, 1) := by decide +kernel
theorem dX12_clearBank_10 : decode cX12_clearBank 10 = .ok (.aload_n 0, 1) := by decide +kernel
theorem dX12_clearBank_11 : decode cX12_clearBank 11 = .ok (.getfield 24, 3) := by decide +kernel
theorem dX12_clearBank_14 : decode cX12_clearBank 14 = .ok (.aload_n 0, 1) := by decide +kernel
theorem dX12_clearBank_15 : decode cX12_clearBank 15 = .ok (.getfield 247, 3) := by decide +kernel
theorem dX12_clearBank_18 : decode cX12_clearBank 18 = .ok (.iconst 0, 1) := by decide +kernel
theorem dX12_clearBank_19 : decode cX12_clearBank 19 = .ok (.iastore, 1) := by decide +kernel
theorem dX12_clearBank_20 : decode cX12_clearBank 20 = .ok (.aload_n 0, 1) := by decide +kernel
theorem dX12_clearBank_21 : decode cX12_clearBank 21 = .ok (.getfield 27, 3) := by decide +kernel
theorem dX12_clearBank_24 : decode cX12_clearBank 24 = .ok (.aload_n 0, 1) := by decide +kernel
theorem dX12_clearBank_25 : decode cX12_clearBank 25 = .ok (.getfield 247, 3) := by decide +kernel
theorem dX12_clearBank_28 : decode cX12_clearBank 28 = .ok (.iconst 0, 1) := by decide +kernel
theorem dX12_clearBank_29 : decode cX12_clearBank 29 = .ok (.iastore, 1) := by decide +kernel
theorem dX12_clearBank_30 : decode cX12_clearBank 30 = .ok (.aload_n 0, 1) := by decide +kernel
theorem dX12_clearBank_31 : decode cX12_clearBank 31 = .ok (.getfield 30, 3) := by decide +kernel
theorem dX12_clearBank_34 : decode cX12_clearBank 34 = .ok (.aload_n 0, 1) := by decide +kernel
theorem dX12_clearBank_35 : decode cX12_clearBank 35 = .ok (.getfield 247, 3) := by decide +kernel
theorem dX12_clearBank_38 : decode cX12_clearBank 38 = .ok (.iconst 0, 1) := by decide +kernel
theorem dX12_clearBank_39 : decode cX12_clearBank 39 = .ok (.iastore, 1) := by decide +kernel
theorem dX12_clearBank_40 : decode cX12_clearBank 40 = .ok (.iconst 0, 1) := by decide +kernel
theorem dX12_clearBank_41 : decode cX12_clearBank 41 = .ok (.istore_n 1, 1) := by decide +kernel
theorem dX12_clearBank_42 : decode cX12_clearBank 42 = .ok (.iload_n 1, 1) := by decide +kernel
theorem dX12_clearBank_43 : decode cX12_clearBank 43 = .ok (.bipush 8, 2) := by decide +kernel
theorem dX12_clearBank_45 : decode cX12_clearBank 45 = .ok (.if_icmp .ge 54, 3) := by decide +kernel
theorem dX12_clearBank_48 : decode cX12_clearBank 48 = .ok (.aload_n 0, 1) := by decide +kernel
theorem dX12_clearBank_49 : decode cX12_clearBank 49 = .ok (.getfield 49, 3) := by decide +kernel
theorem dX12_clearBank_52 : decode cX12_clearBank 52 = .ok (.bipush 8, 2) := by decide +kernel
theorem dX12_clearBank_54 : decode cX12_clearBank 54 = .ok (.aload_n 0, 1) := by decide +kernel
theorem dX12_clearBank_55 : decode cX12_clearBank 55 = .ok (.getfield 247, 3) := by decide +kernel
theorem dX12_clearBank_58 : decode cX12_clearBank 58 = .ok (.imul, 1) := by decide +kernel
theorem dX12_clearBank_59 : decode cX12_clearBank 59 = .ok (.iload_n 1, 1) := by decide +kernel
theorem dX12_clearBank_60 : decode cX12_clearBank 60 = .ok (.iadd, 1) := by decide +kernel
theorem dX12_clearBank_61 : decode cX12_clearBank 61 = .ok (.iconst 0, 1) := by decide +kernel
theorem dX12_clearBank_62 : decode cX12_clearBank 62 = .ok (.bastore, 1) := by decide +kernel
theorem dX12_clearBank_63 : decode cX12_clearBank 63 = .ok (.aload_n 0, 1) := by decide +kernel
theorem dX12_clearBank_64 : decode cX12_clearBank 64 = .ok (.getfield 53, 3) := by decide +kernel
theorem dX12_clearBank_67 : decode cX12_clearBank 67 = .ok (.bipush 8, 2) := by decide +kernel
theorem dX12_clearBank_69 : decode cX12_clearBank 69 = .ok (.aload_n 0, 1) := by decide +kernel
theorem dX12_clearBank_70 : decode cX12_clearBank 70 = .ok (.getfield 247, 3) := by decide +kernel
theorem dX12_clearBank_73 : decode cX12_clearBank 73 = .ok (.imul, 1) := by decide +kernel
theorem dX12_clearBank_74 : decode cX12_clearBank 74 = .ok (.iload_n 1, 1) := by decide +kernel
theorem dX12_clearBank_75 : decode cX12_clearBank 75 = .ok (.iadd, 1) := by decide +kernel
theorem dX12_clearBank_76 : decode cX12_clearBank 76 = .ok (.iconst 0, 1) := by decide +kernel
theorem dX12_clearBank_77 : decode cX12_clearBank 77 = .ok (.iastore, 1) := by decide +kernel
theorem dX12_clearBank_78 : decode cX12_clearBank 78 = .ok (.aload_n 0, 1) := by decide +kernel
theorem dX12_clearBank_79 : decode cX12_clearBank 79 = .ok (.getfield 56, 3) := by decide +kernel
theorem dX12_clearBank_82 : decode cX12_clearBank 82 = .ok (.bipush 8, 2) := by decide +kernel
theorem dX12_clearBank_84 : decode cX12_clearBank 84 = .ok (.aload_n 0, 1) := by decide +kernel
theorem dX12_clearBank_85 : decode cX12_clearBank 85 = .ok (.getfield 247, 3) := by decide +kernel
theorem dX12_clearBank_88 : decode cX12_clearBank 88 = .ok (.imul, 1) := by decide +kernel
theorem dX12_clearBank_89 : decode cX12_clearBank 89 = .ok (.iload_n 1, 1) := by decide +kernel
theorem dX12_clearBank_90 : decode cX12_clearBank 90 = .ok (.iadd, 1) := by decide +kernel
theorem dX12_clearBank_91 : decode cX12_clearBank 91 = .ok (.iconst 0, 1) := by decide +kernel
theorem dX12_clearBank_92 : decode cX12_clearBank 92 = .ok (.iastore, 1) := by decide +kernel
theorem dX12_clearBank_93 : decode cX12_clearBank 93 = .ok (.iinc 1 1, 3) := by decide +kernel
theorem dX12_clearBank_96 : decode cX12_clearBank 96 = .ok (.goto (-54), 3) := by decide +kernel
theorem dX12_clearBank_99 : decode cX12_clearBank 99 = .ok (.return_, 1) := by decide +kernel
theorem dX12_roll_0 : decode cX12_roll 0 = .ok (.aload_n 0, 1) := by decide +kernel
theorem dX12_roll_1 : decode cX12_roll 1 = .ok (.invokevirtual 250, 3) := by decide +kernel
theorem dX12_roll_4 : decode cX12_roll 4 = .ok (.aload_n 0, 1) := by decide +kernel
theorem dX12_roll_5 : decode cX12_roll 5 = .ok (.iconst 1, 1) := by decide +kernel
theorem dX12_roll_6 : decode cX12_roll 6 = .ok (.aload_n 0, 1) := by decide +kernel
theorem dX12_roll_7 : decode cX12_roll 7 = .ok (.getfield 253, 3) := by decide +kernel
theorem dX12_roll_10 : decode cX12_roll 10 = .ok (.isub, 1) := by decide +kernel
theorem dX12_roll_11 : decode cX12_roll 11 = .ok (.putfield 247, 3) := by decide +kernel
theorem dX12_roll_14 : decode cX12_roll 14 = .ok (.aload_n 0, 1) := by decide +kernel
theorem dX12_roll_15 : decode cX12_roll 15 = .ok (.invokevirtual 144, 3) := by decide +kernel
theorem dX12_roll_18 : decode cX12_roll 18 = .ok (.aload_n 0, 1) := by decide +kernel
theorem dX12_roll_19 : decode cX12_roll 19 = .ok (.invokevirtual 234, 3) := by decide +kernel
theorem dX12_roll_22 : decode cX12_roll 22 = .ok (.ifCond .eq 17, 3) := by decide +kernel
theorem dX12_roll_25 : decode cX12_roll 25 = .ok (.aload_n 0, 1) := by decide +kernel
theorem dX12_roll_26 : decode cX12_roll 26 = .ok (.getfield 206, 3) := by decide +kernel
theorem dX12_roll_29 : decode cX12_roll 29 = .ok (.ifCond .eq 10, 3) := by decide +kernel
theorem dX12_roll_32 : decode cX12_roll 32 = .ok (.aload_n 0, 1) := by decide +kernel
theorem dX12_roll_33 : decode cX12_roll 33 = .ok (.invokevirtual 256, 3) := by decide +kernel
theorem dX12_roll_36 : decode cX12_roll 36 = .ok (.goto (-18), 3) := by decide +kernel
theorem dX12_roll_39 : decode cX12_roll 39 = .ok (.aload_n 0, 1) := by decide +kernel
theorem dX12_roll_40 : decode cX12_roll 40 = .ok (.invokevirtual 234, 3) := by decide +kernel
theorem dX12_roll_43 : decode cX12_roll 43 = .ok (.ifCond .ne 5, 3) := by decide +kernel
theorem dX12_roll_46 : decode cX12_roll 46 = .ok (.iconst (-1), 1) := by decide +kernel
theorem dX12_roll_47 : decode cX12_roll 47 = .ok (.ireturn, 1) := by decide +kernel
theorem dX12_roll_48 : decode cX12_roll 48 = .ok (.aload_n 0, 1) := by decide +kernel
theorem dX12_roll_49 : decode cX12_roll 49 = .ok (.aload_n 0, 1) := by decide +kernel
theorem dX12_roll_50 : decode cX12_roll 50 = .ok (.getfield 247, 3) := by decide +kernel
theorem dX12_roll_53 : decode cX12_roll 53 = .ok (.putfield 253, 3) := by decide +kernel
theorem dX12_roll_56 : decode cX12_roll 56 = .ok (.aload_n 0, 1) := by decide +kernel
theorem dX12_roll_57 : decode cX12_roll 57 = .ok (.iconst 0, 1) := by decide +kernel
theorem dX12_roll_58 : decode cX12_roll 58 = .ok (.putfield 259, 3) := by decide +kernel
theorem dX12_roll_61 : decode cX12_roll 61 = .ok (.iconst 0, 1) := by decide +kernel
theorem dX12_roll_62 : decode cX12_roll 62 = .ok (.istore_n 1, 1) := by decide +kernel
theorem dX12_roll_63 : decode cX12_roll 63 = .ok (.iload_n 1, 1) := by decide +kernel
theorem dX12_roll_64 : decode cX12_roll 64 = .ok (.iconst 3, 1) := by decide +kernel
theorem dX12_roll_65 : decode cX12_roll 65 = .ok (.if_icmp .ge 16, 3) := by decide +kernel
theorem dX12_roll_68 : decode cX12_roll 68 = .ok (.aload_n 0, 1) := by decide +kernel
theorem dX12_roll_69 : decode cX12_roll 69 = .ok (.getfield 126, 3) := by decide +kernel
theorem dX12_roll_72 : decode cX12_roll 72 = .ok (.iload_n 1, 1) := by decide +kernel
theorem dX12_roll_73 : decode cX12_roll 73 = .ok (.iconst (-1), 1) := by decide +kernel
theorem dX12_roll_74 : decode cX12_roll 74 = .ok (.iastore, 1) := by decide +kernel
theorem dX12_roll_75 : decode cX12_roll 75 = .ok (.iinc 1 1, 3) := by decide +kernel
theorem dX12_roll_78 : decode cX12_roll 78 = .ok (.goto (-15), 3) := by decide +kernel
theorem dX12_roll_81 : decode cX12_roll 81 = .ok (.iconst 0, 1) := by decide +kernel
theorem dX12_roll_82 : decode cX12_roll 82 = .ok (.istore_n 1, 1) := by decide +kernel
theorem dX12_roll_83 : decode cX12_roll 83 = .ok (.iload_n 1, 1) := by decide +kernel
theorem dX12_roll_84 : decode cX12_roll 84 = .ok (.bipush 8, 2) := by decide +kernel
theorem dX12_roll_86 : decode cX12_roll 86 = .ok (.if_icmp .ge 16, 3) := by decide +kernel
theorem dX12_roll_89 : decode cX12_roll 89 = .ok (.aload_n 0, 1) := by decide +kernel
theorem dX12_roll_90 : decode cX12_roll 90 = .ok (.getfield 99, 3) := by decide +kernel
theorem dX12_roll_93 : decode cX12_roll 93 = .ok (.iload_n 1, 1) := by decide +kernel
theorem dX12_roll_94 : decode cX12_roll 94 = .ok (.iconst 0, 1) := by decide +kernel
theorem dX12_roll_95 : decode cX12_roll 95 = .ok (.iastore, 1) := by decide +kernel
theorem dX12_roll_96 : decode cX12_roll 96 = .ok (.iinc 1 1, 3) := by decide +kernel
theorem dX12_roll_99 : decode cX12_roll 99 = .ok (.goto (-16), 3) := by decide +kernel
theorem dX12_roll_102 : decode cX12_roll 102 = .ok (.aload_n 0, 1) := by decide +kernel
theorem dX12_roll_103 : decode cX12_roll 103 = .ok (.invokevirtual 147, 3) := by decide +kernel
theorem dX12_roll_106 : decode cX12_roll 106 = .ok (.aload_n 0, 1) := by decide +kernel
theorem dX12_roll_107 : decode cX12_roll 107 = .ok (.getfield 27, 3) := by decide +kernel
theorem dX12_roll_110 : decode cX12_roll 110 = .ok (.aload_n 0, 1) := by decide +kernel
theorem dX12_roll_111 : decode cX12_roll 111 = .ok (.getfield 253, 3) := by decide +kernel
theorem dX12_roll_114 : decode cX12_roll 114 = .ok (.iaload, 1) := by decide +kernel
theorem dX12_roll_115 : decode cX12_roll 115 = .ok (.ireturn, 1) := by decide +kernel
theorem dX12_isFull_0 : decode cX12_isFull 0 = .ok (.aload_n 0, 1) := by decide +kernel
theorem dX12_isFull_1 : decode cX12_isFull 1 = .ok (.ldc2_w 156, 3) := by decide +kernel
theorem dX12_isFull_4 : decode cX12_isFull 4 = .ok (.invokevirtual 262, 3) := by decide +kernel
theorem dX12_isFull_7 : decode cX12_isFull 7 = .ok (.ifCond .eq 22, 3) := by decide +kernel
theorem dX12_isFull_10 : decode cX12_isFull 10 = .ok (.aload_n 0, 1) := by decide +kernel
theorem dX12_isFull_11 : decode cX12_isFull 11 = .ok (.getfield 20, 3) := by decide +kernel
theorem dX12_isFull_14 : decode cX12_isFull 14 = .ok (.aload_n 0, 1) := by decide +kernel
theorem dX12_isFull_15 : decode cX12_isFull 15 = .ok (.getfield 247, 3) := by decide +kernel
theorem dX12_isFull_18 : decode cX12_isFull 18 = .ok (.iaload, 1) := by decide +kernel
theorem dX12_isFull_19 : decode cX12_isFull 19 = .ok (.iconst 3, 1) := by decide +kernel
theorem dX12_isFull_20 : decode cX12_isFull 20 = .ok (.if_icmp .ne 7, 3) := by decide +kernel
theorem dX12_isFull_23 : decode cX12_isFull 23 = .ok (.iconst 1, 1) := by decide +kernel
theorem dX12_isFull_24 : decode cX12_isFull 24 = .ok (.goto 4, 3) := by decide +kernel
theorem dX12_isFull_27 : decode cX12_isFull 27 = .ok (.iconst 0, 1) := by decide +kernel
theorem dX12_isFull_28 : decode cX12_isFull 28 = .ok (.ireturn, 1) := by decide +kernel
theorem dX12_isFull_29 : decode cX12_isFull 29 = .ok (.aload_n 0, 1) := by decide +kernel
theorem dX12_isFull_30 : decode cX12_isFull 30 = .ok (.ldc2_w 158, 3) := by decide +kernel
theorem dX12_isFull_33 : decode cX12_isFull 33 = .ok (.invokevirtual 262, 3) := by decide +kernel
theorem dX12_isFull_36 : decode cX12_isFull 36 = .ok (.ifCond .eq 22, 3) := by decide +kernel
theorem dX12_isFull_39 : decode cX12_isFull 39 = .ok (.aload_n 0, 1) := by decide +kernel
theorem dX12_isFull_40 : decode cX12_isFull 40 = .ok (.getfield 24, 3) := by decide +kernel
theorem dX12_isFull_43 : decode cX12_isFull 43 = .ok (.aload_n 0, 1) := by decide +kernel
theorem dX12_isFull_44 : decode cX12_isFull 44 = .ok (.getfield 247, 3) := by decide +kernel
theorem dX12_isFull_47 : decode cX12_isFull 47 = .ok (.iaload, 1) := by decide +kernel
theorem dX12_isFull_48 : decode cX12_isFull 48 = .ok (.iconst 4, 1) := by decide +kernel
theorem dX12_isFull_49 : decode cX12_isFull 49 = .ok (.if_icmp .ne 7, 3) := by decide +kernel
theorem dX12_isFull_52 : decode cX12_isFull 52 = .ok (.iconst 1, 1) := by decide +kernel
theorem dX12_isFull_53 : decode cX12_isFull 53 = .ok (.goto 4, 3) := by decide +kernel
theorem dX12_isFull_56 : decode cX12_isFull 56 = .ok (.iconst 0, 1) := by decide +kernel
theorem dX12_isFull_57 : decode cX12_isFull 57 = .ok (.ireturn, 1) := by decide +kernel
theorem dX12_isFull_58 : decode cX12_isFull 58 = .ok (.aload_n 0, 1) := by decide +kernel
theorem dX12_isFull_59 : decode cX12_isFull 59 = .ok (.ldc2_w 160, 3) := by decide +kernel
theorem dX12_isFull_62 : decode cX12_isFull 62 = .ok (.invokevirtual 262, 3) := by decide +kernel
theorem dX12_isFull_65 : decode cX12_isFull 65 = .ok (.ifCond .eq 23, 3) := by decide +kernel
theorem dX12_isFull_68 : decode cX12_isFull 68 = .ok (.aload_n 0, 1) := by decide +kernel
theorem dX12_isFull_69 : decode cX12_isFull 69 = .ok (.getfield 27, 3) := by decide +kernel
theorem dX12_isFull_72 : decode cX12_isFull 72 = .ok (.aload_n 0, 1) := by decide +kernel
theorem dX12_isFull_73 : decode cX12_isFull 73 = .ok (.getfield 247, 3) := by decide +kernel
theorem dX12_isFull_76 : decode cX12_isFull 76 = .ok (.iaload, 1) := by decide +kernel
theorem dX12_isFull_77 : decode cX12_isFull 77 = .ok (.bipush 8, 2) := by decide +kernel
theorem dX12_isFull_79 : decode cX12_isFull 79 = .ok (.if_icmp .ne 7, 3) := by decide +kernel
theorem dX12_isFull_82 : decode cX12_isFull 82 = .ok (.iconst 1, 1) := by decide +kernel
theorem dX12_isFull_83 : decode cX12_isFull 83 = .ok (.goto 4, 3) := by decide +kernel
theorem dX12_isFull_86 : decode cX12_isFull 86 = .ok (.iconst 0, 1) := by decide +kernel
theorem dX12_isFull_87 : decode cX12_isFull 87 = .ok (.ireturn, 1) := by decide +kernel
theorem dX12_isFull_88 : decode cX12_isFull 88 = .ok (.aload_n 0, 1) := by decide +kernel
theorem dX12_isFull_89 : decode cX12_isFull 89 = .ok (.ldc2_w 166, 3) := by decide +kernel
theorem dX12_isFull_92 : decode cX12_isFull 92 = .ok (.invokevirtual 262, 3) := by decide +kernel
theorem dX12_isFull_95 : decode cX12_isFull 95 = .ok (.ifCond .ne 7, 3) := by decide +kernel
theorem dX12_isFull_98 : decode cX12_isFull 98 = .ok (.iconst 1, 1) := by decide +kernel
theorem dX12_isFull_99 : decode cX12_isFull 99 = .ok (.goto 4, 3) := by decide +kernel
theorem dX12_isFull_102 : decode cX12_isFull 102 = .ok (.iconst 0, 1) := by decide +kernel
theorem dX12_isFull_103 : decode cX12_isFull 103 = .ok (.ireturn, 1) := by decide +kernel
theorem dX12_readLine_0 : decode cX12_readLine 0 = .ok (.aload_n 0, 1) := by decide +kernel
theorem dX12_readLine_1 : decode cX12_readLine 1 = .ok (.getfield 213, 3) := by decide +kernel
theorem dX12_readLine_4 : decode cX12_readLine 4 = .ok (.lstore_n 1, 1) := by decide +kernel
theorem dX12_readLine_5 : decode cX12_readLine 5 = .ok (.aload_n 0, 1) := by decide +kernel
theorem dX12_readLine_6 : decode cX12_readLine 6 = .ok (.getfield 206, 3) := by decide +kernel
theorem dX12_readLine_9 : decode cX12_readLine 9 = .ok (.iconst 3, 1) := by decide +kernel
theorem dX12_readLine_10 : decode cX12_readLine 10 = .ok (.if_icmp .ne 10, 3) := by decide +kernel
theorem dX12_readLine_13 : decode cX12_readLine 13 = .ok (.aload_n 0, 1) := by decide +kernel
theorem dX12_readLine_14 : decode cX12_readLine 14 = .ok (.invokevirtual 265, 3) := by decide +kernel
theorem dX12_readLine_17 : decode cX12_readLine 17 = .ok (.ifCond .eq 7, 3) := by decide +kernel
theorem dX12_readLine_20 : decode cX12_readLine 20 = .ok (.aload_n 0, 1) := by decide +kernel
theorem dX12_readLine_21 : decode cX12_readLine 21 = .ok (.invokevirtual 241, 3) := by decide +kernel
theorem dX12_readLine_24 : decode cX12_readLine 24 = .ok (.aload_n 0, 1) := by decide +kernel
theorem dX12_readLine_25 : decode cX12_readLine 25 = .ok (.invokevirtual 234, 3) := by decide +kernel
theorem dX12_readLine_28 : decode cX12_readLine 28 = .ok (.ifCond .ne 4, 3) := by decide +kernel
theorem dX12_readLine_31 : decode cX12_readLine 31 = .ok (.return_, 1) := by decide +kernel
theorem dX12_readLine_32 : decode cX12_readLine 32 = .ok (.aload_n 0, 1) := by decide +kernel
theorem dX12_readLine_33 : decode cX12_readLine 33 = .ok (.invokevirtual 238, 3) := by decide +kernel
theorem dX12_readLine_36 : decode cX12_readLine 36 = .ok (.lload_n 1, 1) := by decide +kernel
theorem dX12_readLine_37 : decode cX12_readLine 37 = .ok (.ldc2_w 156, 3) := by decide +kernel
theorem dX12_readLine_40 : decode cX12_readLine 40 = .ok (.lcmp, 1) := by decide +kernel
theorem dX12_readLine_41 : decode cX12_readLine 41 = .ok (.ifCond .ne 56, 3) := by decide +kernel
theorem dX12_readLine_44 : decode cX12_readLine 44 = .ok (.aload_n 0, 1) := by decide +kernel
theorem dX12_readLine_45 : decode cX12_readLine 45 = .ok (.getfield 33, 3) := by decide +kernel
theorem dX12_readLine_48 : decode cX12_readLine 48 = .ok (.iconst 3, 1) := by decide +kernel
theorem dX12_readLine_49 : decode cX12_readLine 49 = .ok (.aload_n 0, 1) := by decide +kernel
theorem dX12_readLine_50 : decode cX12_readLine 50 = .ok (.getfield 247, 3) := by decide +kernel
theorem dX12_readLine_53 : decode cX12_readLine 53 = .ok (.imul, 1) := by decide +kernel
theorem dX12_readLine_54 : decode cX12_readLine 54 = .ok (.aload_n 0, 1) := by decide +kernel
theorem dX12_readLine_55 : decode cX12_readLine 55 = .ok (.getfield 20, 3) := by decide +kernel
theorem dX12_readLine_58 : decode cX12_readLine 58 = .ok (.aload_n 0, 1) := by decide +kernel
theorem dX12_readLine_59 : decode cX12_readLine 59 = .ok (.getfield 247, 3) := by decide +kernel
theorem dX12_readLine_62 : decode cX12_readLine 62 = .ok (.iaload, 1) := by decide +kernel
theorem dX12_readLine_63 : decode cX12_readLine 63 = .ok (.iadd, 1) := by decide +kernel
theorem dX12_readLine_64 : decode cX12_readLine 64 = .ok (.aload_n 0, 1) := by decide +kernel
theorem dX12_readLine_65 : decode cX12_readLine 65 = .ok (.aload_n 0, 1) := by decide +kernel
theorem dX12_readLine_66 : decode cX12_readLine 66 = .ok (.invokevirtual 268, 3) := by decide +kernel
theorem dX12_readLine_69 : decode cX12_readLine 69 = .ok (.ifCond .lt 7, 3) := by decide +kernel
theorem dX12_readLine_72 : decode cX12_readLine 72 = .ok (.iconst 1, 1) := by decide +kernel
theorem dX12_readLine_73 : decode cX12_readLine 73 = .ok (.goto 4, 3) := by decide +kernel
theorem dX12_readLine_76 : decode cX12_readLine 76 = .ok (.iconst 0, 1) := by decide +kernel
theorem dX12_readLine_77 : decode cX12_readLine 77 = .ok (.invokevirtual 272, 3) := by decide +kernel
theorem dX12_readLine_80 : decode cX12_readLine 80 = .ok (.lastore, 1) := by decide +kernel
theorem dX12_readLine_81 : decode cX12_readLine 81 = .ok (.aload_n 0, 1) := by decide +kernel
theorem dX12_readLine_82 : decode cX12_readLine 82 = .ok (.getfield 20, 3) := by decide +kernel
theorem dX12_readLine_85 : decode cX12_readLine 85 = .ok (.aload_n 0, 1) := by decide +kernel
theorem dX12_readLine_86 : decode cX12_readLine 86 = .ok (.getfield 247, 3) := by decide +kernel
theorem dX12_readLine_89 : decode cX12_readLine 89 = .ok (.dup2, 1) := by decide +kernel
theorem dX12_readLine_90 : decode cX12_readLine 90 = .ok (.iaload, 1) := by decide +kernel
theorem dX12_readLine_91 : decode cX12_readLine 91 = .ok (.iconst 1, 1) := by decide +kernel
theorem dX12_readLine_92 : decode cX12_readLine 92 = .ok (.iadd, 1) := by decide +kernel
theorem dX12_readLine_93 : decode cX12_readLine 93 = .ok (.iastore, 1) := by decide +kernel
theorem dX12_readLine_94 : decode cX12_readLine 94 = .ok (.goto 83, 3) := by decide +kernel
theorem dX12_readLine_97 : decode cX12_readLine 97 = .ok (.lload_n 1, 1) := by decide +kernel
theorem dX12_readLine_98 : decode cX12_readLine 98 = .ok (.ldc2_w 158, 3) := by decide +kernel
theorem dX12_readLine_101 : decode cX12_readLine 101 = .ok (.lcmp, 1) := by decide +kernel
theorem dX12_readLine_102 : decode cX12_readLine 102 = .ok (.ifCond .ne 56, 3) := by decide +kernel
theorem dX12_readLine_105 : decode cX12_readLine 105 = .ok (.aload_n 0, 1) := by decide +kernel
theorem dX12_readLine_106 : decode cX12_readLine 106 = .ok (.getfield 37, 3) := by decide +kernel
theorem dX12_readLine_109 : decode cX12_readLine 109 = .ok (.iconst 4, 1) := by decide +kernel
theorem dX12_readLine_110 : decode cX12_readLine 110 = .ok (.aload_n 0, 1) := by decide +kernel
theorem dX12_readLine_111 : decode cX12_readLine 111 = .ok (.getfield 247, 3) := by decide +kernel
theorem dX12_readLine_114 : decode cX12_readLine 114 = .ok (.imul, 1) := by decide +kernel
theorem dX12_readLine_115 : decode cX12_readLine 115 = .ok (.aload_n 0, 1) := by decide +kernel
theorem dX12_readLine_116 : decode cX12_readLine 116 = .ok (.getfield 24, 3) := by decide +kernel
theorem dX12_readLine_119 : decode cX12_readLine 119 = .ok (.aload_n 0, 1) := by decide +kernel
theorem dX12_readLine_120 : decode cX12_readLine 120 = .ok (.getfield 247, 3) := by decide +kernel
theorem dX12_readLine_123 : decode cX12_readLine 123 = .ok (.iaload, 1) := by decide +kernel
theorem dX12_readLine_124 : decode cX12_readLine 124 = .ok (.iadd, 1) := by decide +kernel
theorem dX12_readLine_125 : decode cX12_readLine 125 = .ok (.aload_n 0, 1) := by decide +kernel
theorem dX12_readLine_126 : decode cX12_readLine 126 = .ok (.aload_n 0, 1) := by decide +kernel
theorem dX12_readLine_127 : decode cX12_readLine 127 = .ok (.invokevirtual 276, 3) := by decide +kernel
theorem dX12_readLine_130 : decode cX12_readLine 130 = .ok (.ifCond .lt 7, 3) := by decide +kernel
theorem dX12_readLine_133 : decode cX12_readLine 133 = .ok (.iconst 1, 1) := by decide +kernel
theorem dX12_readLine_134 : decode cX12_readLine 134 = .ok (.goto 4, 3) := by decide +kernel
theorem dX12_readLine_137 : decode cX12_readLine 137 = .ok (.iconst 0, 1) := by decide +kernel
theorem dX12_readLine_138 : decode cX12_readLine 138 = .ok (.invokevirtual 272, 3) := by decide +kernel
theorem dX12_readLine_141 : decode cX12_readLine 141 = .ok (.lastore, 1) := by decide +kernel
theorem dX12_readLine_142 : decode cX12_readLine 142 = .ok (.aload_n 0, 1) := by decide +kernel
theorem dX12_readLine_143 : decode cX12_readLine 143 = .ok (.getfield 24, 3) := by decide +kernel
theorem dX12_readLine_146 : decode cX12_readLine 146 = .ok (.aload_n 0, 1) := by decide +kernel
theorem dX12_readLine_147 : decode cX12_readLine 147 = .ok (.getfield 247, 3) := by decide +kernel
theorem dX12_readLine_150 : decode cX12_readLine 150 = .ok (.dup2, 1) := by decide +kernel
theorem dX12_readLine_151 : decode cX12_readLine 151 = .ok (.iaload, 1) := by decide +kernel
theorem dX12_readLine_152 : decode cX12_readLine 152 = .ok (.iconst 1, 1) := by decide +kernel
theorem dX12_readLine_153 : decode cX12_readLine 153 = .ok (.iadd, 1) := by decide +kernel
theorem dX12_readLine_154 : decode cX12_readLine 154 = .ok (.iastore, 1) := by decide +kernel
theorem dX12_readLine_155 : decode cX12_readLine 155 = .ok (.goto 22, 3) := by decide +kernel
theorem dX12_readLine_158 : decode cX12_readLine 158 = .ok (.lload_n 1, 1) := by decide +kernel
theorem dX12_readLine_159 : decode cX12_readLine 159 = .ok (.ldc2_w 160, 3) := by decide +kernel
theorem dX12_readLine_162 : decode cX12_readLine 162 = .ok (.lcmp, 1) := by decide +kernel
theorem dX12_readLine_163 : decode cX12_readLine 163 = .ok (.ifCond .ne 10, 3) := by decide +kernel
theorem dX12_readLine_166 : decode cX12_readLine 166 = .ok (.aload_n 0, 1) := by decide +kernel
theorem dX12_readLine_167 : decode cX12_readLine 167 = .ok (.invokevirtual 279, 3) := by decide +kernel
theorem dX12_readLine_170 : decode cX12_readLine 170 = .ok (.goto 7, 3) := by decide +kernel
theorem dX12_readLine_173 : decode cX12_readLine 173 = .ok (.aload_n 0, 1) := by decide +kernel
theorem dX12_readLine_174 : decode cX12_readLine 174 = .ok (.invokevirtual 282, 3) := by decide +kernel
theorem dX12_readLine_177 : decode cX12_readLine 177 = .ok (.aload_n 0, 1) := by decide +kernel
theorem dX12_readLine_178 : decode cX12_readLine 178 = .ok (.aload_n 0, 1) := by decide +kernel
theorem dX12_readLine_179 : decode cX12_readLine 179 = .ok (.bipush 59, 2) := by decide +kernel
theorem dX12_readLine_181 : decode cX12_readLine 181 = .ok (.invokevirtual 285, 3) := by decide +kernel
theorem dX12_readLine_184 : decode cX12_readLine 184 = .ok (.invokevirtual 288, 3) := by decide +kernel
theorem dX12_readLine_187 : decode cX12_readLine 187 = .ok (.return_, 1) := by decide +kernel
theorem dX12_here_0 : decode cX12_here 0 = .ok (.iconst 0, 1) := by decide +kernel
theorem dX12_here_1 : decode cX12_here 1 = .ok (.istore 4, 2) := by decide +kernel
theorem dX12_here_3 : decode cX12_here 3 = .ok (.iload 4, 2) := by decide +kernel
theorem dX12_here_5 : decode cX12_here 5 = .ok (.iload_n 3, 1) := by decide +kernel
theorem dX12_here_6 : decode cX12_here 6 = .ok (.if_icmp .ge 34, 3) := by decide +kernel
theorem dX12_here_9 : decode cX12_here 9 = .ok (.aload_n 0, 1) := by decide +kernel
theorem dX12_here_10 : decode cX12_here 10 = .ok (.getfield 206, 3) := by decide +kernel
theorem dX12_here_13 : decode cX12_here 13 = .ok (.iconst 2, 1) := by decide +kernel
theorem dX12_here_14 : decode cX12_here 14 = .ok (.if_icmp .ne 20, 3) := by decide +kernel
theorem dX12_here_17 : decode cX12_here 17 = .ok (.aload_n 1, 1) := by decide +kernel
theorem dX12_here_18 : decode cX12_here 18 = .ok (.iload_n 2, 1) := by decide +kernel
theorem dX12_here_19 : decode cX12_here 19 = .ok (.iload 4, 2) := by decide +kernel
theorem dX12_here_21 : decode cX12_here 21 = .ok (.iadd, 1) := by decide +kernel
theorem dX12_here_22 : decode cX12_here 22 = .ok (.laload, 1) := by decide +kernel
theorem dX12_here_23 : decode cX12_here 23 = .ok (.aload_n 0, 1) := by decide +kernel
theorem dX12_here_24 : decode cX12_here 24 = .ok (.getfield 213, 3) := by decide +kernel
theorem dX12_here_27 : decode cX12_here 27 = .ok (.lcmp, 1) := by decide +kernel
theorem dX12_here_28 : decode cX12_here 28 = .ok (.ifCond .ne 6, 3) := by decide +kernel
theorem dX12_here_31 : decode cX12_here 31 = .ok (.iload 4, 2) := by decide +kernel
theorem dX12_here_33 : decode cX12_here 33 = .ok (.ireturn, 1) := by decide +kernel
theorem dX12_here_34 : decode cX12_here 34 = .ok (.iinc 4 1, 3) := by decide +kernel
theorem dX12_here_37 : decode cX12_here 37 = .ok (.goto (-34), 3) := by decide +kernel
theorem dX12_here_40 : decode cX12_here 40 = .ok (.iconst (-1), 1) := by decide +kernel
theorem dX12_here_41 : decode cX12_here 41 = .ok (.ireturn, 1) := by decide +kernel
theorem dX12_nameHere_0 : decode cX12_nameHere 0 = .ok (.aload_n 0, 1) := by decide +kernel
theorem dX12_nameHere_1 : decode cX12_nameHere 1 = .ok (.aload_n 0, 1) := by decide +kernel
theorem dX12_nameHere_2 : decode cX12_nameHere 2 = .ok (.getfield 33, 3) := by decide +kernel
theorem dX12_nameHere_5 : decode cX12_nameHere 5 = .ok (.iconst 3, 1) := by decide +kernel
theorem dX12_nameHere_6 : decode cX12_nameHere 6 = .ok (.aload_n 0, 1) := by decide +kernel
theorem dX12_nameHere_7 : decode cX12_nameHere 7 = .ok (.getfield 247, 3) := by decide +kernel
theorem dX12_nameHere_10 : decode cX12_nameHere 10 = .ok (.imul, 1) := by decide +kernel
theorem dX12_nameHere_11 : decode cX12_nameHere 11 = .ok (.aload_n 0, 1) := by decide +kernel
theorem dX12_nameHere_12 : decode cX12_nameHere 12 = .ok (.getfield 20, 3) := by decide +kernel
theorem dX12_nameHere_15 : decode cX12_nameHere 15 = .ok (.aload_n 0, 1) := by decide +kernel
theorem dX12_nameHere_16 : decode cX12_nameHere 16 = .ok (.getfield 247, 3) := by decide +kernel
theorem dX12_nameHere_19 : decode cX12_nameHere 19 = .ok (.iaload, 1) := by decide +kernel
theorem dX12_nameHere_20 : decode cX12_nameHere 20 = .ok (.invokevirtual 292, 3) := by decide +kernel
theorem dX12_nameHere_23 : decode cX12_nameHere 23 = .ok (.ireturn, 1) := by decide +kernel
theorem dX12_streetHere_0 : decode cX12_streetHere 0 = .ok (.aload_n 0, 1) := by decide +kernel
theorem dX12_streetHere_1 : decode cX12_streetHere 1 = .ok (.aload_n 0, 1) := by decide +kernel
theorem dX12_streetHere_2 : decode cX12_streetHere 2 = .ok (.getfield 37, 3) := by decide +kernel
theorem dX12_streetHere_5 : decode cX12_streetHere 5 = .ok (.iconst 4, 1) := by decide +kernel
theorem dX12_streetHere_6 : decode cX12_streetHere 6 = .ok (.aload_n 0, 1) := by decide +kernel
theorem dX12_streetHere_7 : decode cX12_streetHere 7 = .ok (.getfield 247, 3) := by decide +kernel
theorem dX12_streetHere_10 : decode cX12_streetHere 10 = .ok (.imul, 1) := by decide +kernel
theorem dX12_streetHere_11 : decode cX12_streetHere 11 = .ok (.aload_n 0, 1) := by decide +kernel
theorem dX12_streetHere_12 : decode cX12_streetHere 12 = .ok (.getfield 24, 3) := by decide +kernel
theorem dX12_streetHere_15 : decode cX12_streetHere 15 = .ok (.aload_n 0, 1) := by decide +kernel
theorem dX12_streetHere_16 : decode cX12_streetHere 16 = .ok (.getfield 247, 3) := by decide +kernel
theorem dX12_streetHere_19 : decode cX12_streetHere 19 = .ok (.iaload, 1) := by decide +kernel
theorem dX12_streetHere_20 : decode cX12_streetHere 20 = .ok (.invokevirtual 292, 3) := by decide +kernel
theorem dX12_streetHere_23 : decode cX12_streetHere 23 = .ok (.ireturn, 1) := by decide +kernel
theorem dX12_voterHere_0 : decode cX12_voterHere 0 = .ok (.aload_n 0, 1) := by decide +kernel
theorem dX12_voterHere_1 : decode cX12_voterHere 1 = .ok (.aload_n 0, 1) := by decide +kernel
theorem dX12_voterHere_2 : decode cX12_voterHere 2 = .ok (.getfield 40, 3) := by decide +kernel
theorem dX12_voterHere_5 : decode cX12_voterHere 5 = .ok (.bipush 8, 2) := by decide +kernel
theorem dX12_voterHere_7 : decode cX12_voterHere 7 = .ok (.aload_n 0, 1) := by decide +kernel
theorem dX12_voterHere_8 : decode cX12_voterHere 8 = .ok (.getfield 247, 3) := by decide +kernel
theorem dX12_voterHere_11 : decode cX12_voterHere 11 = .ok (.imul, 1) := by decide +kernel
theorem dX12_voterHere_12 : decode cX12_voterHere 12 = .ok (.aload_n 0, 1) := by decide +kernel
theorem dX12_voterHere_13 : decode cX12_voterHere 13 = .ok (.getfield 27, 3) := by decide +kernel
theorem dX12_voterHere_16 : decode cX12_voterHere 16 = .ok (.aload_n 0, 1) := by decide +kernel
theorem dX12_voterHere_17 : decode cX12_voterHere 17 = .ok (.getfield 247, 3) := by decide +kernel
theorem dX12_voterHere_20 : decode cX12_voterHere 20 = .ok (.iaload, 1) := by decide +kernel
theorem dX12_voterHere_21 : decode cX12_voterHere 21 = .ok (.invokevirtual 292, 3) := by decide +kernel
theorem dX12_voterHere_24 : decode cX12_voterHere 24 = .ok (.ireturn, 1) := by decide +kernel
theorem dX12_fresh_0 : decode cX12_fresh 0 = .ok (.aload_n 0, 1) := by decide +kernel
theorem dX12_fresh_1 : decode cX12_fresh 1 = .ok (.invokevirtual 234, 3) := by decide +kernel
theorem dX12_fresh_4 : decode cX12_fresh 4 = .ok (.ifCond .ne 5, 3) := by decide +kernel
theorem dX12_fresh_7 : decode cX12_fresh 7 = .ok (.lconst 0, 1) := by decide +kernel
theorem dX12_fresh_8 : decode cX12_fresh 8 = .ok (.lreturn, 1) := by decide +kernel
theorem dX12_fresh_9 : decode cX12_fresh 9 = .ok (.aload_n 0, 1) := by decide +kernel
theorem dX12_fresh_10 : decode cX12_fresh 10 = .ok (.getfield 206, 3) := by decide +kernel
theorem dX12_fresh_13 : decode cX12_fresh 13 = .ok (.iconst 2, 1) := by decide +kernel
theorem dX12_fresh_14 : decode cX12_fresh 14 = .ok (.if_icmp .eq 10, 3) := by decide +kernel
theorem dX12_fresh_17 : decode cX12_fresh 17 = .ok (.aload_n 0, 1) := by decide +kernel
theorem dX12_fresh_18 : decode cX12_fresh 18 = .ok (.invokevirtual 241, 3) := by decide +kernel
theorem dX12_fresh_21 : decode cX12_fresh 21 = .ok (.goto 16, 3) := by decide +kernel
theorem dX12_fresh_24 : decode cX12_fresh 24 = .ok (.iload_n 1, 1) := by decide +kernel
theorem dX12_fresh_25 : decode cX12_fresh 25 = .ok (.ifCond .eq 12, 3) := by decide +kernel
theorem dX12_fresh_28 : decode cX12_fresh 28 = .ok (.aload_n 0, 1) := by decide +kernel
theorem dX12_fresh_29 : decode cX12_fresh 29 = .ok (.iconst 3, 1) := by decide +kernel
theorem dX12_fresh_30 : decode cX12_fresh 30 = .ok (.aload_n 0, 1) := by decide +kernel
theorem dX12_fresh_31 : decode cX12_fresh 31 = .ok (.getfield 199, 3) := by decide +kernel
theorem dX12_fresh_34 : decode cX12_fresh 34 = .ok (.invokevirtual 230, 3) := by decide +kernel
theorem dX12_fresh_37 : decode cX12_fresh 37 = .ok (.aload_n 0, 1) := by decide +kernel
theorem dX12_fresh_38 : decode cX12_fresh 38 = .ok (.getfield 213, 3) := by decide +kernel
theorem dX12_fresh_41 : decode cX12_fresh 41 = .ok (.lstore_n 2, 1) := by decide +kernel
theorem dX12_fresh_42 : decode cX12_fresh 42 = .ok (.aload_n 0, 1) := by decide +kernel
theorem dX12_fresh_43 : decode cX12_fresh 43 = .ok (.invokevirtual 234, 3) := by decide +kernel
theorem dX12_fresh_46 : decode cX12_fresh 46 = .ok (.ifCond .eq 7, 3) := by decide +kernel
theorem dX12_fresh_49 : decode cX12_fresh 49 = .ok (.aload_n 0, 1) := by decide +kernel
theorem dX12_fresh_50 : decode cX12_fresh 50 = .ok (.invokevirtual 238, 3) := by decide +kernel
theorem dX12_fresh_53 : decode cX12_fresh 53 = .ok (.lload_n 2, 1) := by decide +kernel
theorem dX12_fresh_54 : decode cX12_fresh 54 = .ok (.lreturn, 1) := by decide +kernel
theorem dX12_told_0 : decode cX12_told 0 = .ok (.aload_n 0, 1) := by decide +kernel
theorem dX12_told_1 : decode cX12_told 1 = .ok (.invokevirtual 234, 3) := by decide +kernel
theorem dX12_told_4 : decode cX12_told 4 = .ok (.ifCond .ne 5, 3) := by decide +kernel
theorem dX12_told_7 : decode cX12_told 7 = .ok (.iconst 0, 1) := by decide +kernel
theorem dX12_told_8 : decode cX12_told 8 = .ok (.ireturn, 1) := by decide +kernel
theorem dX12_told_9 : decode cX12_told 9 = .ok (.aload_n 0, 1) := by decide +kernel
theorem dX12_told_10 : decode cX12_told 10 = .ok (.getfield 206, 3) := by decide +kernel
theorem dX12_told_13 : decode cX12_told 13 = .ok (.iconst 2, 1) := by decide +kernel
theorem dX12_told_14 : decode cX12_told 14 = .ok (.if_icmp .eq 10, 3) := by decide +kernel
theorem dX12_told_17 : decode cX12_told 17 = .ok (.aload_n 0, 1) := by decide +kernel
theorem dX12_told_18 : decode cX12_told 18 = .ok (.invokevirtual 241, 3) := by decide +kernel
theorem dX12_told_21 : decode cX12_told 21 = .ok (.goto 16, 3) := by decide +kernel
theorem dX12_told_24 : decode cX12_told 24 = .ok (.iload_n 1, 1) := by decide +kernel
theorem dX12_told_25 : decode cX12_told 25 = .ok (.ifCond .ge 12, 3) := by decide +kernel
theorem dX12_told_28 : decode cX12_told 28 = .ok (.aload_n 0, 1) := by decide +kernel
theorem dX12_told_29 : decode cX12_told 29 = .ok (.iconst 5, 1) := by decide +kernel
theorem dX12_told_30 : decode cX12_told 30 = .ok (.aload_n 0, 1) := by decide +kernel
theorem dX12_told_31 : decode cX12_told 31 = .ok (.getfield 199, 3) := by decide +kernel
theorem dX12_told_34 : decode cX12_told 34 = .ok (.invokevirtual 230, 3) := by decide +kernel
theorem dX12_told_37 : decode cX12_told 37 = .ok (.aload_n 0, 1) := by decide +kernel
theorem dX12_told_38 : decode cX12_told 38 = .ok (.invokevirtual 234, 3) := by decide +kernel
theorem dX12_told_41 : decode cX12_told 41 = .ok (.ifCond .eq 7, 3) := by decide +kernel
theorem dX12_told_44 : decode cX12_told 44 = .ok (.aload_n 0, 1) := by decide +kernel
theorem dX12_told_45 : decode cX12_told 45 = .ok (.invokevirtual 238, 3) := by decide +kernel
theorem dX12_told_48 : decode cX12_told 48 = .ok (.iload_n 1, 1) := by decide +kernel
theorem dX12_told_49 : decode cX12_told 49 = .ok (.ifCond .ge 7, 3) := by decide +kernel
theorem dX12_told_52 : decode cX12_told 52 = .ok (.iconst 0, 1) := by decide +kernel
theorem dX12_told_53 : decode cX12_told 53 = .ok (.goto 4, 3) := by decide +kernel
theorem dX12_told_56 : decode cX12_told 56 = .ok (.iload_n 1, 1) := by decide +kernel
theorem dX12_told_57 : decode cX12_told 57 = .ok (.ireturn, 1) := by decide +kernel
theorem dX12_readVoter_0 : decode cX12_readVoter 0 = .ok (.bipush 8, 2) := by decide +kernel
theorem dX12_readVoter_2 : decode cX12_readVoter 2 = .ok (.aload_n 0, 1) := by decide +kernel
theorem dX12_readVoter_3 : decode cX12_readVoter 3 = .ok (.getfield 247, 3) := by decide +kernel
theorem dX12_readVoter_6 : decode cX12_readVoter 6 = .ok (.imul, 1) := by decide +kernel
theorem dX12_readVoter_7 : decode cX12_readVoter 7 = .ok (.aload_n 0, 1) := by decide +kernel
theorem dX12_readVoter_8 : decode cX12_readVoter 8 = .ok (.getfield 27, 3) := by decide +kernel
theorem dX12_readVoter_11 : decode cX12_readVoter 11 = .ok (.aload_n 0, 1) := by decide +kernel
theorem dX12_readVoter_12 : decode cX12_readVoter 12 = .ok (.getfield 247, 3) := by decide +kernel
theorem dX12_readVoter_15 : decode cX12_readVoter 15 = .ok (.iaload, 1) := by decide +kernel
theorem dX12_readVoter_16 : decode cX12_readVoter 16 = .ok (.iadd, 1) := by decide +kernel
theorem dX12_readVoter_17 : decode cX12_readVoter 17 = .ok (.istore_n 1, 1) := by decide +kernel
theorem dX12_readVoter_18 : decode cX12_readVoter 18 = .ok (.aload_n 0, 1) := by decide +kernel
theorem dX12_readVoter_19 : decode cX12_readVoter 19 = .ok (.getfield 40, 3) := by decide +kernel
theorem dX12_readVoter_22 : decode cX12_readVoter 22 = .ok (.iload_n 1, 1) := by decide +kernel
theorem dX12_readVoter_23 : decode cX12_readVoter 23 = .ok (.aload_n 0, 1) := by decide +kernel
theorem dX12_readVoter_24 : decode cX12_readVoter 24 = .ok (.aload_n 0, 1) := by decide +kernel
theorem dX12_readVoter_25 : decode cX12_readVoter 25 = .ok (.invokevirtual 296, 3) := by decide +kernel
theorem dX12_readVoter_28 : decode cX12_readVoter 28 = .ok (.ifCond .lt 7, 3) := by decide +kernel
theorem dX12_readVoter_31 : decode cX12_readVoter 31 = .ok (.iconst 1, 1) := by decide +kernel
theorem dX12_readVoter_32 : decode cX12_readVoter 32 = .ok (.goto 4, 3) := by decide +kernel
theorem dX12_readVoter_35 : decode cX12_readVoter 35 = .ok (.iconst 0, 1) := by decide +kernel
theorem dX12_readVoter_36 : decode cX12_readVoter 36 = .ok (.invokevirtual 272, 3) := by decide +kernel
theorem dX12_readVoter_39 : decode cX12_readVoter 39 = .ok (.lastore, 1) := by decide +kernel
theorem dX12_readVoter_40 : decode cX12_readVoter 40 = .ok (.aload_n 0, 1) := by decide +kernel
theorem dX12_readVoter_41 : decode cX12_readVoter 41 = .ok (.aload_n 0, 1) := by decide +kernel
theorem dX12_readVoter_42 : decode cX12_readVoter 42 = .ok (.ldc2_w 162, 3) := by decide +kernel
theorem dX12_readVoter_45 : decode cX12_readVoter 45 = .ok (.invokevirtual 262, 3) := by decide +kernel
theorem dX12_readVoter_48 : decode cX12_readVoter 48 = .ok (.invokevirtual 288, 3) := by decide +kernel
theorem dX12_readVoter_51 : decode cX12_readVoter 51 = .ok (.aload_n 0, 1) := by decide +kernel
theorem dX12_readVoter_52 : decode cX12_readVoter 52 = .ok (.getfield 43, 3) := by decide +kernel
theorem dX12_readVoter_55 : decode cX12_readVoter 55 = .ok (.iload_n 1, 1) := by decide +kernel
theorem dX12_readVoter_56 : decode cX12_readVoter 56 = .ok (.aload_n 0, 1) := by decide +kernel
theorem dX12_readVoter_57 : decode cX12_readVoter 57 = .ok (.aload_n 0, 1) := by decide +kernel
theorem dX12_readVoter_58 : decode cX12_readVoter 58 = .ok (.invokevirtual 276, 3) := by decide +kernel
theorem dX12_readVoter_61 : decode cX12_readVoter 61 = .ok (.invokevirtual 299, 3) := by decide +kernel
theorem dX12_readVoter_64 : decode cX12_readVoter 64 = .ok (.iastore, 1) := by decide +kernel
theorem dX12_readVoter_65 : decode cX12_readVoter 65 = .ok (.aload_n 0, 1) := by decide +kernel
theorem dX12_readVoter_66 : decode cX12_readVoter 66 = .ok (.aload_n 0, 1) := by decide +kernel
theorem dX12_readVoter_67 : decode cX12_readVoter 67 = .ok (.ldc2_w 164, 3) := by decide +kernel
theorem dX12_readVoter_70 : decode cX12_readVoter 70 = .ok (.invokevirtual 262, 3) := by decide +kernel
theorem dX12_readVoter_73 : decode cX12_readVoter 73 = .ok (.invokevirtual 288, 3) := by decide +kernel
theorem dX12_readVoter_76 : decode cX12_readVoter 76 = .ok (.aload_n 0, 1) := by decide +kernel
theorem dX12_readVoter_77 : decode cX12_readVoter 77 = .ok (.invokevirtual 234, 3) := by decide +kernel
theorem dX12_readVoter_80 : decode cX12_readVoter 80 = .ok (.ifCond .eq 18, 3) := by decide +kernel
theorem dX12_readVoter_83 : decode cX12_readVoter 83 = .ok (.aload_n 0, 1) := by decide +kernel
theorem dX12_readVoter_84 : decode cX12_readVoter 84 = .ok (.getfield 206, 3) := by decide +kernel
theorem dX12_readVoter_87 : decode cX12_readVoter 87 = .ok (.iconst 4, 1) := by decide +kernel
theorem dX12_readVoter_88 : decode cX12_readVoter 88 = .ok (.if_icmp .eq 10, 3) := by decide +kernel
theorem dX12_readVoter_91 : decode cX12_readVoter 91 = .ok (.aload_n 0, 1) := by decide +kernel
theorem dX12_readVoter_92 : decode cX12_readVoter 92 = .ok (.invokevirtual 241, 3) := by decide +kernel
theorem dX12_readVoter_95 : decode cX12_readVoter 95 = .ok (.goto 36, 3) := by decide +kernel
theorem dX12_readVoter_98 : decode cX12_readVoter 98 = .ok (.aload_n 0, 1) := by decide +kernel
theorem dX12_readVoter_99 : decode cX12_readVoter 99 = .ok (.invokevirtual 234, 3) := by decide +kernel
theorem dX12_readVoter_102 : decode cX12_readVoter 102 = .ok (.ifCond .eq 29, 3) := by decide +kernel
theorem dX12_readVoter_105 : decode cX12_readVoter 105 = .ok (.aload_n 0, 1) := by decide +kernel
theorem dX12_readVoter_106 : decode cX12_readVoter 106 = .ok (.getfield 224, 3) := by decide +kernel
theorem dX12_readVoter_109 : decode cX12_readVoter 109 = .ok (.iconst 1, 1) := by decide +kernel
theorem dX12_readVoter_110 : decode cX12_readVoter 110 = .ok (.if_icmp .lt 12, 3) := by decide +kernel
theorem dX12_readVoter_113 : decode cX12_readVoter 113 = .ok (.aload_n 0, 1) := by decide +kernel
theorem dX12_readVoter_114 : decode cX12_readVoter 114 = .ok (.getfield 224, 3) := by decide +kernel
theorem dX12_readVoter_117 : decode cX12_readVoter 117 = .ok (.bipush 9, 2) := by decide +kernel
theorem dX12_readVoter_119 : decode cX12_readVoter 119 = .ok (.if_icmp .le 12, 3) := by decide +kernel
theorem dX12_readVoter_122 : decode cX12_readVoter 122 = .ok (.aload_n 0, 1) := by decide +kernel
theorem dX12_readVoter_123 : decode cX12_readVoter 123 = .ok (.iconst 4, 1) := by decide +kernel
theorem dX12_readVoter_124 : decode cX12_readVoter 124 = .ok (.aload_n 0, 1) := by decide +kernel
theorem dX12_readVoter_125 : decode cX12_readVoter 125 = .ok (.getfield 199, 3) := by decide +kernel
theorem dX12_readVoter_128 : decode cX12_readVoter 128 = .ok (.invokevirtual 230, 3) := by decide +kernel
theorem dX12_readVoter_131 : decode cX12_readVoter 131 = .ok (.aload_n 0, 1) := by decide +kernel
theorem dX12_readVoter_132 : decode cX12_readVoter 132 = .ok (.getfield 46, 3) := by decide +kernel
theorem dX12_readVoter_135 : decode cX12_readVoter 135 = .ok (.iload_n 1, 1) := by decide +kernel
theorem dX12_readVoter_136 : decode cX12_readVoter 136 = .ok (.aload_n 0, 1) := by decide +kernel
theorem dX12_readVoter_137 : decode cX12_readVoter 137 = .ok (.getfield 224, 3) := by decide +kernel
theorem dX12_readVoter_140 : decode cX12_readVoter 140 = .ok (.iastore, 1) := by decide +kernel
theorem dX12_readVoter_141 : decode cX12_readVoter 141 = .ok (.aload_n 0, 1) := by decide +kernel
theorem dX12_readVoter_142 : decode cX12_readVoter 142 = .ok (.invokevirtual 234, 3) := by decide +kernel
theorem dX12_readVoter_145 : decode cX12_readVoter 145 = .ok (.ifCond .eq 7, 3) := by decide +kernel
theorem dX12_readVoter_148 : decode cX12_readVoter 148 = .ok (.aload_n 0, 1) := by decide +kernel
theorem dX12_readVoter_149 : decode cX12_readVoter 149 = .ok (.invokevirtual 238, 3) := by decide +kernel
theorem dX12_readVoter_152 : decode cX12_readVoter 152 = .ok (.aload_n 0, 1) := by decide +kernel
theorem dX12_readVoter_153 : decode cX12_readVoter 153 = .ok (.getfield 27, 3) := by decide +kernel
theorem dX12_readVoter_156 : decode cX12_readVoter 156 = .ok (.aload_n 0, 1) := by decide +kernel
theorem dX12_readVoter_157 : decode cX12_readVoter 157 = .ok (.getfield 247, 3) := by decide +kernel
theorem dX12_readVoter_160 : decode cX12_readVoter 160 = .ok (.dup2, 1) := by decide +kernel
theorem dX12_readVoter_161 : decode cX12_readVoter 161 = .ok (.iaload, 1) := by decide +kernel
theorem dX12_readVoter_162 : decode cX12_readVoter 162 = .ok (.iconst 1, 1) := by decide +kernel
theorem dX12_readVoter_163 : decode cX12_readVoter 163 = .ok (.iadd, 1) := by decide +kernel
theorem dX12_readVoter_164 : decode cX12_readVoter 164 = .ok (.iastore, 1) := by decide +kernel
theorem dX12_readVoter_165 : decode cX12_readVoter 165 = .ok (.return_, 1) := by decide +kernel
theorem dX12_readBallot_0 : decode cX12_readBallot 0 = .ok (.aload_n 0, 1) := by decide +kernel
theorem dX12_readBallot_1 : decode cX12_readBallot 1 = .ok (.invokevirtual 296, 3) := by decide +kernel
theorem dX12_readBallot_4 : decode cX12_readBallot 4 = .ok (.istore_n 1, 1) := by decide +kernel
theorem dX12_readBallot_5 : decode cX12_readBallot 5 = .ok (.aload_n 0, 1) := by decide +kernel
theorem dX12_readBallot_6 : decode cX12_readBallot 6 = .ok (.invokevirtual 234, 3) := by decide +kernel
theorem dX12_readBallot_9 : decode cX12_readBallot 9 = .ok (.ifCond .eq 33, 3) := by decide +kernel
theorem dX12_readBallot_12 : decode cX12_readBallot 12 = .ok (.iload_n 1, 1) := by decide +kernel
theorem dX12_readBallot_13 : decode cX12_readBallot 13 = .ok (.ifCond .lt 29, 3) := by decide +kernel
theorem dX12_readBallot_16 : decode cX12_readBallot 16 = .ok (.aload_n 0, 1) := by decide +kernel
theorem dX12_readBallot_17 : decode cX12_readBallot 17 = .ok (.getfield 49, 3) := by decide +kernel
theorem dX12_readBallot_20 : decode cX12_readBallot 20 = .ok (.bipush 8, 2) := by decide +kernel
theorem dX12_readBallot_22 : decode cX12_readBallot 22 = .ok (.aload_n 0, 1) := by decide +kernel
theorem dX12_readBallot_23 : decode cX12_readBallot 23 = .ok (.getfield 247, 3) := by decide +kernel
theorem dX12_readBallot_26 : decode cX12_readBallot 26 = .ok (.imul, 1) := by decide +kernel
theorem dX12_readBallot_27 : decode cX12_readBallot 27 = .ok (.iload_n 1, 1) := by decide +kernel
theorem dX12_readBallot_28 : decode cX12_readBallot 28 = .ok (.iadd, 1) := by decide +kernel
theorem dX12_readBallot_29 : decode cX12_readBallot 29 = .ok (.baload, 1) := by decide +kernel
theorem dX12_readBallot_30 : decode cX12_readBallot 30 = .ok (.ifCond .eq 12, 3) := by decide +kernel
theorem dX12_readBallot_33 : decode cX12_readBallot 33 = .ok (.aload_n 0, 1) := by decide +kernel
theorem dX12_readBallot_34 : decode cX12_readBallot 34 = .ok (.iconst 3, 1) := by decide +kernel
theorem dX12_readBallot_35 : decode cX12_readBallot 35 = .ok (.aload_n 0, 1) := by decide +kernel
theorem dX12_readBallot_36 : decode cX12_readBallot 36 = .ok (.getfield 199, 3) := by decide +kernel
theorem dX12_readBallot_39 : decode cX12_readBallot 39 = .ok (.invokevirtual 230, 3) := by decide +kernel
theorem dX12_readBallot_42 : decode cX12_readBallot 42 = .ok (.aload_n 0, 1) := by decide +kernel
theorem dX12_readBallot_43 : decode cX12_readBallot 43 = .ok (.iload_n 1, 1) := by decide +kernel
theorem dX12_readBallot_44 : decode cX12_readBallot 44 = .ok (.invokevirtual 299, 3) := by decide +kernel
theorem dX12_readBallot_47 : decode cX12_readBallot 47 = .ok (.istore_n 1, 1) := by decide +kernel
theorem dX12_readBallot_48 : decode cX12_readBallot 48 = .ok (.aload_n 0, 1) := by decide +kernel
theorem dX12_readBallot_49 : decode cX12_readBallot 49 = .ok (.invokevirtual 234, 3) := by decide +kernel
theorem dX12_readBallot_52 : decode cX12_readBallot 52 = .ok (.ifCond .ne 4, 3) := by decide +kernel
theorem dX12_readBallot_55 : decode cX12_readBallot 55 = .ok (.return_, 1) := by decide +kernel
theorem dX12_readBallot_56 : decode cX12_readBallot 56 = .ok (.aload_n 0, 1) := by decide +kernel
theorem dX12_readBallot_57 : decode cX12_readBallot 57 = .ok (.getfield 49, 3) := by decide +kernel
theorem dX12_readBallot_60 : decode cX12_readBallot 60 = .ok (.bipush 8, 2) := by decide +kernel
theorem dX12_readBallot_62 : decode cX12_readBallot 62 = .ok (.aload_n 0, 1) := by decide +kernel
theorem dX12_readBallot_63 : decode cX12_readBallot 63 = .ok (.getfield 247, 3) := by decide +kernel
theorem dX12_readBallot_66 : decode cX12_readBallot 66 = .ok (.imul, 1) := by decide +kernel
theorem dX12_readBallot_67 : decode cX12_readBallot 67 = .ok (.iload_n 1, 1) := by decide +kernel
theorem dX12_readBallot_68 : decode cX12_readBallot 68 = .ok (.iadd, 1) := by decide +kernel
theorem dX12_readBallot_69 : decode cX12_readBallot 69 = .ok (.iconst 1, 1) := by decide +kernel
theorem dX12_readBallot_70 : decode cX12_readBallot 70 = .ok (.bastore, 1) := by decide +kernel
theorem dX12_readBallot_71 : decode cX12_readBallot 71 = .ok (.aload_n 0, 1) := by decide +kernel
theorem dX12_readBallot_72 : decode cX12_readBallot 72 = .ok (.getfield 30, 3) := by decide +kernel
theorem dX12_readBallot_75 : decode cX12_readBallot 75 = .ok (.aload_n 0, 1) := by decide +kernel
theorem dX12_readBallot_76 : decode cX12_readBallot 76 = .ok (.getfield 247, 3) := by decide +kernel
theorem dX12_readBallot_79 : decode cX12_readBallot 79 = .ok (.dup2, 1) := by decide +kernel
theorem dX12_readBallot_80 : decode cX12_readBallot 80 = .ok (.iaload, 1) := by decide +kernel
theorem dX12_readBallot_81 : decode cX12_readBallot 81 = .ok (.iconst 1, 1) := by decide +kernel
theorem dX12_readBallot_82 : decode cX12_readBallot 82 = .ok (.iadd, 1) := by decide +kernel
theorem dX12_readBallot_83 : decode cX12_readBallot 83 = .ok (.iastore, 1) := by decide +kernel
theorem dX12_readBallot_84 : decode cX12_readBallot 84 = .ok (.aload_n 0, 1) := by decide +kernel
theorem dX12_readBallot_85 : decode cX12_readBallot 85 = .ok (.bipush 80, 2) := by decide +kernel
theorem dX12_readBallot_87 : decode cX12_readBallot 87 = .ok (.aload_n 0, 1) := by decide +kernel
theorem dX12_readBallot_88 : decode cX12_readBallot 88 = .ok (.aload_n 0, 1) := by decide +kernel
theorem dX12_readBallot_89 : decode cX12_readBallot 89 = .ok (.getfield 247, 3) := by decide +kernel
theorem dX12_readBallot_92 : decode cX12_readBallot 92 = .ok (.iconst (-1), 1) := by decide +kernel
theorem dX12_readBallot_93 : decode cX12_readBallot 93 = .ok (.invokevirtual 301, 3) := by decide +kernel
theorem dX12_readBallot_96 : decode cX12_readBallot 96 = .ok (.isub, 1) := by decide +kernel
theorem dX12_readBallot_97 : decode cX12_readBallot 97 = .ok (.putfield 305, 3) := by decide +kernel
theorem dX12_readBallot_100 : decode cX12_readBallot 100 = .ok (.aload_n 0, 1) := by decide +kernel
theorem dX12_readBallot_101 : decode cX12_readBallot 101 = .ok (.bipush 8, 2) := by decide +kernel
theorem dX12_readBallot_103 : decode cX12_readBallot 103 = .ok (.aload_n 0, 1) := by decide +kernel
theorem dX12_readBallot_104 : decode cX12_readBallot 104 = .ok (.getfield 247, 3) := by decide +kernel
theorem dX12_readBallot_107 : decode cX12_readBallot 107 = .ok (.imul, 1) := by decide +kernel
theorem dX12_readBallot_108 : decode cX12_readBallot 108 = .ok (.iload_n 1, 1) := by decide +kernel
theorem dX12_readBallot_109 : decode cX12_readBallot 109 = .ok (.iadd, 1) := by decide +kernel
theorem dX12_readBallot_110 : decode cX12_readBallot 110 = .ok (.iload_n 1, 1) := by decide +kernel
theorem dX12_readBallot_111 : decode cX12_readBallot 111 = .ok (.invokevirtual 308, 3) := by decide +kernel
theorem dX12_readBallot_114 : decode cX12_readBallot 114 = .ok (.return_, 1) := by decide +kernel
theorem dX12_unitsBut_0 : decode cX12_unitsBut 0 = .ok (.iconst 0, 1) := by decide +kernel
theorem dX12_unitsBut_1 : decode cX12_unitsBut 1 = .ok (.istore_n 3, 1) := by decide +kernel
theorem dX12_unitsBut_2 : decode cX12_unitsBut 2 = .ok (.iconst 0, 1) := by decide +kernel
theorem dX12_unitsBut_3 : decode cX12_unitsBut 3 = .ok (.istore 4, 2) := by decide +kernel
theorem dX12_unitsBut_5 : decode cX12_unitsBut 5 = .ok (.iload 4, 2) := by decide +kernel
theorem dX12_unitsBut_7 : decode cX12_unitsBut 7 = .ok (.bipush 8, 2) := by decide +kernel
theorem dX12_unitsBut_9 : decode cX12_unitsBut 9 = .ok (.if_icmp .ge 34, 3) := by decide +kernel
theorem dX12_unitsBut_12 : decode cX12_unitsBut 12 = .ok (.iload_n 3, 1) := by decide +kernel
theorem dX12_unitsBut_13 : decode cX12_unitsBut 13 = .ok (.iload 4, 2) := by decide +kernel
theorem dX12_unitsBut_15 : decode cX12_unitsBut 15 = .ok (.iload_n 2, 1) := by decide +kernel
theorem dX12_unitsBut_16 : decode cX12_unitsBut 16 = .ok (.if_icmp .ne 7, 3) := by decide +kernel
theorem dX12_unitsBut_19 : decode cX12_unitsBut 19 = .ok (.iconst 0, 1) := by decide +kernel
theorem dX12_unitsBut_20 : decode cX12_unitsBut 20 = .ok (.goto 15, 3) := by decide +kernel
theorem dX12_unitsBut_23 : decode cX12_unitsBut 23 = .ok (.aload_n 0, 1) := by decide +kernel
theorem dX12_unitsBut_24 : decode cX12_unitsBut 24 = .ok (.getfield 56, 3) := by decide +kernel
theorem dX12_unitsBut_27 : decode cX12_unitsBut 27 = .ok (.bipush 8, 2) := by decide +kernel
theorem dX12_unitsBut_29 : decode cX12_unitsBut 29 = .ok (.iload_n 1, 1) := by decide +kernel
theorem dX12_unitsBut_30 : decode cX12_unitsBut 30 = .ok (.imul, 1) := by decide +kernel
theorem dX12_unitsBut_31 : decode cX12_unitsBut 31 = .ok (.iload 4, 2) := by decide +kernel
theorem dX12_unitsBut_33 : decode cX12_unitsBut 33 = .ok (.iadd, 1) := by decide +kernel
theorem dX12_unitsBut_34 : decode cX12_unitsBut 34 = .ok (.iaload, 1) := by decide +kernel
theorem dX12_unitsBut_35 : decode cX12_unitsBut 35 = .ok (.iadd, 1) := by decide +kernel
theorem dX12_unitsBut_36 : decode cX12_unitsBut 36 = .ok (.istore_n 3, 1) := by decide +kernel
theorem dX12_unitsBut_37 : decode cX12_unitsBut 37 = .ok (.iinc 4 1, 3) := by decide +kernel
theorem dX12_unitsBut_40 : decode cX12_unitsBut 40 = .ok (.goto (-35), 3) := by decide +kernel
theorem dX12_unitsBut_43 : decode cX12_unitsBut 43 = .ok (.iload_n 3, 1) := by decide +kernel
theorem dX12_unitsBut_44 : decode cX12_unitsBut 44 = .ok (.ireturn, 1) := by decide +kernel
theorem dX12_reword_0 : decode cX12_reword 0 = .ok (.aload_n 0, 1) := by decide +kernel
theorem dX12_reword_1 : decode cX12_reword 1 = .ok (.iload_n 1, 1) := by decide +kernel
theorem dX12_reword_2 : decode cX12_reword 2 = .ok (.invokevirtual 311, 3) := by decide +kernel
theorem dX12_reword_5 : decode cX12_reword 5 = .ok (.ifCond .ne 6, 3) := by decide +kernel
theorem dX12_reword_8 : decode cX12_reword 8 = .ok (.bipush (-2), 2) := by decide +kernel
theorem dX12_reword_10 : decode cX12_reword 10 = .ok (.ireturn, 1) := by decide +kernel
theorem dX12_reword_11 : decode cX12_reword 11 = .ok (.aload_n 0, 1) := by decide +kernel
theorem dX12_reword_12 : decode cX12_reword 12 = .ok (.invokevirtual 250, 3) := by decide +kernel
theorem dX12_reword_15 : decode cX12_reword 15 = .ok (.aload_n 0, 1) := by decide +kernel
theorem dX12_reword_16 : decode cX12_reword 16 = .ok (.aload_n 0, 1) := by decide +kernel
theorem dX12_reword_17 : decode cX12_reword 17 = .ok (.getfield 253, 3) := by decide +kernel
theorem dX12_reword_20 : decode cX12_reword 20 = .ok (.putfield 247, 3) := by decide +kernel
theorem dX12_reword_23 : decode cX12_reword 23 = .ok (.aload_n 0, 1) := by decide +kernel
theorem dX12_reword_24 : decode cX12_reword 24 = .ok (.bipush 80, 2) := by decide +kernel
theorem dX12_reword_26 : decode cX12_reword 26 = .ok (.aload_n 0, 1) := by decide +kernel
theorem dX12_reword_27 : decode cX12_reword 27 = .ok (.aload_n 0, 1) := by decide +kernel
theorem dX12_reword_28 : decode cX12_reword 28 = .ok (.getfield 253, 3) := by decide +kernel
theorem dX12_reword_31 : decode cX12_reword 31 = .ok (.iload_n 1, 1) := by decide +kernel
theorem dX12_reword_32 : decode cX12_reword 32 = .ok (.invokevirtual 301, 3) := by decide +kernel
theorem dX12_reword_35 : decode cX12_reword 35 = .ok (.isub, 1) := by decide +kernel
theorem dX12_reword_36 : decode cX12_reword 36 = .ok (.putfield 305, 3) := by decide +kernel
theorem dX12_reword_39 : decode cX12_reword 39 = .ok (.bipush 40, 2) := by decide +kernel
theorem dX12_reword_41 : decode cX12_reword 41 = .ok (.istore_n 2, 1) := by decide +kernel
theorem dX12_reword_42 : decode cX12_reword 42 = .ok (.aload_n 0, 1) := by decide +kernel
theorem dX12_reword_43 : decode cX12_reword 43 = .ok (.iload_n 2, 1) := by decide +kernel
theorem dX12_reword_44 : decode cX12_reword 44 = .ok (.iload_n 1, 1) := by decide +kernel
theorem dX12_reword_45 : decode cX12_reword 45 = .ok (.invokevirtual 308, 3) := by decide +kernel
theorem dX12_reword_48 : decode cX12_reword 48 = .ok (.aload_n 0, 1) := by decide +kernel
theorem dX12_reword_49 : decode cX12_reword 49 = .ok (.invokevirtual 234, 3) := by decide +kernel
theorem dX12_reword_52 : decode cX12_reword 52 = .ok (.ifCond .eq 14, 3) := by decide +kernel
theorem dX12_reword_55 : decode cX12_reword 55 = .ok (.aload_n 0, 1) := by decide +kernel
theorem dX12_reword_56 : decode cX12_reword 56 = .ok (.getfield 206, 3) := by decide +kernel
theorem dX12_reword_59 : decode cX12_reword 59 = .ok (.ifCond .eq 7, 3) := by decide +kernel
theorem dX12_reword_62 : decode cX12_reword 62 = .ok (.aload_n 0, 1) := by decide +kernel
theorem dX12_reword_63 : decode cX12_reword 63 = .ok (.invokevirtual 241, 3) := by decide +kernel
theorem dX12_reword_66 : decode cX12_reword 66 = .ok (.aload_n 0, 1) := by decide +kernel
theorem dX12_reword_67 : decode cX12_reword 67 = .ok (.invokevirtual 234, 3) := by decide +kernel
theorem dX12_reword_70 : decode cX12_reword 70 = .ok (.ifCond .ne 5, 3) := by decide +kernel
theorem dX12_reword_73 : decode cX12_reword 73 = .ok (.iconst (-1), 1) := by decide +kernel
theorem dX12_reword_74 : decode cX12_reword 74 = .ok (.ireturn, 1) := by decide +kernel
theorem dX12_reword_75 : decode cX12_reword 75 = .ok (.aload_n 0, 1) := by decide +kernel
theorem dX12_reword_76 : decode cX12_reword 76 = .ok (.iload_n 2, 1) := by decide +kernel
theorem dX12_reword_77 : decode cX12_reword 77 = .ok (.bipush 8, 2) := by decide +kernel
theorem dX12_reword_79 : decode cX12_reword 79 = .ok (.aload_n 0, 1) := by decide +kernel
theorem dX12_reword_80 : decode cX12_reword 80 = .ok (.getfield 253, 3) := by decide +kernel
theorem dX12_reword_83 : decode cX12_reword 83 = .ok (.imul, 1) := by decide +kernel
theorem dX12_reword_84 : decode cX12_reword 84 = .ok (.iload_n 1, 1) := by decide +kernel
theorem dX12_reword_85 : decode cX12_reword 85 = .ok (.iadd, 1) := by decide +kernel
theorem dX12_reword_86 : decode cX12_reword 86 = .ok (.invokevirtual 314, 3) := by decide +kernel
theorem dX12_reword_89 : decode cX12_reword 89 = .ok (.aload_n 0, 1) := by decide +kernel
theorem dX12_reword_90 : decode cX12_reword 90 = .ok (.invokevirtual 147, 3) := by decide +kernel
theorem dX12_reword_93 : decode cX12_reword 93 = .ok (.aload_n 0, 1) := by decide +kernel
theorem dX12_reword_94 : decode cX12_reword 94 = .ok (.aload_n 0, 1) := by decide +kernel
theorem dX12_reword_95 : decode cX12_reword 95 = .ok (.getfield 253, 3) := by decide +kernel
theorem dX12_reword_98 : decode cX12_reword 98 = .ok (.iconst (-1), 1) := by decide +kernel
theorem dX12_reword_99 : decode cX12_reword 99 = .ok (.invokevirtual 301, 3) := by decide +kernel
theorem dX12_reword_102 : decode cX12_reword 102 = .ok (.ireturn, 1) := by decide +kernel
theorem dX12_copyBallot_0 : decode cX12_copyBallot 0 = .ok (.aload_n 0, 1) := by decide +kernel
theorem dX12_copyBallot_1 : decode cX12_copyBallot 1 = .ok (.getfield 53, 3) := by decide +kernel
theorem dX12_copyBallot_4 : decode cX12_copyBallot 4 = .ok (.iload_n 2, 1) := by decide +kernel
theorem dX12_copyBallot_5 : decode cX12_copyBallot 5 = .ok (.aload_n 0, 1) := by decide +kernel
theorem dX12_copyBallot_6 : decode cX12_copyBallot 6 = .ok (.getfield 53, 3) := by decide +kernel
theorem dX12_copyBallot_9 : decode cX12_copyBallot 9 = .ok (.iload_n 1, 1) := by decide +kernel
theorem dX12_copyBallot_10 : decode cX12_copyBallot 10 = .ok (.iaload, 1) := by decide +kernel
theorem dX12_copyBallot_11 : decode cX12_copyBallot 11 = .ok (.iastore, 1) := by decide +kernel
theorem dX12_copyBallot_12 : decode cX12_copyBallot 12 = .ok (.aload_n 0, 1) := by decide +kernel
theorem dX12_copyBallot_13 : decode cX12_copyBallot 13 = .ok (.getfield 56, 3) := by decide +kernel
theorem dX12_copyBallot_16 : decode cX12_copyBallot 16 = .ok (.iload_n 2, 1) := by decide +kernel
theorem dX12_copyBallot_17 : decode cX12_copyBallot 17 = .ok (.aload_n 0, 1) := by decide +kernel
theorem dX12_copyBallot_18 : decode cX12_copyBallot 18 = .ok (.getfield 56, 3) := by decide +kernel
theorem dX12_copyBallot_21 : decode cX12_copyBallot 21 = .ok (.iload_n 1, 1) := by decide +kernel
theorem dX12_copyBallot_22 : decode cX12_copyBallot 22 = .ok (.iaload, 1) := by decide +kernel
theorem dX12_copyBallot_23 : decode cX12_copyBallot 23 = .ok (.iastore, 1) := by decide +kernel
theorem dX12_copyBallot_24 : decode cX12_copyBallot 24 = .ok (.iconst 0, 1) := by decide +kernel
theorem dX12_copyBallot_25 : decode cX12_copyBallot 25 = .ok (.istore_n 3, 1) := by decide +kernel
theorem dX12_copyBallot_26 : decode cX12_copyBallot 26 = .ok (.iload_n 3, 1) := by decide +kernel
theorem dX12_copyBallot_27 : decode cX12_copyBallot 27 = .ok (.aload_n 0, 1) := by decide +kernel
theorem dX12_copyBallot_28 : decode cX12_copyBallot 28 = .ok (.getfield 53, 3) := by decide +kernel
theorem dX12_copyBallot_31 : decode cX12_copyBallot 31 = .ok (.iload_n 1, 1) := by decide +kernel
theorem dX12_copyBallot_32 : decode cX12_copyBallot 32 = .ok (.iaload, 1) := by decide +kernel
theorem dX12_copyBallot_33 : decode cX12_copyBallot 33 = .ok (.if_icmp .ge 81, 3) := by decide +kernel
theorem dX12_copyBallot_36 : decode cX12_copyBallot 36 = .ok (.aload_n 0, 1) := by decide +kernel
theorem dX12_copyBallot_37 : decode cX12_copyBallot 37 = .ok (.getfield 59, 3) := by decide +kernel
theorem dX12_copyBallot_40 : decode cX12_copyBallot 40 = .ok (.sipush 640, 3) := by decide +kernel
theorem dX12_copyBallot_43 : decode cX12_copyBallot 43 = .ok (.iload_n 2, 1) := by decide +kernel
theorem dX12_copyBallot_44 : decode cX12_copyBallot 44 = .ok (.imul, 1) := by decide +kernel
theorem dX12_copyBallot_45 : decode cX12_copyBallot 45 = .ok (.iload_n 3, 1) := by decide +kernel
theorem dX12_copyBallot_46 : decode cX12_copyBallot 46 = .ok (.iadd, 1) := by decide +kernel
theorem dX12_copyBallot_47 : decode cX12_copyBallot 47 = .ok (.aload_n 0, 1) := by decide +kernel
theorem dX12_copyBallot_48 : decode cX12_copyBallot 48 = .ok (.getfield 59, 3) := by decide +kernel
theorem dX12_copyBallot_51 : decode cX12_copyBallot 51 = .ok (.sipush 640, 3) := by decide +kernel
theorem dX12_copyBallot_54 : decode cX12_copyBallot 54 = .ok (.iload_n 1, 1) := by decide +kernel
theorem dX12_copyBallot_55 : decode cX12_copyBallot 55 = .ok (.imul, 1) := by decide +kernel
theorem dX12_copyBallot_56 : decode cX12_copyBallot 56 = .ok (.iload_n 3, 1) := by decide +kernel
theorem dX12_copyBallot_57 : decode cX12_copyBallot 57 = .ok (.iadd, 1) := by decide +kernel
theorem dX12_copyBallot_58 : decode cX12_copyBallot 58 = .ok (.iaload, 1) := by decide +kernel
theorem dX12_copyBallot_59 : decode cX12_copyBallot 59 = .ok (.iastore, 1) := by decide +kernel
theorem dX12_copyBallot_60 : decode cX12_copyBallot 60 = .ok (.aload_n 0, 1) := by decide +kernel
theorem dX12_copyBallot_61 : decode cX12_copyBallot 61 = .ok (.getfield 62, 3) := by decide +kernel
theorem dX12_copyBallot_64 : decode cX12_copyBallot 64 = .ok (.sipush 640, 3) := by decide +kernel
theorem dX12_copyBallot_67 : decode cX12_copyBallot 67 = .ok (.iload_n 2, 1) := by decide +kernel
theorem dX12_copyBallot_68 : decode cX12_copyBallot 68 = .ok (.imul, 1) := by decide +kernel
theorem dX12_copyBallot_69 : decode cX12_copyBallot 69 = .ok (.iload_n 3, 1) := by decide +kernel
theorem dX12_copyBallot_70 : decode cX12_copyBallot 70 = .ok (.iadd, 1) := by decide +kernel
theorem dX12_copyBallot_71 : decode cX12_copyBallot 71 = .ok (.aload_n 0, 1) := by decide +kernel
theorem dX12_copyBallot_72 : decode cX12_copyBallot 72 = .ok (.getfield 62, 3) := by decide +kernel
theorem dX12_copyBallot_75 : decode cX12_copyBallot 75 = .ok (.sipush 640, 3) := by decide +kernel
theorem dX12_copyBallot_78 : decode cX12_copyBallot 78 = .ok (.iload_n 1, 1) := by decide +kernel
theorem dX12_copyBallot_79 : decode cX12_copyBallot 79 = .ok (.imul, 1) := by decide +kernel
theorem dX12_copyBallot_80 : decode cX12_copyBallot 80 = .ok (.iload_n 3, 1) := by decide +kernel
theorem dX12_copyBallot_81 : decode cX12_copyBallot 81 = .ok (.iadd, 1) := by decide +kernel
theorem dX12_copyBallot_82 : decode cX12_copyBallot 82 = .ok (.iaload, 1) := by decide +kernel
theorem dX12_copyBallot_83 : decode cX12_copyBallot 83 = .ok (.iastore, 1) := by decide +kernel
theorem dX12_copyBallot_84 : decode cX12_copyBallot 84 = .ok (.aload_n 0, 1) := by decide +kernel
theorem dX12_copyBallot_85 : decode cX12_copyBallot 85 = .ok (.getfield 65, 3) := by decide +kernel
theorem dX12_copyBallot_88 : decode cX12_copyBallot 88 = .ok (.sipush 640, 3) := by decide +kernel
theorem dX12_copyBallot_91 : decode cX12_copyBallot 91 = .ok (.iload_n 2, 1) := by decide +kernel
theorem dX12_copyBallot_92 : decode cX12_copyBallot 92 = .ok (.imul, 1) := by decide +kernel
theorem dX12_copyBallot_93 : decode cX12_copyBallot 93 = .ok (.iload_n 3, 1) := by decide +kernel
theorem dX12_copyBallot_94 : decode cX12_copyBallot 94 = .ok (.iadd, 1) := by decide +kernel
theorem dX12_copyBallot_95 : decode cX12_copyBallot 95 = .ok (.aload_n 0, 1) := by decide +kernel
theorem dX12_copyBallot_96 : decode cX12_copyBallot 96 = .ok (.getfield 65, 3) := by decide +kernel
theorem dX12_copyBallot_99 : decode cX12_copyBallot 99 = .ok (.sipush 640, 3) := by decide +kernel
theorem dX12_copyBallot_102 : decode cX12_copyBallot 102 = .ok (.iload_n 1, 1) := by decide +kernel
theorem dX12_copyBallot_103 : decode cX12_copyBallot 103 = .ok (.imul, 1) := by decide +kernel
theorem dX12_copyBallot_104 : decode cX12_copyBallot 104 = .ok (.iload_n 3, 1) := by decide +kernel
theorem dX12_copyBallot_105 : decode cX12_copyBallot 105 = .ok (.iadd, 1) := by decide +kernel
theorem dX12_copyBallot_106 : decode cX12_copyBallot 106 = .ok (.iaload, 1) := by decide +kernel
theorem dX12_copyBallot_107 : decode cX12_copyBallot 107 = .ok (.iastore, 1) := by decide +kernel
theorem dX12_copyBallot_108 : decode cX12_copyBallot 108 = .ok (.iinc 3 1, 3) := by decide +kernel
theorem dX12_copyBallot_111 : decode cX12_copyBallot 111 = .ok (.goto (-85), 3) := by decide +kernel
theorem dX12_copyBallot_114 : decode cX12_copyBallot 114 = .ok (.return_, 1) := by decide +kernel
theorem dX12_emit_0 : decode cX12_emit 0 = .ok (.sipush 640, 3) := by decide +kernel
theorem dX12_emit_3 : decode cX12_emit 3 = .ok (.aload_n 0, 1) := by decide +kernel
theorem dX12_emit_4 : decode cX12_emit 4 = .ok (.getfield 317, 3) := by decide +kernel
theorem dX12_emit_7 : decode cX12_emit 7 = .ok (.imul, 1) := by decide +kernel
theorem dX12_emit_8 : decode cX12_emit 8 = .ok (.aload_n 0, 1) := by decide +kernel
theorem dX12_emit_9 : decode cX12_emit 9 = .ok (.getfield 53, 3) := by decide +kernel
theorem dX12_emit_12 : decode cX12_emit 12 = .ok (.aload_n 0, 1) := by decide +kernel
theorem dX12_emit_13 : decode cX12_emit 13 = .ok (.getfield 317, 3) := by decide +kernel
theorem dX12_emit_16 : decode cX12_emit 16 = .ok (.iaload, 1) := by decide +kernel
theorem dX12_emit_17 : decode cX12_emit 17 = .ok (.iadd, 1) := by decide +kernel
theorem dX12_emit_18 : decode cX12_emit 18 = .ok (.istore 4, 2) := by decide +kernel
theorem dX12_emit_20 : decode cX12_emit 20 = .ok (.aload_n 0, 1) := by decide +kernel
theorem dX12_emit_21 : decode cX12_emit 21 = .ok (.getfield 59, 3) := by decide +kernel
theorem dX12_emit_24 : decode cX12_emit 24 = .ok (.iload 4, 2) := by decide +kernel
theorem dX12_emit_26 : decode cX12_emit 26 = .ok (.iload_n 1, 1) := by decide +kernel
theorem dX12_emit_27 : decode cX12_emit 27 = .ok (.iastore, 1) := by decide +kernel
theorem dX12_emit_28 : decode cX12_emit 28 = .ok (.aload_n 0, 1) := by decide +kernel
theorem dX12_emit_29 : decode cX12_emit 29 = .ok (.getfield 62, 3) := by decide +kernel
theorem dX12_emit_32 : decode cX12_emit 32 = .ok (.iload 4, 2) := by decide +kernel
theorem dX12_emit_34 : decode cX12_emit 34 = .ok (.iload_n 2, 1) := by decide +kernel
theorem dX12_emit_35 : decode cX12_emit 35 = .ok (.iastore, 1) := by decide +kernel
theorem dX12_emit_36 : decode cX12_emit 36 = .ok (.aload_n 0, 1) := by decide +kernel
theorem dX12_emit_37 : decode cX12_emit 37 = .ok (.getfield 65, 3) := by decide +kernel
theorem dX12_emit_40 : decode cX12_emit 40 = .ok (.iload 4, 2) := by decide +kernel
theorem dX12_emit_42 : decode cX12_emit 42 = .ok (.iload_n 3, 1) := by decide +kernel
theorem dX12_emit_43 : decode cX12_emit 43 = .ok (.iastore, 1) := by decide +kernel
theorem dX12_emit_44 : decode cX12_emit 44 = .ok (.aload_n 0, 1) := by decide +kernel
theorem dX12_emit_45 : decode cX12_emit 45 = .ok (.getfield 53, 3) := by decide +kernel
theorem dX12_emit_48 : decode cX12_emit 48 = .ok (.aload_n 0, 1) := by decide +kernel
theorem dX12_emit_49 : decode cX12_emit 49 = .ok (.getfield 317, 3) := by decide +kernel
theorem dX12_emit_52 : decode cX12_emit 52 = .ok (.dup2, 1) := by decide +kernel
theorem dX12_emit_53 : decode cX12_emit 53 = .ok (.iaload, 1) := by decide +kernel
theorem dX12_emit_54 : decode cX12_emit 54 = .ok (.iconst 1, 1) := by decide +kernel
theorem dX12_emit_55 : decode cX12_emit 55 = .ok (.iadd, 1) := by decide +kernel
theorem dX12_emit_56 : decode cX12_emit 56 = .ok (.iastore, 1) := by decide +kernel
theorem dX12_emit_57 : decode cX12_emit 57 = .ok (.return_, 1) := by decide +kernel
theorem dX12_counts_0 : decode cX12_counts 0 = .ok (.aload_n 0, 1) := by decide +kernel
theorem dX12_counts_1 : decode cX12_counts 1 = .ok (.getfield 56, 3) := by decide +kernel
theorem dX12_counts_4 : decode cX12_counts 4 = .ok (.aload_n 0, 1) := by decide +kernel
theorem dX12_counts_5 : decode cX12_counts 5 = .ok (.getfield 317, 3) := by decide +kernel
theorem dX12_counts_8 : decode cX12_counts 8 = .ok (.iaload, 1) := by decide +kernel
theorem dX12_counts_9 : decode cX12_counts 9 = .ok (.aload_n 0, 1) := by decide +kernel
theorem dX12_counts_10 : decode cX12_counts 10 = .ok (.getfield 305, 3) := by decide +kernel
theorem dX12_counts_13 : decode cX12_counts 13 = .ok (.if_icmp .ne 7, 3) := by decide +kernel
theorem dX12_counts_16 : decode cX12_counts 16 = .ok (.aload_n 0, 1) := by decide +kernel
theorem dX12_counts_17 : decode cX12_counts 17 = .ok (.invokevirtual 241, 3) := by decide +kernel
theorem dX12_counts_20 : decode cX12_counts 20 = .ok (.aload_n 0, 1) := by decide +kernel
theorem dX12_counts_21 : decode cX12_counts 21 = .ok (.invokevirtual 234, 3) := by decide +kernel
theorem dX12_counts_24 : decode cX12_counts 24 = .ok (.ifCond .ne 5, 3) := by decide +kernel
theorem dX12_counts_27 : decode cX12_counts 27 = .ok (.iconst 0, 1) := by decide +kernel
theorem dX12_counts_28 : decode cX12_counts 28 = .ok (.ireturn, 1) := by decide +kernel
theorem dX12_counts_29 : decode cX12_counts 29 = .ok (.aload_n 0, 1) := by decide +kernel
theorem dX12_counts_30 : decode cX12_counts 30 = .ok (.getfield 56, 3) := by decide +kernel
theorem dX12_counts_33 : decode cX12_counts 33 = .ok (.aload_n 0, 1) := by decide +kernel
theorem dX12_counts_34 : decode cX12_counts 34 = .ok (.getfield 317, 3) := by decide +kernel
theorem dX12_counts_37 : decode cX12_counts 37 = .ok (.dup2, 1) := by decide +kernel
theorem dX12_counts_38 : decode cX12_counts 38 = .ok (.iaload, 1) := by decide +kernel
theorem dX12_counts_39 : decode cX12_counts 39 = .ok (.iconst 1, 1) := by decide +kernel
theorem dX12_counts_40 : decode cX12_counts 40 = .ok (.iadd, 1) := by decide +kernel
theorem dX12_counts_41 : decode cX12_counts 41 = .ok (.iastore, 1) := by decide +kernel
theorem dX12_counts_42 : decode cX12_counts 42 = .ok (.iconst 1, 1) := by decide +kernel
theorem dX12_counts_43 : decode cX12_counts 43 = .ok (.ireturn, 1) := by decide +kernel
theorem dX12_readE_0 : decode cX12_readE 0 = .ok (.aload_n 0, 1) := by decide +kernel
theorem dX12_readE_1 : decode cX12_readE 1 = .ok (.iload_n 1, 1) := by decide +kernel
theorem dX12_readE_2 : decode cX12_readE 2 = .ok (.putfield 317, 3) := by decide +kernel
theorem dX12_readE_5 : decode cX12_readE 5 = .ok (.aload_n 0, 1) := by decide +kernel
theorem dX12_readE_6 : decode cX12_readE 6 = .ok (.iload_n 2, 1) := by decide +kernel
theorem dX12_readE_7 : decode cX12_readE 7 = .ok (.putfield 320, 3) := by decide +kernel
theorem dX12_readE_10 : decode cX12_readE 10 = .ok (.aload_n 0, 1) := by decide +kernel
theorem dX12_readE_11 : decode cX12_readE 11 = .ok (.getfield 53, 3) := by decide +kernel
theorem dX12_readE_14 : decode cX12_readE 14 = .ok (.iload_n 1, 1) := by decide +kernel
theorem dX12_readE_15 : decode cX12_readE 15 = .ok (.iconst 0, 1) := by decide +kernel
theorem dX12_readE_16 : decode cX12_readE 16 = .ok (.iastore, 1) := by decide +kernel
theorem dX12_readE_17 : decode cX12_readE 17 = .ok (.aload_n 0, 1) := by decide +kernel
theorem dX12_readE_18 : decode cX12_readE 18 = .ok (.getfield 56, 3) := by decide +kernel
theorem dX12_readE_21 : decode cX12_readE 21 = .ok (.iload_n 1, 1) := by decide +kernel
theorem dX12_readE_22 : decode cX12_readE 22 = .ok (.iconst 0, 1) := by decide +kernel
theorem dX12_readE_23 : decode cX12_readE 23 = .ok (.iastore, 1) := by decide +kernel
theorem dX12_readE_24 : decode cX12_readE 24 = .ok (.aload_n 0, 1) := by decide +kernel
theorem dX12_readE_25 : decode cX12_readE 25 = .ok (.iconst 0, 1) := by decide +kernel
theorem dX12_readE_26 : decode cX12_readE 26 = .ok (.putfield 323, 3) := by decide +kernel
theorem dX12_readE_29 : decode cX12_readE 29 = .ok (.aload_n 0, 1) := by decide +kernel
theorem dX12_readE_30 : decode cX12_readE 30 = .ok (.iconst 0, 1) := by decide +kernel
theorem dX12_readE_31 : decode cX12_readE 31 = .ok (.putfield 326, 3) := by decide +kernel
theorem dX12_readE_34 : decode cX12_readE 34 = .ok (.iconst 1, 1) := by decide +kernel
theorem dX12_readE_35 : decode cX12_readE 35 = .ok (.istore_n 3, 1) := by decide +kernel
theorem dX12_readE_36 : decode cX12_readE 36 = .ok (.aload_n 0, 1) := by decide +kernel
theorem dX12_readE_37 : decode cX12_readE 37 = .ok (.invokevirtual 234, 3) := by decide +kernel
theorem dX12_readE_40 : decode cX12_readE 40 = .ok (.ifCond .eq 51, 3) := by decide +kernel
theorem dX12_readE_43 : decode cX12_readE 43 = .ok (.iload_n 3, 1) := by decide +kernel
theorem dX12_readE_44 : decode cX12_readE 44 = .ok (.ifCond .eq 47, 3) := by decide +kernel
theorem dX12_readE_47 : decode cX12_readE 47 = .ok (.aload_n 0, 1) := by decide +kernel
theorem dX12_readE_48 : decode cX12_readE 48 = .ok (.ldc2_w 168, 3) := by decide +kernel
theorem dX12_readE_51 : decode cX12_readE 51 = .ok (.invokevirtual 262, 3) := by decide +kernel
theorem dX12_readE_54 : decode cX12_readE 54 = .ok (.ifCond .eq 10, 3) := by decide +kernel
theorem dX12_readE_57 : decode cX12_readE 57 = .ok (.aload_n 0, 1) := by decide +kernel
theorem dX12_readE_58 : decode cX12_readE 58 = .ok (.invokevirtual 329, 3) := by decide +kernel
theorem dX12_readE_61 : decode cX12_readE 61 = .ok (.goto (-25), 3) := by decide +kernel
theorem dX12_readE_64 : decode cX12_readE 64 = .ok (.aload_n 0, 1) := by decide +kernel
theorem dX12_readE_65 : decode cX12_readE 65 = .ok (.invokevirtual 332, 3) := by decide +kernel
theorem dX12_readE_68 : decode cX12_readE 68 = .ok (.aload_n 0, 1) := by decide +kernel
theorem dX12_readE_69 : decode cX12_readE 69 = .ok (.invokevirtual 234, 3) := by decide +kernel
theorem dX12_readE_72 : decode cX12_readE 72 = .ok (.ifCond .eq 14, 3) := by decide +kernel
theorem dX12_readE_75 : decode cX12_readE 75 = .ok (.aload_n 0, 1) := by decide +kernel
theorem dX12_readE_76 : decode cX12_readE 76 = .ok (.invokevirtual 335, 3) := by decide +kernel
theorem dX12_readE_79 : decode cX12_readE 79 = .ok (.ifCond .eq 7, 3) := by decide +kernel
theorem dX12_readE_82 : decode cX12_readE 82 = .ok (.iconst 1, 1) := by decide +kernel
theorem dX12_readE_83 : decode cX12_readE 83 = .ok (.goto 4, 3) := by decide +kernel
theorem dX12_readE_86 : decode cX12_readE 86 = .ok (.iconst 0, 1) := by decide +kernel
theorem dX12_readE_87 : decode cX12_readE 87 = .ok (.istore_n 3, 1) := by decide +kernel
theorem dX12_readE_88 : decode cX12_readE 88 = .ok (.goto (-52), 3) := by decide +kernel
theorem dX12_readE_91 : decode cX12_readE 91 = .ok (.return_, 1) := by decide +kernel
theorem dX12_readIf_0 : decode cX12_readIf 0 = .ok (.aload_n 0, 1) := by decide +kernel
theorem dX12_readIf_1 : decode cX12_readIf 1 = .ok (.getfield 323, 3) := by decide +kernel
theorem dX12_readIf_4 : decode cX12_readIf 4 = .ok (.bipush 7, 2) := by decide +kernel
theorem dX12_readIf_6 : decode cX12_readIf 6 = .ok (.if_icmp .ne 7, 3) := by decide +kernel
theorem dX12_readIf_9 : decode cX12_readIf 9 = .ok (.aload_n 0, 1) := by decide +kernel
theorem dX12_readIf_10 : decode cX12_readIf 10 = .ok (.invokevirtual 241, 3) := by decide +kernel
theorem dX12_readIf_13 : decode cX12_readIf 13 = .ok (.aload_n 0, 1) := by decide +kernel
theorem dX12_readIf_14 : decode cX12_readIf 14 = .ok (.invokevirtual 234, 3) := by decide +kernel
theorem dX12_readIf_17 : decode cX12_readIf 17 = .ok (.ifCond .ne 4, 3) := by decide +kernel
theorem dX12_readIf_20 : decode cX12_readIf 20 = .ok (.return_, 1) := by decide +kernel
theorem dX12_readIf_21 : decode cX12_readIf 21 = .ok (.aload_n 0, 1) := by decide +kernel
theorem dX12_readIf_22 : decode cX12_readIf 22 = .ok (.invokevirtual 238, 3) := by decide +kernel
theorem dX12_readIf_25 : decode cX12_readIf 25 = .ok (.aload_n 0, 1) := by decide +kernel
theorem dX12_readIf_26 : decode cX12_readIf 26 = .ok (.dup, 1) := by decide +kernel
theorem dX12_readIf_27 : decode cX12_readIf 27 = .ok (.getfield 323, 3) := by decide +kernel
theorem dX12_readIf_30 : decode cX12_readIf 30 = .ok (.iconst 1, 1) := by decide +kernel
theorem dX12_readIf_31 : decode cX12_readIf 31 = .ok (.iadd, 1) := by decide +kernel
theorem dX12_readIf_32 : decode cX12_readIf 32 = .ok (.putfield 323, 3) := by decide +kernel
theorem dX12_readIf_35 : decode cX12_readIf 35 = .ok (.aload_n 0, 1) := by decide +kernel
theorem dX12_readIf_36 : decode cX12_readIf 36 = .ok (.invokevirtual 338, 3) := by decide +kernel
theorem dX12_readIf_39 : decode cX12_readIf 39 = .ok (.aload_n 0, 1) := by decide +kernel
theorem dX12_readIf_40 : decode cX12_readIf 40 = .ok (.aload_n 0, 1) := by decide +kernel
theorem dX12_readIf_41 : decode cX12_readIf 41 = .ok (.ldc2_w 170, 3) := by decide +kernel
theorem dX12_readIf_44 : decode cX12_readIf 44 = .ok (.invokevirtual 262, 3) := by decide +kernel
theorem dX12_readIf_47 : decode cX12_readIf 47 = .ok (.invokevirtual 288, 3) := by decide +kernel
theorem dX12_readIf_50 : decode cX12_readIf 50 = .ok (.aload_n 0, 1) := by decide +kernel
theorem dX12_readIf_51 : decode cX12_readIf 51 = .ok (.getfield 74, 3) := by decide +kernel
theorem dX12_readIf_54 : decode cX12_readIf 54 = .ok (.aload_n 0, 1) := by decide +kernel
theorem dX12_readIf_55 : decode cX12_readIf 55 = .ok (.getfield 326, 3) := by decide +kernel
theorem dX12_readIf_58 : decode cX12_readIf 58 = .ok (.aload_n 0, 1) := by decide +kernel
theorem dX12_readIf_59 : decode cX12_readIf 59 = .ok (.getfield 53, 3) := by decide +kernel
theorem dX12_readIf_62 : decode cX12_readIf 62 = .ok (.aload_n 0, 1) := by decide +kernel
theorem dX12_readIf_63 : decode cX12_readIf 63 = .ok (.getfield 317, 3) := by decide +kernel
theorem dX12_readIf_66 : decode cX12_readIf 66 = .ok (.iaload, 1) := by decide +kernel
theorem dX12_readIf_67 : decode cX12_readIf 67 = .ok (.iastore, 1) := by decide +kernel
theorem dX12_readIf_68 : decode cX12_readIf 68 = .ok (.aload_n 0, 1) := by decide +kernel
theorem dX12_readIf_69 : decode cX12_readIf 69 = .ok (.getfield 77, 3) := by decide +kernel
theorem dX12_readIf_72 : decode cX12_readIf 72 = .ok (.aload_n 0, 1) := by decide +kernel
theorem dX12_readIf_73 : decode cX12_readIf 73 = .ok (.getfield 326, 3) := by decide +kernel
theorem dX12_readIf_76 : decode cX12_readIf 76 = .ok (.iconst 0, 1) := by decide +kernel
theorem dX12_readIf_77 : decode cX12_readIf 77 = .ok (.iastore, 1) := by decide +kernel
theorem dX12_readIf_78 : decode cX12_readIf 78 = .ok (.aload_n 0, 1) := by decide +kernel
theorem dX12_readIf_79 : decode cX12_readIf 79 = .ok (.dup, 1) := by decide +kernel
theorem dX12_readIf_80 : decode cX12_readIf 80 = .ok (.getfield 326, 3) := by decide +kernel
theorem dX12_readIf_83 : decode cX12_readIf 83 = .ok (.iconst 1, 1) := by decide +kernel
theorem dX12_readIf_84 : decode cX12_readIf 84 = .ok (.iadd, 1) := by decide +kernel
theorem dX12_readIf_85 : decode cX12_readIf 85 = .ok (.putfield 326, 3) := by decide +kernel
theorem dX12_readIf_88 : decode cX12_readIf 88 = .ok (.aload_n 0, 1) := by decide +kernel
theorem dX12_readIf_89 : decode cX12_readIf 89 = .ok (.invokevirtual 234, 3) := by decide +kernel
theorem dX12_readIf_92 : decode cX12_readIf 92 = .ok (.ifCond .eq 10, 3) := by decide +kernel
theorem dX12_readIf_95 : decode cX12_readIf 95 = .ok (.aload_n 0, 1) := by decide +kernel
theorem dX12_readIf_96 : decode cX12_readIf 96 = .ok (.iconst 5, 1) := by decide +kernel
theorem dX12_readIf_97 : decode cX12_readIf 97 = .ok (.iconst 0, 1) := by decide +kernel
theorem dX12_readIf_98 : decode cX12_readIf 98 = .ok (.iconst 0, 1) := by decide +kernel
theorem dX12_readIf_99 : decode cX12_readIf 99 = .ok (.invokevirtual 341, 3) := by decide +kernel
theorem dX12_readIf_102 : decode cX12_readIf 102 = .ok (.return_, 1) := by decide +kernel
theorem dX12_goesOn_0 : decode cX12_goesOn 0 = .ok (.aload_n 0, 1) := by decide +kernel
theorem dX12_goesOn_1 : decode cX12_goesOn 1 = .ok (.getfield 326, 3) := by decide +kernel
theorem dX12_goesOn_4 : decode cX12_goesOn 4 = .ok (.ifCond .le 102, 3) := by decide +kernel
theorem dX12_goesOn_7 : decode cX12_goesOn 7 = .ok (.aload_n 0, 1) := by decide +kernel
theorem dX12_goesOn_8 : decode cX12_goesOn 8 = .ok (.getfield 77, 3) := by decide +kernel
theorem dX12_goesOn_11 : decode cX12_goesOn 11 = .ok (.aload_n 0, 1) := by decide +kernel
theorem dX12_goesOn_12 : decode cX12_goesOn 12 = .ok (.getfield 326, 3) := by decide +kernel
theorem dX12_goesOn_15 : decode cX12_goesOn 15 = .ok (.iconst 1, 1) := by decide +kernel
theorem dX12_goesOn_16 : decode cX12_goesOn 16 = .ok (.isub, 1) := by decide +kernel
theorem dX12_goesOn_17 : decode cX12_goesOn 17 = .ok (.iaload, 1) := by decide +kernel
theorem dX12_goesOn_18 : decode cX12_goesOn 18 = .ok (.ifCond .ne 65, 3) := by decide +kernel
theorem dX12_goesOn_21 : decode cX12_goesOn 21 = .ok (.aload_n 0, 1) := by decide +kernel
theorem dX12_goesOn_22 : decode cX12_goesOn 22 = .ok (.aload_n 0, 1) := by decide +kernel
theorem dX12_goesOn_23 : decode cX12_goesOn 23 = .ok (.ldc2_w 172, 3) := by decide +kernel
theorem dX12_goesOn_26 : decode cX12_goesOn 26 = .ok (.invokevirtual 262, 3) := by decide +kernel
theorem dX12_goesOn_29 : decode cX12_goesOn 29 = .ok (.invokevirtual 288, 3) := by decide +kernel
theorem dX12_goesOn_32 : decode cX12_goesOn 32 = .ok (.aload_n 0, 1) := by decide +kernel
theorem dX12_goesOn_33 : decode cX12_goesOn 33 = .ok (.getfield 62, 3) := by decide +kernel
theorem dX12_goesOn_36 : decode cX12_goesOn 36 = .ok (.sipush 640, 3) := by decide +kernel
theorem dX12_goesOn_39 : decode cX12_goesOn 39 = .ok (.aload_n 0, 1) := by decide +kernel
theorem dX12_goesOn_40 : decode cX12_goesOn 40 = .ok (.getfield 317, 3) := by decide +kernel
theorem dX12_goesOn_43 : decode cX12_goesOn 43 = .ok (.imul, 1) := by decide +kernel
theorem dX12_goesOn_44 : decode cX12_goesOn 44 = .ok (.aload_n 0, 1) := by decide +kernel
theorem dX12_goesOn_45 : decode cX12_goesOn 45 = .ok (.getfield 74, 3) := by decide +kernel
theorem dX12_goesOn_48 : decode cX12_goesOn 48 = .ok (.aload_n 0, 1) := by decide +kernel
theorem dX12_goesOn_49 : decode cX12_goesOn 49 = .ok (.getfield 326, 3) := by decide +kernel
theorem dX12_goesOn_52 : decode cX12_goesOn 52 = .ok (.iconst 1, 1) := by decide +kernel
theorem dX12_goesOn_53 : decode cX12_goesOn 53 = .ok (.isub, 1) := by decide +kernel
theorem dX12_goesOn_54 : decode cX12_goesOn 54 = .ok (.iaload, 1) := by decide +kernel
theorem dX12_goesOn_55 : decode cX12_goesOn 55 = .ok (.iadd, 1) := by decide +kernel
theorem dX12_goesOn_56 : decode cX12_goesOn 56 = .ok (.aload_n 0, 1) := by decide +kernel
theorem dX12_goesOn_57 : decode cX12_goesOn 57 = .ok (.getfield 53, 3) := by decide +kernel
theorem dX12_goesOn_60 : decode cX12_goesOn 60 = .ok (.aload_n 0, 1) := by decide +kernel
theorem dX12_goesOn_61 : decode cX12_goesOn 61 = .ok (.getfield 317, 3) := by decide +kernel
theorem dX12_goesOn_64 : decode cX12_goesOn 64 = .ok (.iaload, 1) := by decide +kernel
theorem dX12_goesOn_65 : decode cX12_goesOn 65 = .ok (.iastore, 1) := by decide +kernel
theorem dX12_goesOn_66 : decode cX12_goesOn 66 = .ok (.aload_n 0, 1) := by decide +kernel
theorem dX12_goesOn_67 : decode cX12_goesOn 67 = .ok (.getfield 77, 3) := by decide +kernel
theorem dX12_goesOn_70 : decode cX12_goesOn 70 = .ok (.aload_n 0, 1) := by decide +kernel
theorem dX12_goesOn_71 : decode cX12_goesOn 71 = .ok (.getfield 326, 3) := by decide +kernel
theorem dX12_goesOn_74 : decode cX12_goesOn 74 = .ok (.iconst 1, 1) := by decide +kernel
theorem dX12_goesOn_75 : decode cX12_goesOn 75 = .ok (.isub, 1) := by decide +kernel
theorem dX12_goesOn_76 : decode cX12_goesOn 76 = .ok (.iconst 1, 1) := by decide +kernel
theorem dX12_goesOn_77 : decode cX12_goesOn 77 = .ok (.iastore, 1) := by decide +kernel
theorem dX12_goesOn_78 : decode cX12_goesOn 78 = .ok (.aload_n 0, 1) := by decide +kernel
theorem dX12_goesOn_79 : decode cX12_goesOn 79 = .ok (.invokevirtual 234, 3) := by decide +kernel
theorem dX12_goesOn_82 : decode cX12_goesOn 82 = .ok (.ireturn, 1) := by decide +kernel
theorem dX12_goesOn_83 : decode cX12_goesOn 83 = .ok (.aload_n 0, 1) := by decide +kernel
theorem dX12_goesOn_84 : decode cX12_goesOn 84 = .ok (.dup, 1) := by decide +kernel
theorem dX12_goesOn_85 : decode cX12_goesOn 85 = .ok (.getfield 326, 3) := by decide +kernel
theorem dX12_goesOn_88 : decode cX12_goesOn 88 = .ok (.iconst 1, 1) := by decide +kernel
theorem dX12_goesOn_89 : decode cX12_goesOn 89 = .ok (.isub, 1) := by decide +kernel
theorem dX12_goesOn_90 : decode cX12_goesOn 90 = .ok (.putfield 326, 3) := by decide +kernel
theorem dX12_goesOn_93 : decode cX12_goesOn 93 = .ok (.aload_n 0, 1) := by decide +kernel
theorem dX12_goesOn_94 : decode cX12_goesOn 94 = .ok (.dup, 1) := by decide +kernel
theorem dX12_goesOn_95 : decode cX12_goesOn 95 = .ok (.getfield 323, 3) := by decide +kernel
theorem dX12_goesOn_98 : decode cX12_goesOn 98 = .ok (.iconst 1, 1) := by decide +kernel
theorem dX12_goesOn_99 : decode cX12_goesOn 99 = .ok (.isub, 1) := by decide +kernel
theorem dX12_goesOn_100 : decode cX12_goesOn 100 = .ok (.putfield 323, 3) := by decide +kernel
theorem dX12_goesOn_103 : decode cX12_goesOn 103 = .ok (.goto (-103), 3) := by decide +kernel
theorem dX12_goesOn_106 : decode cX12_goesOn 106 = .ok (.iconst 0, 1) := by decide +kernel
theorem dX12_goesOn_107 : decode cX12_goesOn 107 = .ok (.ireturn, 1) := by decide +kernel
theorem dX12_streetBehind_0 : decode cX12_streetBehind 0 = .ok (.aload_n 0, 1) := by decide +kernel
theorem dX12_streetBehind_1 : decode cX12_streetBehind 1 = .ok (.invokevirtual 234, 3) := by decide +kernel
theorem dX12_streetBehind_4 : decode cX12_streetBehind 4 = .ok (.ifCond .eq 13, 3) := by decide +kernel
theorem dX12_streetBehind_7 : decode cX12_streetBehind 7 = .ok (.aload_n 0, 1) := by decide +kernel
theorem dX12_streetBehind_8 : decode cX12_streetBehind 8 = .ok (.ldc2_w 182, 3) := by decide +kernel
theorem dX12_streetBehind_11 : decode cX12_streetBehind 11 = .ok (.invokevirtual 262, 3) := by decide +kernel
theorem dX12_streetBehind_14 : decode cX12_streetBehind 14 = .ok (.ifCond .ne 5, 3) := by decide +kernel
theorem dX12_streetBehind_17 : decode cX12_streetBehind 17 = .ok (.iconst (-1), 1) := by decide +kernel
theorem dX12_streetBehind_18 : decode cX12_streetBehind 18 = .ok (.ireturn, 1) := by decide +kernel
theorem dX12_streetBehind_19 : decode cX12_streetBehind 19 = .ok (.aload_n 0, 1) := by decide +kernel
theorem dX12_streetBehind_20 : decode cX12_streetBehind 20 = .ok (.invokevirtual 238, 3) := by decide +kernel
theorem dX12_streetBehind_23 : decode cX12_streetBehind 23 = .ok (.aload_n 0, 1) := by decide +kernel
theorem dX12_streetBehind_24 : decode cX12_streetBehind 24 = .ok (.aload_n 0, 1) := by decide +kernel
theorem dX12_streetBehind_25 : decode cX12_streetBehind 25 = .ok (.invokevirtual 276, 3) := by decide +kernel
theorem dX12_streetBehind_28 : decode cX12_streetBehind 28 = .ok (.invokevirtual 299, 3) := by decide +kernel
theorem dX12_streetBehind_31 : decode cX12_streetBehind 31 = .ok (.ireturn, 1) := by decide +kernel
theorem dX12_other_0 : decode cX12_other 0 = .ok (.aload_n 0, 1) := by decide +kernel
theorem dX12_other_1 : decode cX12_other 1 = .ok (.invokevirtual 296, 3) := by decide +kernel
theorem dX12_other_4 : decode cX12_other 4 = .ok (.istore_n 1, 1) := by decide +kernel
theorem dX12_other_5 : decode cX12_other 5 = .ok (.aload_n 0, 1) := by decide +kernel
theorem dX12_other_6 : decode cX12_other 6 = .ok (.invokevirtual 234, 3) := by decide +kernel
theorem dX12_other_9 : decode cX12_other 9 = .ok (.ifCond .eq 20, 3) := by decide +kernel
theorem dX12_other_12 : decode cX12_other 12 = .ok (.iload_n 1, 1) := by decide +kernel
theorem dX12_other_13 : decode cX12_other 13 = .ok (.aload_n 0, 1) := by decide +kernel
theorem dX12_other_14 : decode cX12_other 14 = .ok (.getfield 320, 3) := by decide +kernel
theorem dX12_other_17 : decode cX12_other 17 = .ok (.if_icmp .ne 12, 3) := by decide +kernel
theorem dX12_other_20 : decode cX12_other 20 = .ok (.aload_n 0, 1) := by decide +kernel
theorem dX12_other_21 : decode cX12_other 21 = .ok (.iconst 3, 1) := by decide +kernel
theorem dX12_other_22 : decode cX12_other 22 = .ok (.aload_n 0, 1) := by decide +kernel
theorem dX12_other_23 : decode cX12_other 23 = .ok (.getfield 199, 3) := by decide +kernel
theorem dX12_other_26 : decode cX12_other 26 = .ok (.invokevirtual 230, 3) := by decide +kernel
theorem dX12_other_29 : decode cX12_other 29 = .ok (.aload_n 0, 1) := by decide +kernel
theorem dX12_other_30 : decode cX12_other 30 = .ok (.iload_n 1, 1) := by decide +kernel
theorem dX12_other_31 : decode cX12_other 31 = .ok (.invokevirtual 299, 3) := by decide +kernel
theorem dX12_other_34 : decode cX12_other 34 = .ok (.ireturn, 1) := by decide +kernel
theorem dX12_readMark_0 : decode cX12_readMark 0 = .ok (.aload_n 0, 1) := by decide +kernel
theorem dX12_readMark_1 : decode cX12_readMark 1 = .ok (.ldc2_w 174, 3) := by decide +kernel
theorem dX12_readMark_4 : decode cX12_readMark 4 = .ok (.invokevirtual 262, 3) := by decide +kernel
theorem dX12_readMark_7 : decode cX12_readMark 7 = .ok (.ifCond .ne 33, 3) := by decide +kernel
theorem dX12_readMark_10 : decode cX12_readMark 10 = .ok (.aload_n 0, 1) := by decide +kernel
theorem dX12_readMark_11 : decode cX12_readMark 11 = .ok (.ldc2_w 176, 3) := by decide +kernel
theorem dX12_readMark_14 : decode cX12_readMark 14 = .ok (.invokevirtual 262, 3) := by decide +kernel
theorem dX12_readMark_17 : decode cX12_readMark 17 = .ok (.ifCond .ne 23, 3) := by decide +kernel
theorem dX12_readMark_20 : decode cX12_readMark 20 = .ok (.aload_n 0, 1) := by decide +kernel
theorem dX12_readMark_21 : decode cX12_readMark 21 = .ok (.ldc2_w 178, 3) := by decide +kernel
theorem dX12_readMark_24 : decode cX12_readMark 24 = .ok (.invokevirtual 262, 3) := by decide +kernel
theorem dX12_readMark_27 : decode cX12_readMark 27 = .ok (.ifCond .ne 13, 3) := by decide +kernel
theorem dX12_readMark_30 : decode cX12_readMark 30 = .ok (.aload_n 0, 1) := by decide +kernel
theorem dX12_readMark_31 : decode cX12_readMark 31 = .ok (.ldc2_w 180, 3) := by decide +kernel
theorem dX12_readMark_34 : decode cX12_readMark 34 = .ok (.invokevirtual 262, 3) := by decide +kernel
theorem dX12_readMark_37 : decode cX12_readMark 37 = .ok (.ifCond .eq 7, 3) := by decide +kernel
theorem dX12_readMark_40 : decode cX12_readMark 40 = .ok (.iconst 1, 1) := by decide +kernel
theorem dX12_readMark_41 : decode cX12_readMark 41 = .ok (.goto 4, 3) := by decide +kernel
theorem dX12_readMark_44 : decode cX12_readMark 44 = .ok (.iconst 0, 1) := by decide +kernel
theorem dX12_readMark_45 : decode cX12_readMark 45 = .ok (.istore_n 1, 1) := by decide +kernel
theorem dX12_readMark_46 : decode cX12_readMark 46 = .ok (.aload_n 0, 1) := by decide +kernel
theorem dX12_readMark_47 : decode cX12_readMark 47 = .ok (.getfield 206, 3) := by decide +kernel
theorem dX12_readMark_50 : decode cX12_readMark 50 = .ok (.iconst 2, 1) := by decide +kernel
theorem dX12_readMark_51 : decode cX12_readMark 51 = .ok (.if_icmp .eq 11, 3) := by decide +kernel
theorem dX12_readMark_54 : decode cX12_readMark 54 = .ok (.iload_n 1, 1) := by decide +kernel
theorem dX12_readMark_55 : decode cX12_readMark 55 = .ok (.ifCond .ne 7, 3) := by decide +kernel
theorem dX12_readMark_58 : decode cX12_readMark 58 = .ok (.aload_n 0, 1) := by decide +kernel
theorem dX12_readMark_59 : decode cX12_readMark 59 = .ok (.invokevirtual 241, 3) := by decide +kernel
theorem dX12_readMark_62 : decode cX12_readMark 62 = .ok (.aload_n 0, 1) := by decide +kernel
theorem dX12_readMark_63 : decode cX12_readMark 63 = .ok (.invokevirtual 234, 3) := by decide +kernel
theorem dX12_readMark_66 : decode cX12_readMark 66 = .ok (.ifCond .eq 10, 3) := by decide +kernel
theorem dX12_readMark_69 : decode cX12_readMark 69 = .ok (.aload_n 0, 1) := by decide +kernel
theorem dX12_readMark_70 : decode cX12_readMark 70 = .ok (.invokevirtual 345, 3) := by decide +kernel
theorem dX12_readMark_73 : decode cX12_readMark 73 = .ok (.ifCond .ne 4, 3) := by decide +kernel
theorem dX12_readMark_76 : decode cX12_readMark 76 = .ok (.return_, 1) := by decide +kernel
theorem dX12_readMark_77 : decode cX12_readMark 77 = .ok (.aload_n 0, 1) := by decide +kernel
theorem dX12_readMark_78 : decode cX12_readMark 78 = .ok (.getfield 206, 3) := by decide +kernel
theorem dX12_readMark_81 : decode cX12_readMark 81 = .ok (.iconst 2, 1) := by decide +kernel
theorem dX12_readMark_82 : decode cX12_readMark 82 = .ok (.if_icmp .ne 19, 3) := by decide +kernel
theorem dX12_readMark_85 : decode cX12_readMark 85 = .ok (.aload_n 0, 1) := by decide +kernel
theorem dX12_readMark_86 : decode cX12_readMark 86 = .ok (.bipush 6, 2) := by decide +kernel
theorem dX12_readMark_88 : decode cX12_readMark 88 = .ok (.aload_n 0, 1) := by decide +kernel
theorem dX12_readMark_89 : decode cX12_readMark 89 = .ok (.aload_n 0, 1) := by decide +kernel
theorem dX12_readMark_90 : decode cX12_readMark 90 = .ok (.invokevirtual 268, 3) := by decide +kernel
theorem dX12_readMark_93 : decode cX12_readMark 93 = .ok (.invokevirtual 299, 3) := by decide +kernel
theorem dX12_readMark_96 : decode cX12_readMark 96 = .ok (.iconst 0, 1) := by decide +kernel
theorem dX12_readMark_97 : decode cX12_readMark 97 = .ok (.invokevirtual 341, 3) := by decide +kernel
theorem dX12_readMark_100 : decode cX12_readMark 100 = .ok (.return_, 1) := by decide +kernel
theorem dX12_readMark_101 : decode cX12_readMark 101 = .ok (.aload_n 0, 1) := by decide +kernel
theorem dX12_readMark_102 : decode cX12_readMark 102 = .ok (.ldc2_w 176, 3) := by decide +kernel
theorem dX12_readMark_105 : decode cX12_readMark 105 = .ok (.invokevirtual 262, 3) := by decide +kernel
theorem dX12_readMark_108 : decode cX12_readMark 108 = .ok (.istore_n 2, 1) := by decide +kernel
theorem dX12_readMark_109 : decode cX12_readMark 109 = .ok (.aload_n 0, 1) := by decide +kernel
theorem dX12_readMark_110 : decode cX12_readMark 110 = .ok (.ldc2_w 174, 3) := by decide +kernel
theorem dX12_readMark_113 : decode cX12_readMark 113 = .ok (.invokevirtual 262, 3) := by decide +kernel
theorem dX12_readMark_116 : decode cX12_readMark 116 = .ok (.istore_n 3, 1) := by decide +kernel
theorem dX12_readMark_117 : decode cX12_readMark 117 = .ok (.aload_n 0, 1) := by decide +kernel
theorem dX12_readMark_118 : decode cX12_readMark 118 = .ok (.ldc2_w 178, 3) := by decide +kernel
theorem dX12_readMark_121 : decode cX12_readMark 121 = .ok (.invokevirtual 262, 3) := by decide +kernel
theorem dX12_readMark_124 : decode cX12_readMark 124 = .ok (.ifCond .eq 8, 3) := by decide +kernel
theorem dX12_readMark_127 : decode cX12_readMark 127 = .ok (.bipush 9, 2) := by decide +kernel
theorem dX12_readMark_129 : decode cX12_readMark 129 = .ok (.goto 5, 3) := by decide +kernel
theorem dX12_readMark_132 : decode cX12_readMark 132 = .ok (.bipush 10, 2) := by decide +kernel
theorem dX12_readMark_134 : decode cX12_readMark 134 = .ok (.istore 4, 2) := by decide +kernel
theorem dX12_readMark_136 : decode cX12_readMark 136 = .ok (.aload_n 0, 1) := by decide +kernel
theorem dX12_readMark_137 : decode cX12_readMark 137 = .ok (.invokevirtual 238, 3) := by decide +kernel
theorem dX12_readMark_140 : decode cX12_readMark 140 = .ok (.iload_n 2, 1) := by decide +kernel
theorem dX12_readMark_141 : decode cX12_readMark 141 = .ok (.ifCond .eq 17, 3) := by decide +kernel
theorem dX12_readMark_144 : decode cX12_readMark 144 = .ok (.aload_n 0, 1) := by decide +kernel
theorem dX12_readMark_145 : decode cX12_readMark 145 = .ok (.bipush 8, 2) := by decide +kernel
theorem dX12_readMark_147 : decode cX12_readMark 147 = .ok (.aload_n 0, 1) := by decide +kernel
theorem dX12_readMark_148 : decode cX12_readMark 148 = .ok (.invokevirtual 348, 3) := by decide +kernel
theorem dX12_readMark_151 : decode cX12_readMark 151 = .ok (.iconst 0, 1) := by decide +kernel
theorem dX12_readMark_152 : decode cX12_readMark 152 = .ok (.invokevirtual 341, 3) := by decide +kernel
theorem dX12_readMark_155 : decode cX12_readMark 155 = .ok (.goto 29, 3) := by decide +kernel
theorem dX12_readMark_158 : decode cX12_readMark 158 = .ok (.iload_n 3, 1) := by decide +kernel
theorem dX12_readMark_159 : decode cX12_readMark 159 = .ok (.ifCond .eq 14, 3) := by decide +kernel
theorem dX12_readMark_162 : decode cX12_readMark 162 = .ok (.aload_n 0, 1) := by decide +kernel
theorem dX12_readMark_163 : decode cX12_readMark 163 = .ok (.bipush 7, 2) := by decide +kernel
theorem dX12_readMark_165 : decode cX12_readMark 165 = .ok (.iconst 0, 1) := by decide +kernel
theorem dX12_readMark_166 : decode cX12_readMark 166 = .ok (.iconst 0, 1) := by decide +kernel
theorem dX12_readMark_167 : decode cX12_readMark 167 = .ok (.invokevirtual 341, 3) := by decide +kernel
theorem dX12_readMark_170 : decode cX12_readMark 170 = .ok (.goto 14, 3) := by decide +kernel
theorem dX12_readMark_173 : decode cX12_readMark 173 = .ok (.aload_n 0, 1) := by decide +kernel
theorem dX12_readMark_174 : decode cX12_readMark 174 = .ok (.iload 4, 2) := by decide +kernel
theorem dX12_readMark_176 : decode cX12_readMark 176 = .ok (.iconst 0, 1) := by decide +kernel
theorem dX12_readMark_177 : decode cX12_readMark 177 = .ok (.aload_n 0, 1) := by decide +kernel
theorem dX12_readMark_178 : decode cX12_readMark 178 = .ok (.invokevirtual 351, 3) := by decide +kernel
theorem dX12_readMark_181 : decode cX12_readMark 181 = .ok (.invokevirtual 341, 3) := by decide +kernel
theorem dX12_readMark_184 : decode cX12_readMark 184 = .ok (.return_, 1) := by decide +kernel
theorem dX12_pushE_0 : decode cX12_pushE 0 = .ok (.aload_n 0, 1) := by decide +kernel
theorem dX12_pushE_1 : decode cX12_pushE 1 = .ok (.getfield 68, 3) := by decide +kernel
theorem dX12_pushE_4 : decode cX12_pushE 4 = .ok (.aload_n 0, 1) := by decide +kernel
theorem dX12_pushE_5 : decode cX12_pushE 5 = .ok (.getfield 354, 3) := by decide +kernel
theorem dX12_pushE_8 : decode cX12_pushE 8 = .ok (.iload_n 1, 1) := by decide +kernel
theorem dX12_pushE_9 : decode cX12_pushE 9 = .ok (.iastore, 1) := by decide +kernel
theorem dX12_pushE_10 : decode cX12_pushE 10 = .ok (.aload_n 0, 1) := by decide +kernel
theorem dX12_pushE_11 : decode cX12_pushE 11 = .ok (.getfield 71, 3) := by decide +kernel
theorem dX12_pushE_14 : decode cX12_pushE 14 = .ok (.aload_n 0, 1) := by decide +kernel
theorem dX12_pushE_15 : decode cX12_pushE 15 = .ok (.getfield 354, 3) := by decide +kernel
theorem dX12_pushE_18 : decode cX12_pushE 18 = .ok (.iload_n 2, 1) := by decide +kernel
theorem dX12_pushE_19 : decode cX12_pushE 19 = .ok (.iastore, 1) := by decide +kernel
theorem dX12_pushE_20 : decode cX12_pushE 20 = .ok (.aload_n 0, 1) := by decide +kernel
theorem dX12_pushE_21 : decode cX12_pushE 21 = .ok (.dup, 1) := by decide +kernel
theorem dX12_pushE_22 : decode cX12_pushE 22 = .ok (.getfield 354, 3) := by decide +kernel
theorem dX12_pushE_25 : decode cX12_pushE 25 = .ok (.iconst 1, 1) := by decide +kernel
theorem dX12_pushE_26 : decode cX12_pushE 26 = .ok (.iadd, 1) := by decide +kernel
theorem dX12_pushE_27 : decode cX12_pushE 27 = .ok (.putfield 354, 3) := by decide +kernel
theorem dX12_pushE_30 : decode cX12_pushE 30 = .ok (.return_, 1) := by decide +kernel
theorem dX12_f_0 : decode cX12_f 0 = .ok (.aload_n 0, 1) := by decide +kernel
theorem dX12_f_1 : decode cX12_f 1 = .ok (.iconst 0, 1) := by decide +kernel
theorem dX12_f_2 : decode cX12_f 2 = .ok (.putfield 354, 3) := by decide +kernel
theorem dX12_f_5 : decode cX12_f 5 = .ok (.aload_n 0, 1) := by decide +kernel
theorem dX12_f_6 : decode cX12_f 6 = .ok (.bipush 7, 2) := by decide +kernel
theorem dX12_f_8 : decode cX12_f 8 = .ok (.iconst 0, 1) := by decide +kernel
theorem dX12_f_9 : decode cX12_f 9 = .ok (.invokevirtual 357, 3) := by decide +kernel
theorem dX12_f_12 : decode cX12_f 12 = .ok (.iconst 1, 1) := by decide +kernel
theorem dX12_f_13 : decode cX12_f 13 = .ok (.istore_n 1, 1) := by decide +kernel
theorem dX12_f_14 : decode cX12_f 14 = .ok (.aload_n 0, 1) := by decide +kernel
theorem dX12_f_15 : decode cX12_f 15 = .ok (.invokevirtual 234, 3) := by decide +kernel
theorem dX12_f_18 : decode cX12_f 18 = .ok (.ifCond .eq 29, 3) := by decide +kernel
theorem dX12_f_21 : decode cX12_f 21 = .ok (.aload_n 0, 1) := by decide +kernel
theorem dX12_f_22 : decode cX12_f 22 = .ok (.getfield 354, 3) := by decide +kernel
theorem dX12_f_25 : decode cX12_f 25 = .ok (.ifCond .le 22, 3) := by decide +kernel
theorem dX12_f_28 : decode cX12_f 28 = .ok (.iload_n 1, 1) := by decide +kernel
theorem dX12_f_29 : decode cX12_f 29 = .ok (.ifCond .eq 10, 3) := by decide +kernel
theorem dX12_f_32 : decode cX12_f 32 = .ok (.aload_n 0, 1) := by decide +kernel
theorem dX12_f_33 : decode cX12_f 33 = .ok (.invokevirtual 360, 3) := by decide +kernel
theorem dX12_f_36 : decode cX12_f 36 = .ok (.goto 7, 3) := by decide +kernel
theorem dX12_f_39 : decode cX12_f 39 = .ok (.aload_n 0, 1) := by decide +kernel
theorem dX12_f_40 : decode cX12_f 40 = .ok (.invokevirtual 362, 3) := by decide +kernel
theorem dX12_f_43 : decode cX12_f 43 = .ok (.istore_n 1, 1) := by decide +kernel
theorem dX12_f_44 : decode cX12_f 44 = .ok (.goto (-30), 3) := by decide +kernel
theorem dX12_f_47 : decode cX12_f 47 = .ok (.return_, 1) := by decide +kernel
theorem dX12_unit_0 : decode cX12_unit 0 = .ok (.aload_n 0, 1) := by decide +kernel
theorem dX12_unit_1 : decode cX12_unit 1 = .ok (.getfield 68, 3) := by decide +kernel
theorem dX12_unit_4 : decode cX12_unit 4 = .ok (.aload_n 0, 1) := by decide +kernel
theorem dX12_unit_5 : decode cX12_unit 5 = .ok (.getfield 354, 3) := by decide +kernel
theorem dX12_unit_8 : decode cX12_unit 8 = .ok (.iconst 1, 1) := by decide +kernel
theorem dX12_unit_9 : decode cX12_unit 9 = .ok (.isub, 1) := by decide +kernel
theorem dX12_unit_10 : decode cX12_unit 10 = .ok (.iaload, 1) := by decide +kernel
theorem dX12_unit_11 : decode cX12_unit 11 = .ok (.iconst 3, 1) := by decide +kernel
theorem dX12_unit_12 : decode cX12_unit 12 = .ok (.if_icmp .le 19, 3) := by decide +kernel
theorem dX12_unit_15 : decode cX12_unit 15 = .ok (.aload_n 0, 1) := by decide +kernel
theorem dX12_unit_16 : decode cX12_unit 16 = .ok (.getfield 68, 3) := by decide +kernel
theorem dX12_unit_19 : decode cX12_unit 19 = .ok (.aload_n 0, 1) := by decide +kernel
theorem dX12_unit_20 : decode cX12_unit 20 = .ok (.getfield 354, 3) := by decide +kernel
theorem dX12_unit_23 : decode cX12_unit 23 = .ok (.iconst 1, 1) := by decide +kernel
theorem dX12_unit_24 : decode cX12_unit 24 = .ok (.isub, 1) := by decide +kernel
theorem dX12_unit_25 : decode cX12_unit 25 = .ok (.iaload, 1) := by decide +kernel
theorem dX12_unit_26 : decode cX12_unit 26 = .ok (.bipush 6, 2) := by decide +kernel
theorem dX12_unit_28 : decode cX12_unit 28 = .ok (.if_icmp .lt 7, 3) := by decide +kernel
theorem dX12_unit_31 : decode cX12_unit 31 = .ok (.iconst 1, 1) := by decide +kernel
theorem dX12_unit_32 : decode cX12_unit 32 = .ok (.goto 4, 3) := by decide +kernel
theorem dX12_unit_35 : decode cX12_unit 35 = .ok (.iconst 0, 1) := by decide +kernel
theorem dX12_unit_36 : decode cX12_unit 36 = .ok (.istore_n 1, 1) := by decide +kernel
theorem dX12_unit_37 : decode cX12_unit 37 = .ok (.iload_n 1, 1) := by decide +kernel
theorem dX12_unit_38 : decode cX12_unit 38 = .ok (.ifCond .eq 17, 3) := by decide +kernel
theorem dX12_unit_41 : decode cX12_unit 41 = .ok (.aload_n 0, 1) := by decide +kernel
theorem dX12_unit_42 : decode cX12_unit 42 = .ok (.ldc2_w 194, 3) := by decide +kernel
theorem dX12_unit_45 : decode cX12_unit 45 = .ok (.invokevirtual 262, 3) := by decide +kernel
theorem dX12_unit_48 : decode cX12_unit 48 = .ok (.ifCond .eq 7, 3) := by decide +kernel
theorem dX12_unit_51 : decode cX12_unit 51 = .ok (.iconst 1, 1) := by decide +kernel
theorem dX12_unit_52 : decode cX12_unit 52 = .ok (.goto 4, 3) := by decide +kernel
theorem dX12_unit_55 : decode cX12_unit 55 = .ok (.iconst 0, 1) := by decide +kernel
theorem dX12_unit_56 : decode cX12_unit 56 = .ok (.istore_n 2, 1) := by decide +kernel
theorem dX12_unit_57 : decode cX12_unit 57 = .ok (.aload_n 0, 1) := by decide +kernel
theorem dX12_unit_58 : decode cX12_unit 58 = .ok (.bipush 40, 2) := by decide +kernel
theorem dX12_unit_60 : decode cX12_unit 60 = .ok (.invokevirtual 285, 3) := by decide +kernel
theorem dX12_unit_63 : decode cX12_unit 63 = .ok (.istore_n 3, 1) := by decide +kernel
theorem dX12_unit_64 : decode cX12_unit 64 = .ok (.aload_n 0, 1) := by decide +kernel
theorem dX12_unit_65 : decode cX12_unit 65 = .ok (.getfield 206, 3) := by decide +kernel
theorem dX12_unit_68 : decode cX12_unit 68 = .ok (.iconst 4, 1) := by decide +kernel
theorem dX12_unit_69 : decode cX12_unit 69 = .ok (.if_icmp .eq 33, 3) := by decide +kernel
theorem dX12_unit_72 : decode cX12_unit 72 = .ok (.aload_n 0, 1) := by decide +kernel
theorem dX12_unit_73 : decode cX12_unit 73 = .ok (.ldc2_w 184, 3) := by decide +kernel
theorem dX12_unit_76 : decode cX12_unit 76 = .ok (.invokevirtual 262, 3) := by decide +kernel
theorem dX12_unit_79 : decode cX12_unit 79 = .ok (.ifCond .ne 23, 3) := by decide +kernel
theorem dX12_unit_82 : decode cX12_unit 82 = .ok (.aload_n 0, 1) := by decide +kernel
theorem dX12_unit_83 : decode cX12_unit 83 = .ok (.ldc2_w 186, 3) := by decide +kernel
theorem dX12_unit_86 : decode cX12_unit 86 = .ok (.invokevirtual 262, 3) := by decide +kernel
theorem dX12_unit_89 : decode cX12_unit 89 = .ok (.ifCond .ne 13, 3) := by decide +kernel
theorem dX12_unit_92 : decode cX12_unit 92 = .ok (.aload_n 0, 1) := by decide +kernel
theorem dX12_unit_93 : decode cX12_unit 93 = .ok (.ldc2_w 188, 3) := by decide +kernel
theorem dX12_unit_96 : decode cX12_unit 96 = .ok (.invokevirtual 262, 3) := by decide +kernel
theorem dX12_unit_99 : decode cX12_unit 99 = .ok (.ifCond .eq 7, 3) := by decide +kernel
theorem dX12_unit_102 : decode cX12_unit 102 = .ok (.iconst 1, 1) := by decide +kernel
theorem dX12_unit_103 : decode cX12_unit 103 = .ok (.goto 4, 3) := by decide +kernel
theorem dX12_unit_106 : decode cX12_unit 106 = .ok (.iconst 0, 1) := by decide +kernel
theorem dX12_unit_107 : decode cX12_unit 107 = .ok (.istore 4, 2) := by decide +kernel
theorem dX12_unit_109 : decode cX12_unit 109 = .ok (.iload_n 2, 1) := by decide +kernel
theorem dX12_unit_110 : decode cX12_unit 110 = .ok (.ifCond .ne 12, 3) := by decide +kernel
theorem dX12_unit_113 : decode cX12_unit 113 = .ok (.iload_n 3, 1) := by decide +kernel
theorem dX12_unit_114 : decode cX12_unit 114 = .ok (.ifCond .ne 8, 3) := by decide +kernel
theorem dX12_unit_117 : decode cX12_unit 117 = .ok (.iload 4, 2) := by decide +kernel
theorem dX12_unit_119 : decode cX12_unit 119 = .ok (.ifCond .eq 20, 3) := by decide +kernel
theorem dX12_unit_122 : decode cX12_unit 122 = .ok (.iload_n 2, 1) := by decide +kernel
theorem dX12_unit_123 : decode cX12_unit 123 = .ok (.ifCond .ne 7, 3) := by decide +kernel
theorem dX12_unit_126 : decode cX12_unit 126 = .ok (.iload_n 3, 1) := by decide +kernel
theorem dX12_unit_127 : decode cX12_unit 127 = .ok (.ifCond .eq 16, 3) := by decide +kernel
theorem dX12_unit_130 : decode cX12_unit 130 = .ok (.aload_n 0, 1) := by decide +kernel
theorem dX12_unit_131 : decode cX12_unit 131 = .ok (.getfield 323, 3) := by decide +kernel
theorem dX12_unit_134 : decode cX12_unit 134 = .ok (.bipush 7, 2) := by decide +kernel
theorem dX12_unit_136 : decode cX12_unit 136 = .ok (.if_icmp .ne 7, 3) := by decide +kernel
theorem dX12_unit_139 : decode cX12_unit 139 = .ok (.aload_n 0, 1) := by decide +kernel
theorem dX12_unit_140 : decode cX12_unit 140 = .ok (.invokevirtual 241, 3) := by decide +kernel
theorem dX12_unit_143 : decode cX12_unit 143 = .ok (.aload_n 0, 1) := by decide +kernel
theorem dX12_unit_144 : decode cX12_unit 144 = .ok (.invokevirtual 234, 3) := by decide +kernel
theorem dX12_unit_147 : decode cX12_unit 147 = .ok (.ifCond .eq 14, 3) := by decide +kernel
theorem dX12_unit_150 : decode cX12_unit 150 = .ok (.iload_n 2, 1) := by decide +kernel
theorem dX12_unit_151 : decode cX12_unit 151 = .ok (.ifCond .ne 12, 3) := by decide +kernel
theorem dX12_unit_154 : decode cX12_unit 154 = .ok (.aload_n 0, 1) := by decide +kernel
theorem dX12_unit_155 : decode cX12_unit 155 = .ok (.invokevirtual 345, 3) := by decide +kernel
theorem dX12_unit_158 : decode cX12_unit 158 = .ok (.ifCond .ne 5, 3) := by decide +kernel
theorem dX12_unit_161 : decode cX12_unit 161 = .ok (.iconst 1, 1) := by decide +kernel
theorem dX12_unit_162 : decode cX12_unit 162 = .ok (.ireturn, 1) := by decide +kernel
theorem dX12_unit_163 : decode cX12_unit 163 = .ok (.iload_n 2, 1) := by decide +kernel
theorem dX12_unit_164 : decode cX12_unit 164 = .ok (.ifCond .ne 7, 3) := by decide +kernel
theorem dX12_unit_167 : decode cX12_unit 167 = .ok (.iload_n 3, 1) := by decide +kernel
theorem dX12_unit_168 : decode cX12_unit 168 = .ok (.ifCond .eq 35, 3) := by decide +kernel
theorem dX12_unit_171 : decode cX12_unit 171 = .ok (.aload_n 0, 1) := by decide +kernel
theorem dX12_unit_172 : decode cX12_unit 172 = .ok (.invokevirtual 238, 3) := by decide +kernel
theorem dX12_unit_175 : decode cX12_unit 175 = .ok (.aload_n 0, 1) := by decide +kernel
theorem dX12_unit_176 : decode cX12_unit 176 = .ok (.iload_n 2, 1) := by decide +kernel
theorem dX12_unit_177 : decode cX12_unit 177 = .ok (.ifCond .eq 7, 3) := by decide +kernel
theorem dX12_unit_180 : decode cX12_unit 180 = .ok (.iconst 3, 1) := by decide +kernel
theorem dX12_unit_181 : decode cX12_unit 181 = .ok (.goto 5, 3) := by decide +kernel
theorem dX12_unit_184 : decode cX12_unit 184 = .ok (.bipush 6, 2) := by decide +kernel
theorem dX12_unit_186 : decode cX12_unit 186 = .ok (.bipush 126, 2) := by decide +kernel
theorem dX12_unit_188 : decode cX12_unit 188 = .ok (.invokevirtual 357, 3) := by decide +kernel
theorem dX12_unit_191 : decode cX12_unit 191 = .ok (.aload_n 0, 1) := by decide +kernel
theorem dX12_unit_192 : decode cX12_unit 192 = .ok (.dup, 1) := by decide +kernel
theorem dX12_unit_193 : decode cX12_unit 193 = .ok (.getfield 323, 3) := by decide +kernel
theorem dX12_unit_196 : decode cX12_unit 196 = .ok (.iconst 1, 1) := by decide +kernel
theorem dX12_unit_197 : decode cX12_unit 197 = .ok (.iadd, 1) := by decide +kernel
theorem dX12_unit_198 : decode cX12_unit 198 = .ok (.putfield 323, 3) := by decide +kernel
theorem dX12_unit_201 : decode cX12_unit 201 = .ok (.iconst 1, 1) := by decide +kernel
theorem dX12_unit_202 : decode cX12_unit 202 = .ok (.ireturn, 1) := by decide +kernel
theorem dX12_unit_203 : decode cX12_unit 203 = .ok (.aload_n 0, 1) := by decide +kernel
theorem dX12_unit_204 : decode cX12_unit 204 = .ok (.ldc2_w 184, 3) := by decide +kernel
theorem dX12_unit_207 : decode cX12_unit 207 = .ok (.invokevirtual 262, 3) := by decide +kernel
theorem dX12_unit_210 : decode cX12_unit 210 = .ok (.ifCond .eq 7, 3) := by decide +kernel
theorem dX12_unit_213 : decode cX12_unit 213 = .ok (.iconst 2, 1) := by decide +kernel
theorem dX12_unit_214 : decode cX12_unit 214 = .ok (.goto 32, 3) := by decide +kernel
theorem dX12_unit_217 : decode cX12_unit 217 = .ok (.aload_n 0, 1) := by decide +kernel
theorem dX12_unit_218 : decode cX12_unit 218 = .ok (.ldc2_w 186, 3) := by decide +kernel
theorem dX12_unit_221 : decode cX12_unit 221 = .ok (.invokevirtual 262, 3) := by decide +kernel
theorem dX12_unit_224 : decode cX12_unit 224 = .ok (.ifCond .eq 7, 3) := by decide +kernel
theorem dX12_unit_227 : decode cX12_unit 227 = .ok (.iconst 3, 1) := by decide +kernel
theorem dX12_unit_228 : decode cX12_unit 228 = .ok (.goto 18, 3) := by decide +kernel
theorem dX12_unit_231 : decode cX12_unit 231 = .ok (.aload_n 0, 1) := by decide +kernel
theorem dX12_unit_232 : decode cX12_unit 232 = .ok (.ldc2_w 188, 3) := by decide +kernel
theorem dX12_unit_235 : decode cX12_unit 235 = .ok (.invokevirtual 262, 3) := by decide +kernel
theorem dX12_unit_238 : decode cX12_unit 238 = .ok (.ifCond .eq 7, 3) := by decide +kernel
theorem dX12_unit_241 : decode cX12_unit 241 = .ok (.iconst 4, 1) := by decide +kernel
theorem dX12_unit_242 : decode cX12_unit 242 = .ok (.goto 4, 3) := by decide +kernel
theorem dX12_unit_245 : decode cX12_unit 245 = .ok (.iconst 1, 1) := by decide +kernel
theorem dX12_unit_246 : decode cX12_unit 246 = .ok (.istore 5, 2) := by decide +kernel
theorem dX12_unit_248 : decode cX12_unit 248 = .ok (.aload_n 0, 1) := by decide +kernel
theorem dX12_unit_249 : decode cX12_unit 249 = .ok (.getfield 224, 3) := by decide +kernel
theorem dX12_unit_252 : decode cX12_unit 252 = .ok (.istore 6, 2) := by decide +kernel
theorem dX12_unit_254 : decode cX12_unit 254 = .ok (.aload_n 0, 1) := by decide +kernel
theorem dX12_unit_255 : decode cX12_unit 255 = .ok (.invokevirtual 238, 3) := by decide +kernel
theorem dX12_unit_258 : decode cX12_unit 258 = .ok (.iload 5, 2) := by decide +kernel
theorem dX12_unit_260 : decode cX12_unit 260 = .ok (.iconst 1, 1) := by decide +kernel
theorem dX12_unit_261 : decode cX12_unit 261 = .ok (.if_icmp .ne 15, 3) := by decide +kernel
theorem dX12_unit_264 : decode cX12_unit 264 = .ok (.aload_n 0, 1) := by decide +kernel
theorem dX12_unit_265 : decode cX12_unit 265 = .ok (.iload 5, 2) := by decide +kernel
theorem dX12_unit_267 : decode cX12_unit 267 = .ok (.iload 6, 2) := by decide +kernel
theorem dX12_unit_269 : decode cX12_unit 269 = .ok (.iconst 0, 1) := by decide +kernel
theorem dX12_unit_270 : decode cX12_unit 270 = .ok (.invokevirtual 341, 3) := by decide +kernel
theorem dX12_unit_273 : decode cX12_unit 273 = .ok (.goto 66, 3) := by decide +kernel
theorem dX12_unit_276 : decode cX12_unit 276 = .ok (.iload 5, 2) := by decide +kernel
theorem dX12_unit_278 : decode cX12_unit 278 = .ok (.iconst 4, 1) := by decide +kernel
theorem dX12_unit_279 : decode cX12_unit 279 = .ok (.if_icmp .ne 28, 3) := by decide +kernel
theorem dX12_unit_282 : decode cX12_unit 282 = .ok (.aload_n 0, 1) := by decide +kernel
theorem dX12_unit_283 : decode cX12_unit 283 = .ok (.invokevirtual 348, 3) := by decide +kernel
theorem dX12_unit_286 : decode cX12_unit 286 = .ok (.istore 7, 2) := by decide +kernel
theorem dX12_unit_288 : decode cX12_unit 288 = .ok (.aload_n 0, 1) := by decide +kernel
theorem dX12_unit_289 : decode cX12_unit 289 = .ok (.iload 5, 2) := by decide +kernel
theorem dX12_unit_291 : decode cX12_unit 291 = .ok (.iload 7, 2) := by decide +kernel
theorem dX12_unit_293 : decode cX12_unit 293 = .ok (.aload_n 0, 1) := by decide +kernel
theorem dX12_unit_294 : decode cX12_unit 294 = .ok (.aload_n 0, 1) := by decide +kernel
theorem dX12_unit_295 : decode cX12_unit 295 = .ok (.invokevirtual 268, 3) := by decide +kernel
theorem dX12_unit_298 : decode cX12_unit 298 = .ok (.invokevirtual 299, 3) := by decide +kernel
theorem dX12_unit_301 : decode cX12_unit 301 = .ok (.invokevirtual 341, 3) := by decide +kernel
theorem dX12_unit_304 : decode cX12_unit 304 = .ok (.goto 35, 3) := by decide +kernel
theorem dX12_unit_307 : decode cX12_unit 307 = .ok (.iload 5, 2) := by decide +kernel
theorem dX12_unit_309 : decode cX12_unit 309 = .ok (.iconst 2, 1) := by decide +kernel
theorem dX12_unit_310 : decode cX12_unit 310 = .ok (.if_icmp .ne 14, 3) := by decide +kernel
theorem dX12_unit_313 : decode cX12_unit 313 = .ok (.aload_n 0, 1) := by decide +kernel
theorem dX12_unit_314 : decode cX12_unit 314 = .ok (.aload_n 0, 1) := by decide +kernel
theorem dX12_unit_315 : decode cX12_unit 315 = .ok (.invokevirtual 268, 3) := by decide +kernel
theorem dX12_unit_318 : decode cX12_unit 318 = .ok (.invokevirtual 299, 3) := by decide +kernel
theorem dX12_unit_321 : decode cX12_unit 321 = .ok (.goto 4, 3) := by decide +kernel
theorem dX12_unit_324 : decode cX12_unit 324 = .ok (.iconst 0, 1) := by decide +kernel
theorem dX12_unit_325 : decode cX12_unit 325 = .ok (.istore 7, 2) := by decide +kernel
theorem dX12_unit_327 : decode cX12_unit 327 = .ok (.aload_n 0, 1) := by decide +kernel
theorem dX12_unit_328 : decode cX12_unit 328 = .ok (.iload 5, 2) := by decide +kernel
theorem dX12_unit_330 : decode cX12_unit 330 = .ok (.iload 7, 2) := by decide +kernel
theorem dX12_unit_332 : decode cX12_unit 332 = .ok (.aload_n 0, 1) := by decide +kernel
theorem dX12_unit_333 : decode cX12_unit 333 = .ok (.invokevirtual 351, 3) := by decide +kernel
theorem dX12_unit_336 : decode cX12_unit 336 = .ok (.invokevirtual 341, 3) := by decide +kernel
theorem dX12_unit_339 : decode cX12_unit 339 = .ok (.iconst 0, 1) := by decide +kernel
theorem dX12_unit_340 : decode cX12_unit 340 = .ok (.ireturn, 1) := by decide +kernel
theorem dX12_rankHere_0 : decode cX12_rankHere 0 = .ok (.aload_n 0, 1) := by decide +kernel
theorem dX12_rankHere_1 : decode cX12_rankHere 1 = .ok (.ldc2_w 190, 3) := by decide +kernel
theorem dX12_rankHere_4 : decode cX12_rankHere 4 = .ok (.invokevirtual 262, 3) := by decide +kernel
theorem dX12_rankHere_7 : decode cX12_rankHere 7 = .ok (.ifCond .eq 5, 3) := by decide +kernel
theorem dX12_rankHere_10 : decode cX12_rankHere 10 = .ok (.iconst 2, 1) := by decide +kernel
theorem dX12_rankHere_11 : decode cX12_rankHere 11 = .ok (.ireturn, 1) := by decide +kernel
theorem dX12_rankHere_12 : decode cX12_rankHere 12 = .ok (.aload_n 0, 1) := by decide +kernel
theorem dX12_rankHere_13 : decode cX12_rankHere 13 = .ok (.ldc2_w 192, 3) := by decide +kernel
theorem dX12_rankHere_16 : decode cX12_rankHere 16 = .ok (.invokevirtual 262, 3) := by decide +kernel
theorem dX12_rankHere_19 : decode cX12_rankHere 19 = .ok (.ifCond .eq 5, 3) := by decide +kernel
theorem dX12_rankHere_22 : decode cX12_rankHere 22 = .ok (.iconst 1, 1) := by decide +kernel
theorem dX12_rankHere_23 : decode cX12_rankHere 23 = .ok (.ireturn, 1) := by decide +kernel
theorem dX12_rankHere_24 : decode cX12_rankHere 24 = .ok (.aload_n 0, 1) := by decide +kernel
theorem dX12_rankHere_25 : decode cX12_rankHere 25 = .ok (.bipush 60, 2) := by decide +kernel
theorem dX12_rankHere_27 : decode cX12_rankHere 27 = .ok (.invokevirtual 285, 3) := by decide +kernel
theorem dX12_rankHere_30 : decode cX12_rankHere 30 = .ok (.ifCond .ne 21, 3) := by decide +kernel
theorem dX12_rankHere_33 : decode cX12_rankHere 33 = .ok (.aload_n 0, 1) := by decide +kernel
theorem dX12_rankHere_34 : decode cX12_rankHere 34 = .ok (.bipush 62, 2) := by decide +kernel
theorem dX12_rankHere_36 : decode cX12_rankHere 36 = .ok (.invokevirtual 285, 3) := by decide +kernel
theorem dX12_rankHere_39 : decode cX12_rankHere 39 = .ok (.ifCond .ne 12, 3) := by decide +kernel
theorem dX12_rankHere_42 : decode cX12_rankHere 42 = .ok (.aload_n 0, 1) := by decide +kernel
theorem dX12_rankHere_43 : decode cX12_rankHere 43 = .ok (.bipush 61, 2) := by decide +kernel
theorem dX12_rankHere_45 : decode cX12_rankHere 45 = .ok (.invokevirtual 285, 3) := by decide +kernel
theorem dX12_rankHere_48 : decode cX12_rankHere 48 = .ok (.ifCond .eq 5, 3) := by decide +kernel
theorem dX12_rankHere_51 : decode cX12_rankHere 51 = .ok (.iconst 4, 1) := by decide +kernel
theorem dX12_rankHere_52 : decode cX12_rankHere 52 = .ok (.ireturn, 1) := by decide +kernel
theorem dX12_rankHere_53 : decode cX12_rankHere 53 = .ok (.aload_n 0, 1) := by decide +kernel
theorem dX12_rankHere_54 : decode cX12_rankHere 54 = .ok (.bipush 43, 2) := by decide +kernel
theorem dX12_rankHere_56 : decode cX12_rankHere 56 = .ok (.invokevirtual 285, 3) := by decide +kernel
theorem dX12_rankHere_59 : decode cX12_rankHere 59 = .ok (.ifCond .ne 12, 3) := by decide +kernel
theorem dX12_rankHere_62 : decode cX12_rankHere 62 = .ok (.aload_n 0, 1) := by decide +kernel
theorem dX12_rankHere_63 : decode cX12_rankHere 63 = .ok (.bipush 45, 2) := by decide +kernel
theorem dX12_rankHere_65 : decode cX12_rankHere 65 = .ok (.invokevirtual 285, 3) := by decide +kernel
theorem dX12_rankHere_68 : decode cX12_rankHere 68 = .ok (.ifCond .eq 7, 3) := by decide +kernel
theorem dX12_rankHere_71 : decode cX12_rankHere 71 = .ok (.iconst 5, 1) := by decide +kernel
theorem dX12_rankHere_72 : decode cX12_rankHere 72 = .ok (.goto 4, 3) := by decide +kernel
theorem dX12_rankHere_75 : decode cX12_rankHere 75 = .ok (.iconst 0, 1) := by decide +kernel
theorem dX12_rankHere_76 : decode cX12_rankHere 76 = .ok (.ireturn, 1) := by decide +kernel
theorem dX12_isCompared_0 : decode cX12_isCompared 0 = .ok (.aload_n 0, 1) := by decide +kernel
theorem dX12_isCompared_1 : decode cX12_isCompared 1 = .ok (.getfield 354, 3) := by decide +kernel
theorem dX12_isCompared_4 : decode cX12_isCompared 4 = .ok (.iconst 1, 1) := by decide +kernel
theorem dX12_isCompared_5 : decode cX12_isCompared 5 = .ok (.isub, 1) := by decide +kernel
theorem dX12_isCompared_6 : decode cX12_isCompared 6 = .ok (.istore_n 1, 1) := by decide +kernel
theorem dX12_isCompared_7 : decode cX12_isCompared 7 = .ok (.aload_n 0, 1) := by decide +kernel
theorem dX12_isCompared_8 : decode cX12_isCompared 8 = .ok (.getfield 68, 3) := by decide +kernel
theorem dX12_isCompared_11 : decode cX12_isCompared 11 = .ok (.iload_n 1, 1) := by decide +kernel
theorem dX12_isCompared_12 : decode cX12_isCompared 12 = .ok (.iaload, 1) := by decide +kernel
theorem dX12_isCompared_13 : decode cX12_isCompared 13 = .ok (.iconst 5, 1) := by decide +kernel
theorem dX12_isCompared_14 : decode cX12_isCompared 14 = .ok (.if_icmp .ne 9, 3) := by decide +kernel
theorem dX12_isCompared_17 : decode cX12_isCompared 17 = .ok (.iinc 1 (-1), 3) := by decide +kernel
theorem dX12_isCompared_20 : decode cX12_isCompared 20 = .ok (.goto (-13), 3) := by decide +kernel
theorem dX12_isCompared_23 : decode cX12_isCompared 23 = .ok (.aload_n 0, 1) := by decide +kernel
theorem dX12_isCompared_24 : decode cX12_isCompared 24 = .ok (.getfield 68, 3) := by decide +kernel
theorem dX12_isCompared_27 : decode cX12_isCompared 27 = .ok (.iload_n 1, 1) := by decide +kernel
theorem dX12_isCompared_28 : decode cX12_isCompared 28 = .ok (.iaload, 1) := by decide +kernel
theorem dX12_isCompared_29 : decode cX12_isCompared 29 = .ok (.iconst 4, 1) := by decide +kernel
theorem dX12_isCompared_30 : decode cX12_isCompared 30 = .ok (.if_icmp .ne 7, 3) := by decide +kernel
theorem dX12_isCompared_33 : decode cX12_isCompared 33 = .ok (.iconst 1, 1) := by decide +kernel
theorem dX12_isCompared_34 : decode cX12_isCompared 34 = .ok (.goto 4, 3) := by decide +kernel
theorem dX12_isCompared_37 : decode cX12_isCompared 37 = .ok (.iconst 0, 1) := by decide +kernel
theorem dX12_isCompared_38 : decode cX12_isCompared 38 = .ok (.ireturn, 1) := by decide +kernel
theorem dX12_behindUnit_0 : decode cX12_behindUnit 0 = .ok (.aload_n 0, 1) := by decide +kernel
theorem dX12_behindUnit_1 : decode cX12_behindUnit 1 = .ok (.invokevirtual 365, 3) := by decide +kernel
theorem dX12_behindUnit_4 : decode cX12_behindUnit 4 = .ok (.istore_n 1, 1) := by decide +kernel
theorem dX12_behindUnit_5 : decode cX12_behindUnit 5 = .ok (.iload_n 1, 1) := by decide +kernel
theorem dX12_behindUnit_6 : decode cX12_behindUnit 6 = .ok (.iconst 4, 1) := by decide +kernel
theorem dX12_behindUnit_7 : decode cX12_behindUnit 7 = .ok (.if_icmp .ne 16, 3) := by decide +kernel
theorem dX12_behindUnit_10 : decode cX12_behindUnit 10 = .ok (.aload_n 0, 1) := by decide +kernel
theorem dX12_behindUnit_11 : decode cX12_behindUnit 11 = .ok (.invokevirtual 368, 3) := by decide +kernel
theorem dX12_behindUnit_14 : decode cX12_behindUnit 14 = .ok (.ifCond .eq 9, 3) := by decide +kernel
theorem dX12_behindUnit_17 : decode cX12_behindUnit 17 = .ok (.aload_n 0, 1) := by decide +kernel
theorem dX12_behindUnit_18 : decode cX12_behindUnit 18 = .ok (.invokevirtual 241, 3) := by decide +kernel
theorem dX12_behindUnit_21 : decode cX12_behindUnit 21 = .ok (.iconst 1, 1) := by decide +kernel
theorem dX12_behindUnit_22 : decode cX12_behindUnit 22 = .ok (.ireturn, 1) := by decide +kernel
theorem dX12_behindUnit_23 : decode cX12_behindUnit 23 = .ok (.aload_n 0, 1) := by decide +kernel
theorem dX12_behindUnit_24 : decode cX12_behindUnit 24 = .ok (.getfield 68, 3) := by decide +kernel
theorem dX12_behindUnit_27 : decode cX12_behindUnit 27 = .ok (.aload_n 0, 1) := by decide +kernel
theorem dX12_behindUnit_28 : decode cX12_behindUnit 28 = .ok (.getfield 354, 3) := by decide +kernel
theorem dX12_behindUnit_31 : decode cX12_behindUnit 31 = .ok (.iconst 1, 1) := by decide +kernel
theorem dX12_behindUnit_32 : decode cX12_behindUnit 32 = .ok (.isub, 1) := by decide +kernel
theorem dX12_behindUnit_33 : decode cX12_behindUnit 33 = .ok (.iaload, 1) := by decide +kernel
theorem dX12_behindUnit_34 : decode cX12_behindUnit 34 = .ok (.iconst 5, 1) := by decide +kernel
theorem dX12_behindUnit_35 : decode cX12_behindUnit 35 = .ok (.if_icmp .gt 69, 3) := by decide +kernel
theorem dX12_behindUnit_38 : decode cX12_behindUnit 38 = .ok (.aload_n 0, 1) := by decide +kernel
theorem dX12_behindUnit_39 : decode cX12_behindUnit 39 = .ok (.getfield 68, 3) := by decide +kernel
theorem dX12_behindUnit_42 : decode cX12_behindUnit 42 = .ok (.aload_n 0, 1) := by decide +kernel
theorem dX12_behindUnit_43 : decode cX12_behindUnit 43 = .ok (.getfield 354, 3) := by decide +kernel
theorem dX12_behindUnit_46 : decode cX12_behindUnit 46 = .ok (.iconst 1, 1) := by decide +kernel
theorem dX12_behindUnit_47 : decode cX12_behindUnit 47 = .ok (.isub, 1) := by decide +kernel
theorem dX12_behindUnit_48 : decode cX12_behindUnit 48 = .ok (.iaload, 1) := by decide +kernel
theorem dX12_behindUnit_49 : decode cX12_behindUnit 49 = .ok (.iload_n 1, 1) := by decide +kernel
theorem dX12_behindUnit_50 : decode cX12_behindUnit 50 = .ok (.if_icmp .lt 54, 3) := by decide +kernel
theorem dX12_behindUnit_53 : decode cX12_behindUnit 53 = .ok (.aload_n 0, 1) := by decide +kernel
theorem dX12_behindUnit_54 : decode cX12_behindUnit 54 = .ok (.dup, 1) := by decide +kernel
theorem dX12_behindUnit_55 : decode cX12_behindUnit 55 = .ok (.getfield 354, 3) := by decide +kernel
theorem dX12_behindUnit_58 : decode cX12_behindUnit 58 = .ok (.iconst 1, 1) := by decide +kernel
theorem dX12_behindUnit_59 : decode cX12_behindUnit 59 = .ok (.isub, 1) := by decide +kernel
theorem dX12_behindUnit_60 : decode cX12_behindUnit 60 = .ok (.putfield 354, 3) := by decide +kernel
theorem dX12_behindUnit_63 : decode cX12_behindUnit 63 = .ok (.aload_n 0, 1) := by decide +kernel
theorem dX12_behindUnit_64 : decode cX12_behindUnit 64 = .ok (.getfield 68, 3) := by decide +kernel
theorem dX12_behindUnit_67 : decode cX12_behindUnit 67 = .ok (.aload_n 0, 1) := by decide +kernel
theorem dX12_behindUnit_68 : decode cX12_behindUnit 68 = .ok (.getfield 354, 3) := by decide +kernel
theorem dX12_behindUnit_71 : decode cX12_behindUnit 71 = .ok (.iaload, 1) := by decide +kernel
theorem dX12_behindUnit_72 : decode cX12_behindUnit 72 = .ok (.iconst 3, 1) := by decide +kernel
theorem dX12_behindUnit_73 : decode cX12_behindUnit 73 = .ok (.if_icmp .ne 13, 3) := by decide +kernel
theorem dX12_behindUnit_76 : decode cX12_behindUnit 76 = .ok (.aload_n 0, 1) := by decide +kernel
theorem dX12_behindUnit_77 : decode cX12_behindUnit 77 = .ok (.dup, 1) := by decide +kernel
theorem dX12_behindUnit_78 : decode cX12_behindUnit 78 = .ok (.getfield 323, 3) := by decide +kernel
theorem dX12_behindUnit_81 : decode cX12_behindUnit 81 = .ok (.iconst 1, 1) := by decide +kernel
theorem dX12_behindUnit_82 : decode cX12_behindUnit 82 = .ok (.isub, 1) := by decide +kernel
theorem dX12_behindUnit_83 : decode cX12_behindUnit 83 = .ok (.putfield 323, 3) := by decide +kernel
theorem dX12_behindUnit_86 : decode cX12_behindUnit 86 = .ok (.aload_n 0, 1) := by decide +kernel
theorem dX12_behindUnit_87 : decode cX12_behindUnit 87 = .ok (.aload_n 0, 1) := by decide +kernel
theorem dX12_behindUnit_88 : decode cX12_behindUnit 88 = .ok (.getfield 71, 3) := by decide +kernel
theorem dX12_behindUnit_91 : decode cX12_behindUnit 91 = .ok (.aload_n 0, 1) := by decide +kernel
theorem dX12_behindUnit_92 : decode cX12_behindUnit 92 = .ok (.getfield 354, 3) := by decide +kernel
theorem dX12_behindUnit_95 : decode cX12_behindUnit 95 = .ok (.iaload, 1) := by decide +kernel
theorem dX12_behindUnit_96 : decode cX12_behindUnit 96 = .ok (.iconst 0, 1) := by decide +kernel
theorem dX12_behindUnit_97 : decode cX12_behindUnit 97 = .ok (.iconst 0, 1) := by decide +kernel
theorem dX12_behindUnit_98 : decode cX12_behindUnit 98 = .ok (.invokevirtual 341, 3) := by decide +kernel
theorem dX12_behindUnit_101 : decode cX12_behindUnit 101 = .ok (.goto (-78), 3) := by decide +kernel
theorem dX12_behindUnit_104 : decode cX12_behindUnit 104 = .ok (.iload_n 1, 1) := by decide +kernel
theorem dX12_behindUnit_105 : decode cX12_behindUnit 105 = .ok (.ifCond .le 42, 3) := by decide +kernel
theorem dX12_behindUnit_108 : decode cX12_behindUnit 108 = .ok (.aload_n 0, 1) := by decide +kernel
theorem dX12_behindUnit_109 : decode cX12_behindUnit 109 = .ok (.iload_n 1, 1) := by decide +kernel
theorem dX12_behindUnit_110 : decode cX12_behindUnit 110 = .ok (.iload_n 1, 1) := by decide +kernel
theorem dX12_behindUnit_111 : decode cX12_behindUnit 111 = .ok (.iconst 2, 1) := by decide +kernel
theorem dX12_behindUnit_112 : decode cX12_behindUnit 112 = .ok (.if_icmp .ne 8, 3) := by decide +kernel
theorem dX12_behindUnit_115 : decode cX12_behindUnit 115 = .ok (.bipush 38, 2) := by decide +kernel
theorem dX12_behindUnit_117 : decode cX12_behindUnit 117 = .ok (.goto 21, 3) := by decide +kernel
theorem dX12_behindUnit_120 : decode cX12_behindUnit 120 = .ok (.iload_n 1, 1) := by decide +kernel
theorem dX12_behindUnit_121 : decode cX12_behindUnit 121 = .ok (.iconst 1, 1) := by decide +kernel
theorem dX12_behindUnit_122 : decode cX12_behindUnit 122 = .ok (.if_icmp .ne 8, 3) := by decide +kernel
theorem dX12_behindUnit_125 : decode cX12_behindUnit 125 = .ok (.bipush 124, 2) := by decide +kernel
theorem dX12_behindUnit_127 : decode cX12_behindUnit 127 = .ok (.goto 11, 3) := by decide +kernel
theorem dX12_behindUnit_130 : decode cX12_behindUnit 130 = .ok (.aload_n 0, 1) := by decide +kernel
theorem dX12_behindUnit_131 : decode cX12_behindUnit 131 = .ok (.aload_n 0, 1) := by decide +kernel
theorem dX12_behindUnit_132 : decode cX12_behindUnit 132 = .ok (.getfield 199, 3) := by decide +kernel
theorem dX12_behindUnit_135 : decode cX12_behindUnit 135 = .ok (.invokevirtual 202, 3) := by decide +kernel
theorem dX12_behindUnit_138 : decode cX12_behindUnit 138 = .ok (.invokevirtual 357, 3) := by decide +kernel
theorem dX12_behindUnit_141 : decode cX12_behindUnit 141 = .ok (.aload_n 0, 1) := by decide +kernel
theorem dX12_behindUnit_142 : decode cX12_behindUnit 142 = .ok (.invokevirtual 238, 3) := by decide +kernel
theorem dX12_behindUnit_145 : decode cX12_behindUnit 145 = .ok (.iconst 1, 1) := by decide +kernel
theorem dX12_behindUnit_146 : decode cX12_behindUnit 146 = .ok (.ireturn, 1) := by decide +kernel
theorem dX12_behindUnit_147 : decode cX12_behindUnit 147 = .ok (.aload_n 0, 1) := by decide +kernel
theorem dX12_behindUnit_148 : decode cX12_behindUnit 148 = .ok (.dup, 1) := by decide +kernel
theorem dX12_behindUnit_149 : decode cX12_behindUnit 149 = .ok (.getfield 354, 3) := by decide +kernel
theorem dX12_behindUnit_152 : decode cX12_behindUnit 152 = .ok (.iconst 1, 1) := by decide +kernel
theorem dX12_behindUnit_153 : decode cX12_behindUnit 153 = .ok (.isub, 1) := by decide +kernel
theorem dX12_behindUnit_154 : decode cX12_behindUnit 154 = .ok (.putfield 354, 3) := by decide +kernel
theorem dX12_behindUnit_157 : decode cX12_behindUnit 157 = .ok (.aload_n 0, 1) := by decide +kernel
theorem dX12_behindUnit_158 : decode cX12_behindUnit 158 = .ok (.getfield 68, 3) := by decide +kernel
theorem dX12_behindUnit_161 : decode cX12_behindUnit 161 = .ok (.aload_n 0, 1) := by decide +kernel
theorem dX12_behindUnit_162 : decode cX12_behindUnit 162 = .ok (.getfield 354, 3) := by decide +kernel
theorem dX12_behindUnit_165 : decode cX12_behindUnit 165 = .ok (.iaload, 1) := by decide +kernel
theorem dX12_behindUnit_166 : decode cX12_behindUnit 166 = .ok (.bipush 6, 2) := by decide +kernel
theorem dX12_behindUnit_168 : decode cX12_behindUnit 168 = .ok (.if_icmp .ne 23, 3) := by decide +kernel
theorem dX12_behindUnit_171 : decode cX12_behindUnit 171 = .ok (.aload_n 0, 1) := by decide +kernel
theorem dX12_behindUnit_172 : decode cX12_behindUnit 172 = .ok (.dup, 1) := by decide +kernel
theorem dX12_behindUnit_173 : decode cX12_behindUnit 173 = .ok (.getfield 323, 3) := by decide +kernel
theorem dX12_behindUnit_176 : decode cX12_behindUnit 176 = .ok (.iconst 1, 1) := by decide +kernel
theorem dX12_behindUnit_177 : decode cX12_behindUnit 177 = .ok (.isub, 1) := by decide +kernel
theorem dX12_behindUnit_178 : decode cX12_behindUnit 178 = .ok (.putfield 323, 3) := by decide +kernel
theorem dX12_behindUnit_181 : decode cX12_behindUnit 181 = .ok (.aload_n 0, 1) := by decide +kernel
theorem dX12_behindUnit_182 : decode cX12_behindUnit 182 = .ok (.aload_n 0, 1) := by decide +kernel
theorem dX12_behindUnit_183 : decode cX12_behindUnit 183 = .ok (.bipush 41, 2) := by decide +kernel
theorem dX12_behindUnit_185 : decode cX12_behindUnit 185 = .ok (.invokevirtual 285, 3) := by decide +kernel
theorem dX12_behindUnit_188 : decode cX12_behindUnit 188 = .ok (.invokevirtual 288, 3) := by decide +kernel
theorem dX12_behindUnit_191 : decode cX12_behindUnit 191 = .ok (.iconst 0, 1) := by decide +kernel
theorem dX12_behindUnit_192 : decode cX12_behindUnit 192 = .ok (.ireturn, 1) := by decide +kernel
theorem dX12_fault_0 : decode cX12_fault 0 = .ok (.iload_n 1, 1) := by decide +kernel
theorem dX12_fault_1 : decode cX12_fault 1 = .ok (.ifCond .ne 10, 3) := by decide +kernel
theorem dX12_fault_4 : decode cX12_fault 4 = .ok (.aload_n 0, 1) := by decide +kernel
theorem dX12_fault_5 : decode cX12_fault 5 = .ok (.getfield 153, 3) := by decide +kernel
theorem dX12_fault_8 : decode cX12_fault 8 = .ok (.goto 16, 3) := by decide +kernel
theorem dX12_fault_11 : decode cX12_fault 11 = .ok (.iload_n 1, 1) := by decide +kernel
theorem dX12_fault_12 : decode cX12_fault 12 = .ok (.iconst 1, 1) := by decide +kernel
theorem dX12_fault_13 : decode cX12_fault 13 = .ok (.if_icmp .ne 10, 3) := by decide +kernel
theorem dX12_fault_16 : decode cX12_fault 16 = .ok (.aload_n 0, 1) := by decide +kernel
theorem dX12_fault_17 : decode cX12_fault 17 = .ok (.getfield 16, 3) := by decide +kernel
theorem dX12_fault_20 : decode cX12_fault 20 = .ok (.goto 4, 3) := by decide +kernel
theorem dX12_fault_23 : decode cX12_fault 23 = .ok (.iconst (-1), 1) := by decide +kernel
theorem dX12_fault_24 : decode cX12_fault 24 = .ok (.ireturn, 1) := by decide +kernel
theorem dX12_isIn_0 : decode cX12_isIn 0 = .ok (.iload_n 0, 1) := by decide +kernel
theorem dX12_isIn_1 : decode cX12_isIn 1 = .ok (.iload_n 1, 1) := by decide +kernel
theorem dX12_isIn_2 : decode cX12_isIn 2 = .ok (.if_icmp .lt 12, 3) := by decide +kernel
theorem dX12_isIn_5 : decode cX12_isIn 5 = .ok (.iload_n 0, 1) := by decide +kernel
theorem dX12_isIn_6 : decode cX12_isIn 6 = .ok (.iload_n 2, 1) := by decide +kernel
theorem dX12_isIn_7 : decode cX12_isIn 7 = .ok (.if_icmp .gt 7, 3) := by decide +kernel
theorem dX12_isIn_10 : decode cX12_isIn 10 = .ok (.iconst 1, 1) := by decide +kernel
theorem dX12_isIn_11 : decode cX12_isIn 11 = .ok (.goto 4, 3) := by decide +kernel
theorem dX12_isIn_14 : decode cX12_isIn 14 = .ok (.iconst 0, 1) := by decide +kernel
theorem dX12_isIn_15 : decode cX12_isIn 15 = .ok (.ireturn, 1) := by decide +kernel
theorem dX12_nameMany_0 : decode cX12_nameMany 0 = .ok (.aload_n 0, 1) := by decide +kernel
theorem dX12_nameMany_1 : decode cX12_nameMany 1 = .ok (.getfield 20, 3) := by decide +kernel
theorem dX12_nameMany_4 : decode cX12_nameMany 4 = .ok (.aload_n 0, 1) := by decide +kernel
theorem dX12_nameMany_5 : decode cX12_nameMany 5 = .ok (.getfield 253, 3) := by decide +kernel
theorem dX12_nameMany_8 : decode cX12_nameMany 8 = .ok (.iaload, 1) := by decide +kernel
theorem dX12_nameMany_9 : decode cX12_nameMany 9 = .ok (.ireturn, 1) := by decide +kernel
theorem dX12_voterMany_0 : decode cX12_voterMany 0 = .ok (.aload_n 0, 1) := by decide +kernel
theorem dX12_voterMany_1 : decode cX12_voterMany 1 = .ok (.getfield 27, 3) := by decide +kernel
theorem dX12_voterMany_4 : decode cX12_voterMany 4 = .ok (.aload_n 0, 1) := by decide +kernel
theorem dX12_voterMany_5 : decode cX12_voterMany 5 = .ok (.getfield 253, 3) := by decide +kernel
theorem dX12_voterMany_8 : decode cX12_voterMany 8 = .ok (.iaload, 1) := by decide +kernel
theorem dX12_voterMany_9 : decode cX12_voterMany 9 = .ok (.ireturn, 1) := by decide +kernel
theorem dX12_isVoter_0 : decode cX12_isVoter 0 = .ok (.iload_n 1, 1) := by decide +kernel
theorem dX12_isVoter_1 : decode cX12_isVoter 1 = .ok (.iconst 0, 1) := by decide +kernel
theorem dX12_isVoter_2 : decode cX12_isVoter 2 = .ok (.aload_n 0, 1) := by decide +kernel
theorem dX12_isVoter_3 : decode cX12_isVoter 3 = .ok (.invokevirtual 371, 3) := by decide +kernel
theorem dX12_isVoter_6 : decode cX12_isVoter 6 = .ok (.iconst 1, 1) := by decide +kernel
theorem dX12_isVoter_7 : decode cX12_isVoter 7 = .ok (.isub, 1) := by decide +kernel
theorem dX12_isVoter_8 : decode cX12_isVoter 8 = .ok (.invokestatic 374, 3) := by decide +kernel
theorem dX12_isVoter_11 : decode cX12_isVoter 11 = .ok (.ireturn, 1) := by decide +kernel
theorem dX12_bitsOf_0 : decode cX12_bitsOf 0 = .ok (.iconst 0, 1) := by decide +kernel
theorem dX12_bitsOf_1 : decode cX12_bitsOf 1 = .ok (.istore_n 1, 1) := by decide +kernel
theorem dX12_bitsOf_2 : decode cX12_bitsOf 2 = .ok (.iconst 0, 1) := by decide +kernel
theorem dX12_bitsOf_3 : decode cX12_bitsOf 3 = .ok (.istore_n 2, 1) := by decide +kernel
theorem dX12_bitsOf_4 : decode cX12_bitsOf 4 = .ok (.iload_n 2, 1) := by decide +kernel
theorem dX12_bitsOf_5 : decode cX12_bitsOf 5 = .ok (.bipush 31, 2) := by decide +kernel
theorem dX12_bitsOf_7 : decode cX12_bitsOf 7 = .ok (.if_icmp .ge 17, 3) := by decide +kernel
theorem dX12_bitsOf_10 : decode cX12_bitsOf 10 = .ok (.iload_n 1, 1) := by decide +kernel
theorem dX12_bitsOf_11 : decode cX12_bitsOf 11 = .ok (.iload_n 0, 1) := by decide +kernel
theorem dX12_bitsOf_12 : decode cX12_bitsOf 12 = .ok (.iload_n 2, 1) := by decide +kernel
theorem dX12_bitsOf_13 : decode cX12_bitsOf 13 = .ok (.ishr, 1) := by decide +kernel
theorem dX12_bitsOf_14 : decode cX12_bitsOf 14 = .ok (.iconst 1, 1) := by decide +kernel
theorem dX12_bitsOf_15 : decode cX12_bitsOf 15 = .ok (.iand, 1) := by decide +kernel
theorem dX12_bitsOf_16 : decode cX12_bitsOf 16 = .ok (.iadd, 1) := by decide +kernel
theorem dX12_bitsOf_17 : decode cX12_bitsOf 17 = .ok (.istore_n 1, 1) := by decide +kernel
theorem dX12_bitsOf_18 : decode cX12_bitsOf 18 = .ok (.iinc 2 1, 3) := by decide +kernel
theorem dX12_bitsOf_21 : decode cX12_bitsOf 21 = .ok (.goto (-17), 3) := by decide +kernel
theorem dX12_bitsOf_24 : decode cX12_bitsOf 24 = .ok (.iload_n 1, 1) := by decide +kernel
theorem dX12_bitsOf_25 : decode cX12_bitsOf 25 = .ok (.ireturn, 1) := by decide +kernel
theorem dX12_votesOf_0 : decode cX12_votesOf 0 = .ok (.aload_n 0, 1) := by decide +kernel
theorem dX12_votesOf_1 : decode cX12_votesOf 1 = .ok (.getfield 86, 3) := by decide +kernel
theorem dX12_votesOf_4 : decode cX12_votesOf 4 = .ok (.ifCond .lt 30, 3) := by decide +kernel
theorem dX12_votesOf_7 : decode cX12_votesOf 7 = .ok (.aload_n 0, 1) := by decide +kernel
theorem dX12_votesOf_8 : decode cX12_votesOf 8 = .ok (.getfield 80, 3) := by decide +kernel
theorem dX12_votesOf_11 : decode cX12_votesOf 11 = .ok (.bipush 8, 2) := by decide +kernel
theorem dX12_votesOf_13 : decode cX12_votesOf 13 = .ok (.iaload, 1) := by decide +kernel
theorem dX12_votesOf_14 : decode cX12_votesOf 14 = .ok (.iload_n 2, 1) := by decide +kernel
theorem dX12_votesOf_15 : decode cX12_votesOf 15 = .ok (.if_icmp .ne 19, 3) := by decide +kernel
theorem dX12_votesOf_18 : decode cX12_votesOf 18 = .ok (.iload_n 3, 1) := by decide +kernel
theorem dX12_votesOf_19 : decode cX12_votesOf 19 = .ok (.ifCond .lt 11, 3) := by decide +kernel
theorem dX12_votesOf_22 : decode cX12_votesOf 22 = .ok (.aload_n 0, 1) := by decide +kernel
theorem dX12_votesOf_23 : decode cX12_votesOf 23 = .ok (.getfield 86, 3) := by decide +kernel
theorem dX12_votesOf_26 : decode cX12_votesOf 26 = .ok (.iload_n 3, 1) := by decide +kernel
theorem dX12_votesOf_27 : decode cX12_votesOf 27 = .ok (.if_icmp .ne 7, 3) := by decide +kernel
theorem dX12_votesOf_30 : decode cX12_votesOf 30 = .ok (.iconst 1, 1) := by decide +kernel
theorem dX12_votesOf_31 : decode cX12_votesOf 31 = .ok (.goto 4, 3) := by decide +kernel
theorem dX12_votesOf_34 : decode cX12_votesOf 34 = .ok (.iconst 0, 1) := by decide +kernel
theorem dX12_votesOf_35 : decode cX12_votesOf 35 = .ok (.istore 4, 2) := by decide +kernel
theorem dX12_votesOf_37 : decode cX12_votesOf 37 = .ok (.iconst 0, 1) := by decide +kernel
theorem dX12_votesOf_38 : decode cX12_votesOf 38 = .ok (.istore 5, 2) := by decide +kernel
theorem dX12_votesOf_40 : decode cX12_votesOf 40 = .ok (.iload 5, 2) := by decide +kernel
theorem dX12_votesOf_42 : decode cX12_votesOf 42 = .ok (.aload_n 0, 1) := by decide +kernel
theorem dX12_votesOf_43 : decode cX12_votesOf 43 = .ok (.invokevirtual 371, 3) := by decide +kernel
theorem dX12_votesOf_46 : decode cX12_votesOf 46 = .ok (.if_icmp .ge 65, 3) := by decide +kernel
theorem dX12_votesOf_49 : decode cX12_votesOf 49 = .ok (.bipush 8, 2) := by decide +kernel
theorem dX12_votesOf_51 : decode cX12_votesOf 51 = .ok (.aload_n 0, 1) := by decide +kernel
theorem dX12_votesOf_52 : decode cX12_votesOf 52 = .ok (.getfield 253, 3) := by decide +kernel
theorem dX12_votesOf_55 : decode cX12_votesOf 55 = .ok (.imul, 1) := by decide +kernel
theorem dX12_votesOf_56 : decode cX12_votesOf 56 = .ok (.iload 5, 2) := by decide +kernel
theorem dX12_votesOf_58 : decode cX12_votesOf 58 = .ok (.iadd, 1) := by decide +kernel
theorem dX12_votesOf_59 : decode cX12_votesOf 59 = .ok (.istore 6, 2) := by decide +kernel
theorem dX12_votesOf_61 : decode cX12_votesOf 61 = .ok (.iload 5, 2) := by decide +kernel
theorem dX12_votesOf_63 : decode cX12_votesOf 63 = .ok (.iload_n 1, 1) := by decide +kernel
theorem dX12_votesOf_64 : decode cX12_votesOf 64 = .ok (.if_icmp .eq 41, 3) := by decide +kernel
theorem dX12_votesOf_67 : decode cX12_votesOf 67 = .ok (.aload_n 0, 1) := by decide +kernel
theorem dX12_votesOf_68 : decode cX12_votesOf 68 = .ok (.getfield 80, 3) := by decide +kernel
theorem dX12_votesOf_71 : decode cX12_votesOf 71 = .ok (.iload 5, 2) := by decide +kernel
theorem dX12_votesOf_73 : decode cX12_votesOf 73 = .ok (.iaload, 1) := by decide +kernel
theorem dX12_votesOf_74 : decode cX12_votesOf 74 = .ok (.iload_n 2, 1) := by decide +kernel
theorem dX12_votesOf_75 : decode cX12_votesOf 75 = .ok (.if_icmp .ne 30, 3) := by decide +kernel
theorem dX12_votesOf_78 : decode cX12_votesOf 78 = .ok (.iload_n 3, 1) := by decide +kernel
theorem dX12_votesOf_79 : decode cX12_votesOf 79 = .ok (.ifCond .lt 14, 3) := by decide +kernel
theorem dX12_votesOf_82 : decode cX12_votesOf 82 = .ok (.aload_n 0, 1) := by decide +kernel
theorem dX12_votesOf_83 : decode cX12_votesOf 83 = .ok (.getfield 43, 3) := by decide +kernel
theorem dX12_votesOf_86 : decode cX12_votesOf 86 = .ok (.iload 6, 2) := by decide +kernel
theorem dX12_votesOf_88 : decode cX12_votesOf 88 = .ok (.iaload, 1) := by decide +kernel
theorem dX12_votesOf_89 : decode cX12_votesOf 89 = .ok (.iload_n 3, 1) := by decide +kernel
theorem dX12_votesOf_90 : decode cX12_votesOf 90 = .ok (.if_icmp .ne 15, 3) := by decide +kernel
theorem dX12_votesOf_93 : decode cX12_votesOf 93 = .ok (.iload 4, 2) := by decide +kernel
theorem dX12_votesOf_95 : decode cX12_votesOf 95 = .ok (.aload_n 0, 1) := by decide +kernel
theorem dX12_votesOf_96 : decode cX12_votesOf 96 = .ok (.getfield 46, 3) := by decide +kernel
theorem dX12_votesOf_99 : decode cX12_votesOf 99 = .ok (.iload 6, 2) := by decide +kernel
theorem dX12_votesOf_101 : decode cX12_votesOf 101 = .ok (.iaload, 1) := by decide +kernel
theorem dX12_votesOf_102 : decode cX12_votesOf 102 = .ok (.iadd, 1) := by decide +kernel
theorem dX12_votesOf_103 : decode cX12_votesOf 103 = .ok (.istore 4, 2) := by decide +kernel
theorem dX12_votesOf_105 : decode cX12_votesOf 105 = .ok (.iinc 5 1, 3) := by decide +kernel
theorem dX12_votesOf_108 : decode cX12_votesOf 108 = .ok (.goto (-68), 3) := by decide +kernel
theorem dX12_votesOf_111 : decode cX12_votesOf 111 = .ok (.iload 4, 2) := by decide +kernel
theorem dX12_votesOf_113 : decode cX12_votesOf 113 = .ok (.ireturn, 1) := by decide +kernel
theorem dX12_outmost_0 : decode cX12_outmost 0 = .ok (.iconst 0, 1) := by decide +kernel
theorem dX12_outmost_1 : decode cX12_outmost 1 = .ok (.istore 4, 2) := by decide +kernel
theorem dX12_outmost_3 : decode cX12_outmost 3 = .ok (.iconst 0, 1) := by decide +kernel
theorem dX12_outmost_4 : decode cX12_outmost 4 = .ok (.istore 5, 2) := by decide +kernel
theorem dX12_outmost_6 : decode cX12_outmost 6 = .ok (.iconst 1, 1) := by decide +kernel
theorem dX12_outmost_7 : decode cX12_outmost 7 = .ok (.istore 6, 2) := by decide +kernel
theorem dX12_outmost_9 : decode cX12_outmost 9 = .ok (.iload 6, 2) := by decide +kernel
theorem dX12_outmost_11 : decode cX12_outmost 11 = .ok (.aload_n 0, 1) := by decide +kernel
theorem dX12_outmost_12 : decode cX12_outmost 12 = .ok (.invokevirtual 378, 3) := by decide +kernel
theorem dX12_outmost_15 : decode cX12_outmost 15 = .ok (.if_icmp .gt 73, 3) := by decide +kernel
theorem dX12_outmost_18 : decode cX12_outmost 18 = .ok (.aload_n 0, 1) := by decide +kernel
theorem dX12_outmost_19 : decode cX12_outmost 19 = .ok (.iload_n 1, 1) := by decide +kernel
theorem dX12_outmost_20 : decode cX12_outmost 20 = .ok (.iload 6, 2) := by decide +kernel
theorem dX12_outmost_22 : decode cX12_outmost 22 = .ok (.iload_n 3, 1) := by decide +kernel
theorem dX12_outmost_23 : decode cX12_outmost 23 = .ok (.invokevirtual 381, 3) := by decide +kernel
theorem dX12_outmost_26 : decode cX12_outmost 26 = .ok (.istore 7, 2) := by decide +kernel
theorem dX12_outmost_28 : decode cX12_outmost 28 = .ok (.iload_n 2, 1) := by decide +kernel
theorem dX12_outmost_29 : decode cX12_outmost 29 = .ok (.ifCond .eq 18, 3) := by decide +kernel
theorem dX12_outmost_32 : decode cX12_outmost 32 = .ok (.iload 7, 2) := by decide +kernel
theorem dX12_outmost_34 : decode cX12_outmost 34 = .ok (.iload 5, 2) := by decide +kernel
theorem dX12_outmost_36 : decode cX12_outmost 36 = .ok (.if_icmp .le 7, 3) := by decide +kernel
theorem dX12_outmost_39 : decode cX12_outmost 39 = .ok (.iconst 1, 1) := by decide +kernel
theorem dX12_outmost_40 : decode cX12_outmost 40 = .ok (.goto 24, 3) := by decide +kernel
theorem dX12_outmost_43 : decode cX12_outmost 43 = .ok (.iconst 0, 1) := by decide +kernel
theorem dX12_outmost_44 : decode cX12_outmost 44 = .ok (.goto 20, 3) := by decide +kernel
theorem dX12_outmost_47 : decode cX12_outmost 47 = .ok (.iload 4, 2) := by decide +kernel
theorem dX12_outmost_49 : decode cX12_outmost 49 = .ok (.ifCond .eq 10, 3) := by decide +kernel
theorem dX12_outmost_52 : decode cX12_outmost 52 = .ok (.iload 7, 2) := by decide +kernel
theorem dX12_outmost_54 : decode cX12_outmost 54 = .ok (.iload 5, 2) := by decide +kernel
theorem dX12_outmost_56 : decode cX12_outmost 56 = .ok (.if_icmp .ge 7, 3) := by decide +kernel
theorem dX12_outmost_59 : decode cX12_outmost 59 = .ok (.iconst 1, 1) := by decide +kernel
theorem dX12_outmost_60 : decode cX12_outmost 60 = .ok (.goto 4, 3) := by decide +kernel
theorem dX12_outmost_63 : decode cX12_outmost 63 = .ok (.iconst 0, 1) := by decide +kernel
theorem dX12_outmost_64 : decode cX12_outmost 64 = .ok (.istore 8, 2) := by decide +kernel
theorem dX12_outmost_66 : decode cX12_outmost 66 = .ok (.iload 8, 2) := by decide +kernel
theorem dX12_outmost_68 : decode cX12_outmost 68 = .ok (.ifCond .ne 6, 3) := by decide +kernel
theorem dX12_outmost_71 : decode cX12_outmost 71 = .ok (.goto 11, 3) := by decide +kernel
theorem dX12_outmost_74 : decode cX12_outmost 74 = .ok (.iload 6, 2) := by decide +kernel
theorem dX12_outmost_76 : decode cX12_outmost 76 = .ok (.istore 4, 2) := by decide +kernel
theorem dX12_outmost_78 : decode cX12_outmost 78 = .ok (.iload 7, 2) := by decide +kernel
theorem dX12_outmost_80 : decode cX12_outmost 80 = .ok (.istore 5, 2) := by decide +kernel
theorem dX12_outmost_82 : decode cX12_outmost 82 = .ok (.iinc 6 1, 3) := by decide +kernel
theorem dX12_outmost_85 : decode cX12_outmost 85 = .ok (.goto (-76), 3) := by decide +kernel
theorem dX12_outmost_88 : decode cX12_outmost 88 = .ok (.iload 4, 2) := by decide +kernel
theorem dX12_outmost_90 : decode cX12_outmost 90 = .ok (.ireturn, 1) := by decide +kernel
theorem dX12_come_0 : decode cX12_come 0 = .ok (.iload_n 0, 1) := by decide +kernel
theorem dX12_come_1 : decode cX12_come 1 = .ok (.lookupswitch 114 #[(38, 100), (43, 59), (45, 63), (60, 67), (61, 89), (62, 78)], 59) := by decide +kernel
theorem dX12_come_60 : decode cX12_come 60 = .ok (.iload_n 1, 1) := by decide +kernel
theorem dX12_come_61 : decode cX12_come 61 = .ok (.iload_n 2, 1) := by decide +kernel
theorem dX12_come_62 : decode cX12_come 62 = .ok (.iadd, 1) := by decide +kernel
theorem dX12_come_63 : decode cX12_come 63 = .ok (.ireturn, 1) := by decide +kernel
theorem dX12_come_64 : decode cX12_come 64 = .ok (.iload_n 1, 1) := by decide +kernel
theorem dX12_come_65 : decode cX12_come 65 = .ok (.iload_n 2, 1) := by decide +kernel
theorem dX12_come_66 : decode cX12_come 66 = .ok (.isub, 1) := by decide +kernel
theorem dX12_come_67 : decode cX12_come 67 = .ok (.ireturn, 1) := by decide +kernel
theorem dX12_come_68 : decode cX12_come 68 = .ok (.iload_n 1, 1) := by decide +kernel
theorem dX12_come_69 : decode cX12_come 69 = .ok (.iload_n 2, 1) := by decide +kernel
theorem dX12_come_70 : decode cX12_come 70 = .ok (.if_icmp .ge 7, 3) := by decide +kernel
theorem dX12_come_73 : decode cX12_come 73 = .ok (.iconst 1, 1) := by decide +kernel
theorem dX12_come_74 : decode cX12_come 74 = .ok (.goto 4, 3) := by decide +kernel
theorem dX12_come_77 : decode cX12_come 77 = .ok (.iconst 0, 1) := by decide +kernel
theorem dX12_come_78 : decode cX12_come 78 = .ok (.ireturn, 1) := by decide +kernel
theorem dX12_come_79 : decode cX12_come 79 = .ok (.iload_n 1, 1) := by decide +kernel
theorem dX12_come_80 : decode cX12_come 80 = .ok (.iload_n 2, 1) := by decide +kernel
theorem dX12_come_81 : decode cX12_come 81 = .ok (.if_icmp .le 7, 3) := by decide +kernel
theorem dX12_come_84 : decode cX12_come 84 = .ok (.iconst 1, 1) := by decide +kernel
theorem dX12_come_85 : decode cX12_come 85 = .ok (.goto 4, 3) := by decide +kernel
theorem dX12_come_88 : decode cX12_come 88 = .ok (.iconst 0, 1) := by decide +kernel
theorem dX12_come_89 : decode cX12_come 89 = .ok (.ireturn, 1) := by decide +kernel
theorem dX12_come_90 : decode cX12_come 90 = .ok (.iload_n 1, 1) := by decide +kernel
theorem dX12_come_91 : decode cX12_come 91 = .ok (.iload_n 2, 1) := by decide +kernel
theorem dX12_come_92 : decode cX12_come 92 = .ok (.if_icmp .ne 7, 3) := by decide +kernel
theorem dX12_come_95 : decode cX12_come 95 = .ok (.iconst 1, 1) := by decide +kernel
theorem dX12_come_96 : decode cX12_come 96 = .ok (.goto 4, 3) := by decide +kernel
theorem dX12_come_99 : decode cX12_come 99 = .ok (.iconst 0, 1) := by decide +kernel
theorem dX12_come_100 : decode cX12_come 100 = .ok (.ireturn, 1) := by decide +kernel
theorem dX12_come_101 : decode cX12_come 101 = .ok (.iload_n 1, 1) := by decide +kernel
theorem dX12_come_102 : decode cX12_come 102 = .ok (.ifCond .eq 11, 3) := by decide +kernel
theorem dX12_come_105 : decode cX12_come 105 = .ok (.iload_n 2, 1) := by decide +kernel
theorem dX12_come_106 : decode cX12_come 106 = .ok (.ifCond .eq 7, 3) := by decide +kernel
theorem dX12_come_109 : decode cX12_come 109 = .ok (.iconst 1, 1) := by decide +kernel
theorem dX12_come_110 : decode cX12_come 110 = .ok (.goto 4, 3) := by decide +kernel
theorem dX12_come_113 : decode cX12_come 113 = .ok (.iconst 0, 1) := by decide +kernel
theorem dX12_come_114 : decode cX12_come 114 = .ok (.ireturn, 1) := by decide +kernel
theorem dX12_come_115 : decode cX12_come 115 = .ok (.iload_n 1, 1) := by decide +kernel
theorem dX12_come_116 : decode cX12_come 116 = .ok (.ifCond .ne 7, 3) := by decide +kernel
theorem dX12_come_119 : decode cX12_come 119 = .ok (.iload_n 2, 1) := by decide +kernel
theorem dX12_come_120 : decode cX12_come 120 = .ok (.ifCond .eq 7, 3) := by decide +kernel
theorem dX12_come_123 : decode cX12_come 123 = .ok (.iconst 1, 1) := by decide +kernel
theorem dX12_come_124 : decode cX12_come 124 = .ok (.goto 4, 3) := by decide +kernel
theorem dX12_come_127 : decode cX12_come 127 = .ok (.iconst 0, 1) := by decide +kernel
theorem dX12_come_128 : decode cX12_come 128 = .ok (.ireturn, 1) := by decide +kernel
theorem dX12_saysNow_0 : decode cX12_saysNow 0 = .ok (.bipush 8, 2) := by decide +kernel
theorem dX12_saysNow_2 : decode cX12_saysNow 2 = .ok (.aload_n 0, 1) := by decide +kernel
theorem dX12_saysNow_3 : decode cX12_saysNow 3 = .ok (.getfield 253, 3) := by decide +kernel
theorem dX12_saysNow_6 : decode cX12_saysNow 6 = .ok (.imul, 1) := by decide +kernel
theorem dX12_saysNow_7 : decode cX12_saysNow 7 = .ok (.iload_n 1, 1) := by decide +kernel
theorem dX12_saysNow_8 : decode cX12_saysNow 8 = .ok (.iadd, 1) := by decide +kernel
theorem dX12_saysNow_9 : decode cX12_saysNow 9 = .ok (.istore_n 2, 1) := by decide +kernel
theorem dX12_saysNow_10 : decode cX12_saysNow 10 = .ok (.iconst 0, 1) := by decide +kernel
theorem dX12_saysNow_11 : decode cX12_saysNow 11 = .ok (.istore_n 3, 1) := by decide +kernel
theorem dX12_saysNow_12 : decode cX12_saysNow 12 = .ok (.iconst 0, 1) := by decide +kernel
theorem dX12_saysNow_13 : decode cX12_saysNow 13 = .ok (.istore 4, 2) := by decide +kernel
theorem dX12_saysNow_15 : decode cX12_saysNow 15 = .ok (.iload 4, 2) := by decide +kernel
theorem dX12_saysNow_17 : decode cX12_saysNow 17 = .ok (.aload_n 0, 1) := by decide +kernel
theorem dX12_saysNow_18 : decode cX12_saysNow 18 = .ok (.getfield 53, 3) := by decide +kernel
theorem dX12_saysNow_21 : decode cX12_saysNow 21 = .ok (.iload_n 2, 1) := by decide +kernel
theorem dX12_saysNow_22 : decode cX12_saysNow 22 = .ok (.iaload, 1) := by decide +kernel
theorem dX12_saysNow_23 : decode cX12_saysNow 23 = .ok (.if_icmp .ge 247, 3) := by decide +kernel
theorem dX12_saysNow_26 : decode cX12_saysNow 26 = .ok (.sipush 640, 3) := by decide +kernel
theorem dX12_saysNow_29 : decode cX12_saysNow 29 = .ok (.iload_n 2, 1) := by decide +kernel
theorem dX12_saysNow_30 : decode cX12_saysNow 30 = .ok (.imul, 1) := by decide +kernel
theorem dX12_saysNow_31 : decode cX12_saysNow 31 = .ok (.iload 4, 2) := by decide +kernel
theorem dX12_saysNow_33 : decode cX12_saysNow 33 = .ok (.iadd, 1) := by decide +kernel
theorem dX12_saysNow_34 : decode cX12_saysNow 34 = .ok (.istore 5, 2) := by decide +kernel
theorem dX12_saysNow_36 : decode cX12_saysNow 36 = .ok (.aload_n 0, 1) := by decide +kernel
theorem dX12_saysNow_37 : decode cX12_saysNow 37 = .ok (.getfield 59, 3) := by decide +kernel
theorem dX12_saysNow_40 : decode cX12_saysNow 40 = .ok (.iload 5, 2) := by decide +kernel
theorem dX12_saysNow_42 : decode cX12_saysNow 42 = .ok (.iaload, 1) := by decide +kernel
theorem dX12_saysNow_43 : decode cX12_saysNow 43 = .ok (.istore 6, 2) := by decide +kernel
theorem dX12_saysNow_45 : decode cX12_saysNow 45 = .ok (.iinc 4 1, 3) := by decide +kernel
theorem dX12_saysNow_48 : decode cX12_saysNow 48 = .ok (.iload 6, 2) := by decide +kernel
theorem dX12_saysNow_50 : decode cX12_saysNow 50 = .ok (.bipush 6, 2) := by decide +kernel
theorem dX12_saysNow_52 : decode cX12_saysNow 52 = .ok (.if_icmp .lt 18, 3) := by decide +kernel
theorem dX12_saysNow_55 : decode cX12_saysNow 55 = .ok (.iload 6, 2) := by decide +kernel
theorem dX12_saysNow_57 : decode cX12_saysNow 57 = .ok (.bipush 10, 2) := by decide +kernel
theorem dX12_saysNow_59 : decode cX12_saysNow 59 = .ok (.if_icmp .gt 11, 3) := by decide +kernel
theorem dX12_saysNow_62 : decode cX12_saysNow 62 = .ok (.aload_n 0, 1) := by decide +kernel
theorem dX12_saysNow_63 : decode cX12_saysNow 63 = .ok (.iload_n 1, 1) := by decide +kernel
theorem dX12_saysNow_64 : decode cX12_saysNow 64 = .ok (.iload 5, 2) := by decide +kernel
theorem dX12_saysNow_66 : decode cX12_saysNow 66 = .ok (.invokevirtual 385, 3) := by decide +kernel
theorem dX12_saysNow_69 : decode cX12_saysNow 69 = .ok (.ireturn, 1) := by decide +kernel
theorem dX12_saysNow_70 : decode cX12_saysNow 70 = .ok (.iload 6, 2) := by decide +kernel
theorem dX12_saysNow_72 : decode cX12_saysNow 72 = .ok (.iconst 5, 1) := by decide +kernel
theorem dX12_saysNow_73 : decode cX12_saysNow 73 = .ok (.if_icmp .ne 27, 3) := by decide +kernel
theorem dX12_saysNow_76 : decode cX12_saysNow 76 = .ok (.iinc 3 (-1), 3) := by decide +kernel
theorem dX12_saysNow_79 : decode cX12_saysNow 79 = .ok (.aload_n 0, 1) := by decide +kernel
theorem dX12_saysNow_80 : decode cX12_saysNow 80 = .ok (.getfield 83, 3) := by decide +kernel
theorem dX12_saysNow_83 : decode cX12_saysNow 83 = .ok (.iload_n 3, 1) := by decide +kernel
theorem dX12_saysNow_84 : decode cX12_saysNow 84 = .ok (.iaload, 1) := by decide +kernel
theorem dX12_saysNow_85 : decode cX12_saysNow 85 = .ok (.ifCond .ne 182, 3) := by decide +kernel
theorem dX12_saysNow_88 : decode cX12_saysNow 88 = .ok (.aload_n 0, 1) := by decide +kernel
theorem dX12_saysNow_89 : decode cX12_saysNow 89 = .ok (.getfield 62, 3) := by decide +kernel
theorem dX12_saysNow_92 : decode cX12_saysNow 92 = .ok (.iload 5, 2) := by decide +kernel
theorem dX12_saysNow_94 : decode cX12_saysNow 94 = .ok (.iaload, 1) := by decide +kernel
theorem dX12_saysNow_95 : decode cX12_saysNow 95 = .ok (.istore 4, 2) := by decide +kernel
theorem dX12_saysNow_97 : decode cX12_saysNow 97 = .ok (.goto 170, 3) := by decide +kernel
theorem dX12_saysNow_100 : decode cX12_saysNow 100 = .ok (.iload 6, 2) := by decide +kernel
theorem dX12_saysNow_102 : decode cX12_saysNow 102 = .ok (.iconst 5, 1) := by decide +kernel
theorem dX12_saysNow_103 : decode cX12_saysNow 103 = .ok (.if_icmp .ge 100, 3) := by decide +kernel
theorem dX12_saysNow_106 : decode cX12_saysNow 106 = .ok (.aload_n 0, 1) := by decide +kernel
theorem dX12_saysNow_107 : decode cX12_saysNow 107 = .ok (.getfield 83, 3) := by decide +kernel
theorem dX12_saysNow_110 : decode cX12_saysNow 110 = .ok (.iload_n 3, 1) := by decide +kernel
theorem dX12_saysNow_111 : decode cX12_saysNow 111 = .ok (.iload 6, 2) := by decide +kernel
theorem dX12_saysNow_113 : decode cX12_saysNow 113 = .ok (.iconst 1, 1) := by decide +kernel
theorem dX12_saysNow_114 : decode cX12_saysNow 114 = .ok (.if_icmp .ne 13, 3) := by decide +kernel
theorem dX12_saysNow_117 : decode cX12_saysNow 117 = .ok (.aload_n 0, 1) := by decide +kernel
theorem dX12_saysNow_118 : decode cX12_saysNow 118 = .ok (.getfield 62, 3) := by decide +kernel
theorem dX12_saysNow_121 : decode cX12_saysNow 121 = .ok (.iload 5, 2) := by decide +kernel
theorem dX12_saysNow_123 : decode cX12_saysNow 123 = .ok (.iaload, 1) := by decide +kernel
theorem dX12_saysNow_124 : decode cX12_saysNow 124 = .ok (.goto 72, 3) := by decide +kernel
theorem dX12_saysNow_127 : decode cX12_saysNow 127 = .ok (.iload 6, 2) := by decide +kernel
theorem dX12_saysNow_129 : decode cX12_saysNow 129 = .ok (.iconst 4, 1) := by decide +kernel
theorem dX12_saysNow_130 : decode cX12_saysNow 130 = .ok (.if_icmp .ne 35, 3) := by decide +kernel
theorem dX12_saysNow_133 : decode cX12_saysNow 133 = .ok (.aload_n 0, 1) := by decide +kernel
theorem dX12_saysNow_134 : decode cX12_saysNow 134 = .ok (.getfield 80, 3) := by decide +kernel
theorem dX12_saysNow_137 : decode cX12_saysNow 137 = .ok (.aload_n 0, 1) := by decide +kernel
theorem dX12_saysNow_138 : decode cX12_saysNow 138 = .ok (.getfield 62, 3) := by decide +kernel
theorem dX12_saysNow_141 : decode cX12_saysNow 141 = .ok (.iload 5, 2) := by decide +kernel
theorem dX12_saysNow_143 : decode cX12_saysNow 143 = .ok (.iaload, 1) := by decide +kernel
theorem dX12_saysNow_144 : decode cX12_saysNow 144 = .ok (.iaload, 1) := by decide +kernel
theorem dX12_saysNow_145 : decode cX12_saysNow 145 = .ok (.aload_n 0, 1) := by decide +kernel
theorem dX12_saysNow_146 : decode cX12_saysNow 146 = .ok (.getfield 65, 3) := by decide +kernel
theorem dX12_saysNow_149 : decode cX12_saysNow 149 = .ok (.iload 5, 2) := by decide +kernel
theorem dX12_saysNow_151 : decode cX12_saysNow 151 = .ok (.iaload, 1) := by decide +kernel
theorem dX12_saysNow_152 : decode cX12_saysNow 152 = .ok (.iconst 1, 1) := by decide +kernel
theorem dX12_saysNow_153 : decode cX12_saysNow 153 = .ok (.iadd, 1) := by decide +kernel
theorem dX12_saysNow_154 : decode cX12_saysNow 154 = .ok (.if_icmp .ne 7, 3) := by decide +kernel
theorem dX12_saysNow_157 : decode cX12_saysNow 157 = .ok (.iconst 1, 1) := by decide +kernel
theorem dX12_saysNow_158 : decode cX12_saysNow 158 = .ok (.goto 38, 3) := by decide +kernel
theorem dX12_saysNow_161 : decode cX12_saysNow 161 = .ok (.iconst 0, 1) := by decide +kernel
theorem dX12_saysNow_162 : decode cX12_saysNow 162 = .ok (.goto 34, 3) := by decide +kernel
theorem dX12_saysNow_165 : decode cX12_saysNow 165 = .ok (.aload_n 0, 1) := by decide +kernel
theorem dX12_saysNow_166 : decode cX12_saysNow 166 = .ok (.iload_n 1, 1) := by decide +kernel
theorem dX12_saysNow_167 : decode cX12_saysNow 167 = .ok (.iload 6, 2) := by decide +kernel
theorem dX12_saysNow_169 : decode cX12_saysNow 169 = .ok (.iconst 2, 1) := by decide +kernel
theorem dX12_saysNow_170 : decode cX12_saysNow 170 = .ok (.if_icmp .ne 15, 3) := by decide +kernel
theorem dX12_saysNow_173 : decode cX12_saysNow 173 = .ok (.aload_n 0, 1) := by decide +kernel
theorem dX12_saysNow_174 : decode cX12_saysNow 174 = .ok (.getfield 62, 3) := by decide +kernel
theorem dX12_saysNow_177 : decode cX12_saysNow 177 = .ok (.iload 5, 2) := by decide +kernel
theorem dX12_saysNow_179 : decode cX12_saysNow 179 = .ok (.iaload, 1) := by decide +kernel
theorem dX12_saysNow_180 : decode cX12_saysNow 180 = .ok (.iconst 1, 1) := by decide +kernel
theorem dX12_saysNow_181 : decode cX12_saysNow 181 = .ok (.iadd, 1) := by decide +kernel
theorem dX12_saysNow_182 : decode cX12_saysNow 182 = .ok (.goto 4, 3) := by decide +kernel
theorem dX12_saysNow_185 : decode cX12_saysNow 185 = .ok (.iconst 0, 1) := by decide +kernel
theorem dX12_saysNow_186 : decode cX12_saysNow 186 = .ok (.aload_n 0, 1) := by decide +kernel
theorem dX12_saysNow_187 : decode cX12_saysNow 187 = .ok (.getfield 65, 3) := by decide +kernel
theorem dX12_saysNow_190 : decode cX12_saysNow 190 = .ok (.iload 5, 2) := by decide +kernel
theorem dX12_saysNow_192 : decode cX12_saysNow 192 = .ok (.iaload, 1) := by decide +kernel
theorem dX12_saysNow_193 : decode cX12_saysNow 193 = .ok (.invokevirtual 381, 3) := by decide +kernel
theorem dX12_saysNow_196 : decode cX12_saysNow 196 = .ok (.iastore, 1) := by decide +kernel
theorem dX12_saysNow_197 : decode cX12_saysNow 197 = .ok (.iinc 3 1, 3) := by decide +kernel
theorem dX12_saysNow_200 : decode cX12_saysNow 200 = .ok (.goto 67, 3) := by decide +kernel
theorem dX12_saysNow_203 : decode cX12_saysNow 203 = .ok (.iload 6, 2) := by decide +kernel
theorem dX12_saysNow_205 : decode cX12_saysNow 205 = .ok (.bipush 126, 2) := by decide +kernel
theorem dX12_saysNow_207 : decode cX12_saysNow 207 = .ok (.if_icmp .ne 30, 3) := by decide +kernel
theorem dX12_saysNow_210 : decode cX12_saysNow 210 = .ok (.aload_n 0, 1) := by decide +kernel
theorem dX12_saysNow_211 : decode cX12_saysNow 211 = .ok (.getfield 83, 3) := by decide +kernel
theorem dX12_saysNow_214 : decode cX12_saysNow 214 = .ok (.iload_n 3, 1) := by decide +kernel
theorem dX12_saysNow_215 : decode cX12_saysNow 215 = .ok (.iconst 1, 1) := by decide +kernel
theorem dX12_saysNow_216 : decode cX12_saysNow 216 = .ok (.isub, 1) := by decide +kernel
theorem dX12_saysNow_217 : decode cX12_saysNow 217 = .ok (.aload_n 0, 1) := by decide +kernel
theorem dX12_saysNow_218 : decode cX12_saysNow 218 = .ok (.getfield 83, 3) := by decide +kernel
theorem dX12_saysNow_221 : decode cX12_saysNow 221 = .ok (.iload_n 3, 1) := by decide +kernel
theorem dX12_saysNow_222 : decode cX12_saysNow 222 = .ok (.iconst 1, 1) := by decide +kernel
theorem dX12_saysNow_223 : decode cX12_saysNow 223 = .ok (.isub, 1) := by decide +kernel
theorem dX12_saysNow_224 : decode cX12_saysNow 224 = .ok (.iaload, 1) := by decide +kernel
theorem dX12_saysNow_225 : decode cX12_saysNow 225 = .ok (.ifCond .ne 7, 3) := by decide +kernel
theorem dX12_saysNow_228 : decode cX12_saysNow 228 = .ok (.iconst 1, 1) := by decide +kernel
theorem dX12_saysNow_229 : decode cX12_saysNow 229 = .ok (.goto 4, 3) := by decide +kernel
theorem dX12_saysNow_232 : decode cX12_saysNow 232 = .ok (.iconst 0, 1) := by decide +kernel
theorem dX12_saysNow_233 : decode cX12_saysNow 233 = .ok (.iastore, 1) := by decide +kernel
theorem dX12_saysNow_234 : decode cX12_saysNow 234 = .ok (.goto 33, 3) := by decide +kernel
theorem dX12_saysNow_237 : decode cX12_saysNow 237 = .ok (.iinc 3 (-1), 3) := by decide +kernel
theorem dX12_saysNow_240 : decode cX12_saysNow 240 = .ok (.aload_n 0, 1) := by decide +kernel
theorem dX12_saysNow_241 : decode cX12_saysNow 241 = .ok (.getfield 83, 3) := by decide +kernel
theorem dX12_saysNow_244 : decode cX12_saysNow 244 = .ok (.iload_n 3, 1) := by decide +kernel
theorem dX12_saysNow_245 : decode cX12_saysNow 245 = .ok (.iconst 1, 1) := by decide +kernel
theorem dX12_saysNow_246 : decode cX12_saysNow 246 = .ok (.isub, 1) := by decide +kernel
theorem dX12_saysNow_247 : decode cX12_saysNow 247 = .ok (.iload 6, 2) := by decide +kernel
theorem dX12_saysNow_249 : decode cX12_saysNow 249 = .ok (.aload_n 0, 1) := by decide +kernel
theorem dX12_saysNow_250 : decode cX12_saysNow 250 = .ok (.getfield 83, 3) := by decide +kernel
theorem dX12_saysNow_253 : decode cX12_saysNow 253 = .ok (.iload_n 3, 1) := by decide +kernel
theorem dX12_saysNow_254 : decode cX12_saysNow 254 = .ok (.iconst 1, 1) := by decide +kernel
theorem dX12_saysNow_255 : decode cX12_saysNow 255 = .ok (.isub, 1) := by decide +kernel
theorem dX12_saysNow_256 : decode cX12_saysNow 256 = .ok (.iaload, 1) := by decide +kernel
theorem dX12_saysNow_257 : decode cX12_saysNow 257 = .ok (.aload_n 0, 1) := by decide +kernel
theorem dX12_saysNow_258 : decode cX12_saysNow 258 = .ok (.getfield 83, 3) := by decide +kernel
theorem dX12_saysNow_261 : decode cX12_saysNow 261 = .ok (.iload_n 3, 1) := by decide +kernel
theorem dX12_saysNow_262 : decode cX12_saysNow 262 = .ok (.iaload, 1) := by decide +kernel
theorem dX12_saysNow_263 : decode cX12_saysNow 263 = .ok (.invokestatic 388, 3) := by decide +kernel
theorem dX12_saysNow_266 : decode cX12_saysNow 266 = .ok (.iastore, 1) := by decide +kernel
theorem dX12_saysNow_267 : decode cX12_saysNow 267 = .ok (.goto (-252), 3) := by decide +kernel
theorem dX12_saysNow_270 : decode cX12_saysNow 270 = .ok (.iconst 0, 1) := by decide +kernel
theorem dX12_saysNow_271 : decode cX12_saysNow 271 = .ok (.ireturn, 1) := by decide +kernel
theorem dX12_markOf_0 : decode cX12_markOf 0 = .ok (.aload_n 0, 1) := by decide +kernel
theorem dX12_markOf_1 : decode cX12_markOf 1 = .ok (.getfield 59, 3) := by decide +kernel
theorem dX12_markOf_4 : decode cX12_markOf 4 = .ok (.iload_n 2, 1) := by decide +kernel
theorem dX12_markOf_5 : decode cX12_markOf 5 = .ok (.iaload, 1) := by decide +kernel
theorem dX12_markOf_6 : decode cX12_markOf 6 = .ok (.tableswitch 49 6 8 #[26, 35, 37], 26) := by decide +kernel
theorem dX12_markOf_32 : decode cX12_markOf 32 = .ok (.aload_n 0, 1) := by decide +kernel
theorem dX12_markOf_33 : decode cX12_markOf 33 = .ok (.getfield 62, 3) := by decide +kernel
theorem dX12_markOf_36 : decode cX12_markOf 36 = .ok (.iload_n 2, 1) := by decide +kernel
theorem dX12_markOf_37 : decode cX12_markOf 37 = .ok (.iaload, 1) := by decide +kernel
theorem dX12_markOf_38 : decode cX12_markOf 38 = .ok (.iconst 1, 1) := by decide +kernel
theorem dX12_markOf_39 : decode cX12_markOf 39 = .ok (.iadd, 1) := by decide +kernel
theorem dX12_markOf_40 : decode cX12_markOf 40 = .ok (.ireturn, 1) := by decide +kernel
theorem dX12_markOf_41 : decode cX12_markOf 41 = .ok (.iconst 0, 1) := by decide +kernel
theorem dX12_markOf_42 : decode cX12_markOf 42 = .ok (.ireturn, 1) := by decide +kernel
theorem dX12_markOf_43 : decode cX12_markOf 43 = .ok (.aload_n 0, 1) := by decide +kernel
theorem dX12_markOf_44 : decode cX12_markOf 44 = .ok (.getfield 80, 3) := by decide +kernel
theorem dX12_markOf_47 : decode cX12_markOf 47 = .ok (.aload_n 0, 1) := by decide +kernel
theorem dX12_markOf_48 : decode cX12_markOf 48 = .ok (.getfield 62, 3) := by decide +kernel
theorem dX12_markOf_51 : decode cX12_markOf 51 = .ok (.iload_n 2, 1) := by decide +kernel
theorem dX12_markOf_52 : decode cX12_markOf 52 = .ok (.iaload, 1) := by decide +kernel
theorem dX12_markOf_53 : decode cX12_markOf 53 = .ok (.iaload, 1) := by decide +kernel
theorem dX12_markOf_54 : decode cX12_markOf 54 = .ok (.ireturn, 1) := by decide +kernel
theorem dX12_markOf_55 : decode cX12_markOf 55 = .ok (.aload_n 0, 1) := by decide +kernel
theorem dX12_markOf_56 : decode cX12_markOf 56 = .ok (.iload_n 1, 1) := by decide +kernel
theorem dX12_markOf_57 : decode cX12_markOf 57 = .ok (.aload_n 0, 1) := by decide +kernel
theorem dX12_markOf_58 : decode cX12_markOf 58 = .ok (.getfield 59, 3) := by decide +kernel
theorem dX12_markOf_61 : decode cX12_markOf 61 = .ok (.iload_n 2, 1) := by decide +kernel
theorem dX12_markOf_62 : decode cX12_markOf 62 = .ok (.iaload, 1) := by decide +kernel
theorem dX12_markOf_63 : decode cX12_markOf 63 = .ok (.bipush 9, 2) := by decide +kernel
theorem dX12_markOf_65 : decode cX12_markOf 65 = .ok (.if_icmp .ne 7, 3) := by decide +kernel
theorem dX12_markOf_68 : decode cX12_markOf 68 = .ok (.iconst 1, 1) := by decide +kernel
theorem dX12_markOf_69 : decode cX12_markOf 69 = .ok (.goto 4, 3) := by decide +kernel
theorem dX12_markOf_72 : decode cX12_markOf 72 = .ok (.iconst 0, 1) := by decide +kernel
theorem dX12_markOf_73 : decode cX12_markOf 73 = .ok (.aload_n 0, 1) := by decide +kernel
theorem dX12_markOf_74 : decode cX12_markOf 74 = .ok (.getfield 65, 3) := by decide +kernel
theorem dX12_markOf_77 : decode cX12_markOf 77 = .ok (.iload_n 2, 1) := by decide +kernel
theorem dX12_markOf_78 : decode cX12_markOf 78 = .ok (.iaload, 1) := by decide +kernel
theorem dX12_markOf_79 : decode cX12_markOf 79 = .ok (.invokevirtual 391, 3) := by decide +kernel
theorem dX12_markOf_82 : decode cX12_markOf 82 = .ok (.ireturn, 1) := by decide +kernel
theorem dX12_layMarks_0 : decode cX12_layMarks 0 = .ok (.iload_n 1, 1) := by decide +kernel
theorem dX12_layMarks_1 : decode cX12_layMarks 1 = .ok (.istore_n 2, 1) := by decide +kernel
theorem dX12_layMarks_2 : decode cX12_layMarks 2 = .ok (.aload_n 0, 1) := by decide +kernel
theorem dX12_layMarks_3 : decode cX12_layMarks 3 = .ok (.invokevirtual 371, 3) := by decide +kernel
theorem dX12_layMarks_6 : decode cX12_layMarks 6 = .ok (.iconst 1, 1) := by decide +kernel
theorem dX12_layMarks_7 : decode cX12_layMarks 7 = .ok (.isub, 1) := by decide +kernel
theorem dX12_layMarks_8 : decode cX12_layMarks 8 = .ok (.istore_n 3, 1) := by decide +kernel
theorem dX12_layMarks_9 : decode cX12_layMarks 9 = .ok (.iload_n 3, 1) := by decide +kernel
theorem dX12_layMarks_10 : decode cX12_layMarks 10 = .ok (.ifCond .lt 32, 3) := by decide +kernel
theorem dX12_layMarks_13 : decode cX12_layMarks 13 = .ok (.aload_n 0, 1) := by decide +kernel
theorem dX12_layMarks_14 : decode cX12_layMarks 14 = .ok (.getfield 80, 3) := by decide +kernel
theorem dX12_layMarks_17 : decode cX12_layMarks 17 = .ok (.iload_n 3, 1) := by decide +kernel
theorem dX12_layMarks_18 : decode cX12_layMarks 18 = .ok (.iload_n 2, 1) := by decide +kernel
theorem dX12_layMarks_19 : decode cX12_layMarks 19 = .ok (.aload_n 0, 1) := by decide +kernel
theorem dX12_layMarks_20 : decode cX12_layMarks 20 = .ok (.invokevirtual 378, 3) := by decide +kernel
theorem dX12_layMarks_23 : decode cX12_layMarks 23 = .ok (.iconst 1, 1) := by decide +kernel
theorem dX12_layMarks_24 : decode cX12_layMarks 24 = .ok (.iadd, 1) := by decide +kernel
theorem dX12_layMarks_25 : decode cX12_layMarks 25 = .ok (.irem, 1) := by decide +kernel
theorem dX12_layMarks_26 : decode cX12_layMarks 26 = .ok (.iastore, 1) := by decide +kernel
theorem dX12_layMarks_27 : decode cX12_layMarks 27 = .ok (.iload_n 2, 1) := by decide +kernel
theorem dX12_layMarks_28 : decode cX12_layMarks 28 = .ok (.aload_n 0, 1) := by decide +kernel
theorem dX12_layMarks_29 : decode cX12_layMarks 29 = .ok (.invokevirtual 378, 3) := by decide +kernel
theorem dX12_layMarks_32 : decode cX12_layMarks 32 = .ok (.iconst 1, 1) := by decide +kernel
theorem dX12_layMarks_33 : decode cX12_layMarks 33 = .ok (.iadd, 1) := by decide +kernel
theorem dX12_layMarks_34 : decode cX12_layMarks 34 = .ok (.idiv, 1) := by decide +kernel
theorem dX12_layMarks_35 : decode cX12_layMarks 35 = .ok (.istore_n 2, 1) := by decide +kernel
theorem dX12_layMarks_36 : decode cX12_layMarks 36 = .ok (.iinc 3 (-1), 3) := by decide +kernel
theorem dX12_layMarks_39 : decode cX12_layMarks 39 = .ok (.goto (-30), 3) := by decide +kernel
theorem dX12_layMarks_42 : decode cX12_layMarks 42 = .ok (.return_, 1) := by decide +kernel
theorem dX12_rowNow_0 : decode cX12_rowNow 0 = .ok (.iconst 0, 1) := by decide +kernel
theorem dX12_rowNow_1 : decode cX12_rowNow 1 = .ok (.istore_n 1, 1) := by decide +kernel
theorem dX12_rowNow_2 : decode cX12_rowNow 2 = .ok (.iconst 0, 1) := by decide +kernel
theorem dX12_rowNow_3 : decode cX12_rowNow 3 = .ok (.istore_n 2, 1) := by decide +kernel
theorem dX12_rowNow_4 : decode cX12_rowNow 4 = .ok (.iload_n 2, 1) := by decide +kernel
theorem dX12_rowNow_5 : decode cX12_rowNow 5 = .ok (.aload_n 0, 1) := by decide +kernel
theorem dX12_rowNow_6 : decode cX12_rowNow 6 = .ok (.invokevirtual 371, 3) := by decide +kernel
theorem dX12_rowNow_9 : decode cX12_rowNow 9 = .ok (.if_icmp .ge 25, 3) := by decide +kernel
theorem dX12_rowNow_12 : decode cX12_rowNow 12 = .ok (.iload_n 1, 1) := by decide +kernel
theorem dX12_rowNow_13 : decode cX12_rowNow 13 = .ok (.aload_n 0, 1) := by decide +kernel
theorem dX12_rowNow_14 : decode cX12_rowNow 14 = .ok (.invokevirtual 378, 3) := by decide +kernel
theorem dX12_rowNow_17 : decode cX12_rowNow 17 = .ok (.iconst 1, 1) := by decide +kernel
theorem dX12_rowNow_18 : decode cX12_rowNow 18 = .ok (.iadd, 1) := by decide +kernel
theorem dX12_rowNow_19 : decode cX12_rowNow 19 = .ok (.imul, 1) := by decide +kernel
theorem dX12_rowNow_20 : decode cX12_rowNow 20 = .ok (.aload_n 0, 1) := by decide +kernel
theorem dX12_rowNow_21 : decode cX12_rowNow 21 = .ok (.getfield 80, 3) := by decide +kernel
theorem dX12_rowNow_24 : decode cX12_rowNow 24 = .ok (.iload_n 2, 1) := by decide +kernel
theorem dX12_rowNow_25 : decode cX12_rowNow 25 = .ok (.iaload, 1) := by decide +kernel
theorem dX12_rowNow_26 : decode cX12_rowNow 26 = .ok (.iadd, 1) := by decide +kernel
theorem dX12_rowNow_27 : decode cX12_rowNow 27 = .ok (.istore_n 1, 1) := by decide +kernel
theorem dX12_rowNow_28 : decode cX12_rowNow 28 = .ok (.iinc 2 1, 3) := by decide +kernel
theorem dX12_rowNow_31 : decode cX12_rowNow 31 = .ok (.goto (-27), 3) := by decide +kernel
theorem dX12_rowNow_34 : decode cX12_rowNow 34 = .ok (.iload_n 1, 1) := by decide +kernel
theorem dX12_rowNow_35 : decode cX12_rowNow 35 = .ok (.ireturn, 1) := by decide +kernel
theorem dX12_layRows_0 : decode cX12_layRows 0 = .ok (.aload_n 0, 1) := by decide +kernel
theorem dX12_layRows_1 : decode cX12_layRows 1 = .ok (.iconst 1, 1) := by decide +kernel
theorem dX12_layRows_2 : decode cX12_layRows 2 = .ok (.putfield 395, 3) := by decide +kernel
theorem dX12_layRows_5 : decode cX12_layRows 5 = .ok (.iconst 0, 1) := by decide +kernel
theorem dX12_layRows_6 : decode cX12_layRows 6 = .ok (.istore_n 1, 1) := by decide +kernel
theorem dX12_layRows_7 : decode cX12_layRows 7 = .ok (.iload_n 1, 1) := by decide +kernel
theorem dX12_layRows_8 : decode cX12_layRows 8 = .ok (.aload_n 0, 1) := by decide +kernel
theorem dX12_layRows_9 : decode cX12_layRows 9 = .ok (.invokevirtual 371, 3) := by decide +kernel
theorem dX12_layRows_12 : decode cX12_layRows 12 = .ok (.if_icmp .ge 24, 3) := by decide +kernel
theorem dX12_layRows_15 : decode cX12_layRows 15 = .ok (.aload_n 0, 1) := by decide +kernel
theorem dX12_layRows_16 : decode cX12_layRows 16 = .ok (.dup, 1) := by decide +kernel
theorem dX12_layRows_17 : decode cX12_layRows 17 = .ok (.getfield 395, 3) := by decide +kernel
theorem dX12_layRows_20 : decode cX12_layRows 20 = .ok (.aload_n 0, 1) := by decide +kernel
theorem dX12_layRows_21 : decode cX12_layRows 21 = .ok (.invokevirtual 378, 3) := by decide +kernel
theorem dX12_layRows_24 : decode cX12_layRows 24 = .ok (.iconst 1, 1) := by decide +kernel
theorem dX12_layRows_25 : decode cX12_layRows 25 = .ok (.iadd, 1) := by decide +kernel
theorem dX12_layRows_26 : decode cX12_layRows 26 = .ok (.imul, 1) := by decide +kernel
theorem dX12_layRows_27 : decode cX12_layRows 27 = .ok (.putfield 395, 3) := by decide +kernel
theorem dX12_layRows_30 : decode cX12_layRows 30 = .ok (.iinc 1 1, 3) := by decide +kernel
theorem dX12_layRows_33 : decode cX12_layRows 33 = .ok (.goto (-26), 3) := by decide +kernel
theorem dX12_layRows_36 : decode cX12_layRows 36 = .ok (.iconst 0, 1) := by decide +kernel
theorem dX12_layRows_37 : decode cX12_layRows 37 = .ok (.istore_n 1, 1) := by decide +kernel
theorem dX12_layRows_38 : decode cX12_layRows 38 = .ok (.iload_n 1, 1) := by decide +kernel
theorem dX12_layRows_39 : decode cX12_layRows 39 = .ok (.aload_n 0, 1) := by decide +kernel
theorem dX12_layRows_40 : decode cX12_layRows 40 = .ok (.getfield 395, 3) := by decide +kernel
theorem dX12_layRows_43 : decode cX12_layRows 43 = .ok (.if_icmp .ge 90, 3) := by decide +kernel
theorem dX12_layRows_46 : decode cX12_layRows 46 = .ok (.aload_n 0, 1) := by decide +kernel
theorem dX12_layRows_47 : decode cX12_layRows 47 = .ok (.iload_n 1, 1) := by decide +kernel
theorem dX12_layRows_48 : decode cX12_layRows 48 = .ok (.invokevirtual 398, 3) := by decide +kernel
theorem dX12_layRows_51 : decode cX12_layRows 51 = .ok (.aload_n 0, 1) := by decide +kernel
theorem dX12_layRows_52 : decode cX12_layRows 52 = .ok (.getfield 90, 3) := by decide +kernel
theorem dX12_layRows_55 : decode cX12_layRows 55 = .ok (.iload_n 1, 1) := by decide +kernel
theorem dX12_layRows_56 : decode cX12_layRows 56 = .ok (.iconst 0, 1) := by decide +kernel
theorem dX12_layRows_57 : decode cX12_layRows 57 = .ok (.iastore, 1) := by decide +kernel
theorem dX12_layRows_58 : decode cX12_layRows 58 = .ok (.aload_n 0, 1) := by decide +kernel
theorem dX12_layRows_59 : decode cX12_layRows 59 = .ok (.getfield 93, 3) := by decide +kernel
theorem dX12_layRows_62 : decode cX12_layRows 62 = .ok (.iload_n 1, 1) := by decide +kernel
theorem dX12_layRows_63 : decode cX12_layRows 63 = .ok (.iconst 0, 1) := by decide +kernel
theorem dX12_layRows_64 : decode cX12_layRows 64 = .ok (.iastore, 1) := by decide +kernel
theorem dX12_layRows_65 : decode cX12_layRows 65 = .ok (.iconst 0, 1) := by decide +kernel
theorem dX12_layRows_66 : decode cX12_layRows 66 = .ok (.istore_n 2, 1) := by decide +kernel
theorem dX12_layRows_67 : decode cX12_layRows 67 = .ok (.iload_n 2, 1) := by decide +kernel
theorem dX12_layRows_68 : decode cX12_layRows 68 = .ok (.aload_n 0, 1) := by decide +kernel
theorem dX12_layRows_69 : decode cX12_layRows 69 = .ok (.invokevirtual 371, 3) := by decide +kernel
theorem dX12_layRows_72 : decode cX12_layRows 72 = .ok (.if_icmp .ge 55, 3) := by decide +kernel
theorem dX12_layRows_75 : decode cX12_layRows 75 = .ok (.aload_n 0, 1) := by decide +kernel
theorem dX12_layRows_76 : decode cX12_layRows 76 = .ok (.iload_n 2, 1) := by decide +kernel
theorem dX12_layRows_77 : decode cX12_layRows 77 = .ok (.invokevirtual 402, 3) := by decide +kernel
theorem dX12_layRows_80 : decode cX12_layRows 80 = .ok (.istore_n 3, 1) := by decide +kernel
theorem dX12_layRows_81 : decode cX12_layRows 81 = .ok (.aload_n 0, 1) := by decide +kernel
theorem dX12_layRows_82 : decode cX12_layRows 82 = .ok (.getfield 90, 3) := by decide +kernel
theorem dX12_layRows_85 : decode cX12_layRows 85 = .ok (.iload_n 1, 1) := by decide +kernel
theorem dX12_layRows_86 : decode cX12_layRows 86 = .ok (.dup2, 1) := by decide +kernel
theorem dX12_layRows_87 : decode cX12_layRows 87 = .ok (.iaload, 1) := by decide +kernel
theorem dX12_layRows_88 : decode cX12_layRows 88 = .ok (.iload_n 3, 1) := by decide +kernel
theorem dX12_layRows_89 : decode cX12_layRows 89 = .ok (.iconst 2, 1) := by decide +kernel
theorem dX12_layRows_90 : decode cX12_layRows 90 = .ok (.iload_n 2, 1) := by decide +kernel
theorem dX12_layRows_91 : decode cX12_layRows 91 = .ok (.imul, 1) := by decide +kernel
theorem dX12_layRows_92 : decode cX12_layRows 92 = .ok (.ishl, 1) := by decide +kernel
theorem dX12_layRows_93 : decode cX12_layRows 93 = .ok (.ior, 1) := by decide +kernel
theorem dX12_layRows_94 : decode cX12_layRows 94 = .ok (.iastore, 1) := by decide +kernel
theorem dX12_layRows_95 : decode cX12_layRows 95 = .ok (.aload_n 0, 1) := by decide +kernel
theorem dX12_layRows_96 : decode cX12_layRows 96 = .ok (.getfield 93, 3) := by decide +kernel
theorem dX12_layRows_99 : decode cX12_layRows 99 = .ok (.iload_n 1, 1) := by decide +kernel
theorem dX12_layRows_100 : decode cX12_layRows 100 = .ok (.dup2, 1) := by decide +kernel
theorem dX12_layRows_101 : decode cX12_layRows 101 = .ok (.iaload, 1) := by decide +kernel
theorem dX12_layRows_102 : decode cX12_layRows 102 = .ok (.iload_n 3, 1) := by decide +kernel
theorem dX12_layRows_103 : decode cX12_layRows 103 = .ok (.aload_n 0, 1) := by decide +kernel
theorem dX12_layRows_104 : decode cX12_layRows 104 = .ok (.getfield 80, 3) := by decide +kernel
theorem dX12_layRows_107 : decode cX12_layRows 107 = .ok (.iload_n 2, 1) := by decide +kernel
theorem dX12_layRows_108 : decode cX12_layRows 108 = .ok (.iaload, 1) := by decide +kernel
theorem dX12_layRows_109 : decode cX12_layRows 109 = .ok (.if_icmp .ne 9, 3) := by decide +kernel
theorem dX12_layRows_112 : decode cX12_layRows 112 = .ok (.iconst 1, 1) := by decide +kernel
theorem dX12_layRows_113 : decode cX12_layRows 113 = .ok (.iload_n 2, 1) := by decide +kernel
theorem dX12_layRows_114 : decode cX12_layRows 114 = .ok (.ishl, 1) := by decide +kernel
theorem dX12_layRows_115 : decode cX12_layRows 115 = .ok (.goto 4, 3) := by decide +kernel
theorem dX12_layRows_118 : decode cX12_layRows 118 = .ok (.iconst 0, 1) := by decide +kernel
theorem dX12_layRows_119 : decode cX12_layRows 119 = .ok (.ior, 1) := by decide +kernel
theorem dX12_layRows_120 : decode cX12_layRows 120 = .ok (.iastore, 1) := by decide +kernel
theorem dX12_layRows_121 : decode cX12_layRows 121 = .ok (.iinc 2 1, 3) := by decide +kernel
theorem dX12_layRows_124 : decode cX12_layRows 124 = .ok (.goto (-57), 3) := by decide +kernel
theorem dX12_layRows_127 : decode cX12_layRows 127 = .ok (.iinc 1 1, 3) := by decide +kernel
theorem dX12_layRows_130 : decode cX12_layRows 130 = .ok (.goto (-92), 3) := by decide +kernel
theorem dX12_layRows_133 : decode cX12_layRows 133 = .ok (.return_, 1) := by decide +kernel
theorem dX12_everybody_0 : decode cX12_everybody 0 = .ok (.iconst 1, 1) := by decide +kernel
theorem dX12_everybody_1 : decode cX12_everybody 1 = .ok (.aload_n 0, 1) := by decide +kernel
theorem dX12_everybody_2 : decode cX12_everybody 2 = .ok (.invokevirtual 371, 3) := by decide +kernel
theorem dX12_everybody_5 : decode cX12_everybody 5 = .ok (.ishl, 1) := by decide +kernel
theorem dX12_everybody_6 : decode cX12_everybody 6 = .ok (.iconst 1, 1) := by decide +kernel
theorem dX12_everybody_7 : decode cX12_everybody 7 = .ok (.isub, 1) := by decide +kernel
theorem dX12_everybody_8 : decode cX12_everybody 8 = .ok (.ireturn, 1) := by decide +kernel
theorem dX12_isCounting_0 : decode cX12_isCounting 0 = .ok (.aload_n 0, 1) := by decide +kernel
theorem dX12_isCounting_1 : decode cX12_isCounting 1 = .ok (.getfield 93, 3) := by decide +kernel
theorem dX12_isCounting_4 : decode cX12_isCounting 4 = .ok (.iload_n 1, 1) := by decide +kernel
theorem dX12_isCounting_5 : decode cX12_isCounting 5 = .ok (.iaload, 1) := by decide +kernel
theorem dX12_isCounting_6 : decode cX12_isCounting 6 = .ok (.aload_n 0, 1) := by decide +kernel
theorem dX12_isCounting_7 : decode cX12_isCounting 7 = .ok (.invokevirtual 405, 3) := by decide +kernel
theorem dX12_isCounting_10 : decode cX12_isCounting 10 = .ok (.if_icmp .ne 7, 3) := by decide +kernel
theorem dX12_isCounting_13 : decode cX12_isCounting 13 = .ok (.iconst 1, 1) := by decide +kernel
theorem dX12_isCounting_14 : decode cX12_isCounting 14 = .ok (.goto 4, 3) := by decide +kernel
theorem dX12_isCounting_17 : decode cX12_isCounting 17 = .ok (.iconst 0, 1) := by decide +kernel
theorem dX12_isCounting_18 : decode cX12_isCounting 18 = .ok (.ireturn, 1) := by decide +kernel
theorem dX12_countings_0 : decode cX12_countings 0 = .ok (.iconst 0, 1) := by decide +kernel
theorem dX12_countings_1 : decode cX12_countings 1 = .ok (.istore_n 1, 1) := by decide +kernel
theorem dX12_countings_2 : decode cX12_countings 2 = .ok (.iconst 0, 1) := by decide +kernel
theorem dX12_countings_3 : decode cX12_countings 3 = .ok (.istore_n 2, 1) := by decide +kernel
theorem dX12_countings_4 : decode cX12_countings 4 = .ok (.iload_n 2, 1) := by decide +kernel
theorem dX12_countings_5 : decode cX12_countings 5 = .ok (.aload_n 0, 1) := by decide +kernel
theorem dX12_countings_6 : decode cX12_countings 6 = .ok (.getfield 395, 3) := by decide +kernel
theorem dX12_countings_9 : decode cX12_countings 9 = .ok (.if_icmp .ge 25, 3) := by decide +kernel
theorem dX12_countings_12 : decode cX12_countings 12 = .ok (.iload_n 1, 1) := by decide +kernel
theorem dX12_countings_13 : decode cX12_countings 13 = .ok (.aload_n 0, 1) := by decide +kernel
theorem dX12_countings_14 : decode cX12_countings 14 = .ok (.iload_n 2, 1) := by decide +kernel
theorem dX12_countings_15 : decode cX12_countings 15 = .ok (.invokevirtual 408, 3) := by decide +kernel
theorem dX12_countings_18 : decode cX12_countings 18 = .ok (.ifCond .eq 7, 3) := by decide +kernel
theorem dX12_countings_21 : decode cX12_countings 21 = .ok (.iconst 1, 1) := by decide +kernel
theorem dX12_countings_22 : decode cX12_countings 22 = .ok (.goto 4, 3) := by decide +kernel
theorem dX12_countings_25 : decode cX12_countings 25 = .ok (.iconst 0, 1) := by decide +kernel
theorem dX12_countings_26 : decode cX12_countings 26 = .ok (.iadd, 1) := by decide +kernel
theorem dX12_countings_27 : decode cX12_countings 27 = .ok (.istore_n 1, 1) := by decide +kernel
theorem dX12_countings_28 : decode cX12_countings 28 = .ok (.iinc 2 1, 3) := by decide +kernel
theorem dX12_countings_31 : decode cX12_countings 31 = .ok (.goto (-27), 3) := by decide +kernel
theorem dX12_countings_34 : decode cX12_countings 34 = .ok (.iload_n 1, 1) := by decide +kernel
theorem dX12_countings_35 : decode cX12_countings 35 = .ok (.ireturn, 1) := by decide +kernel
theorem dX12_rowOf_0 : decode cX12_rowOf 0 = .ok (.iload_n 1, 1) := by decide +kernel
theorem dX12_rowOf_1 : decode cX12_rowOf 1 = .ok (.istore_n 2, 1) := by decide +kernel
theorem dX12_rowOf_2 : decode cX12_rowOf 2 = .ok (.iconst 0, 1) := by decide +kernel
theorem dX12_rowOf_3 : decode cX12_rowOf 3 = .ok (.istore_n 3, 1) := by decide +kernel
theorem dX12_rowOf_4 : decode cX12_rowOf 4 = .ok (.iload_n 3, 1) := by decide +kernel
theorem dX12_rowOf_5 : decode cX12_rowOf 5 = .ok (.aload_n 0, 1) := by decide +kernel
theorem dX12_rowOf_6 : decode cX12_rowOf 6 = .ok (.getfield 395, 3) := by decide +kernel
theorem dX12_rowOf_9 : decode cX12_rowOf 9 = .ok (.if_icmp .ge 33, 3) := by decide +kernel
theorem dX12_rowOf_12 : decode cX12_rowOf 12 = .ok (.iload_n 2, 1) := by decide +kernel
theorem dX12_rowOf_13 : decode cX12_rowOf 13 = .ok (.ifCond .lt 29, 3) := by decide +kernel
theorem dX12_rowOf_16 : decode cX12_rowOf 16 = .ok (.aload_n 0, 1) := by decide +kernel
theorem dX12_rowOf_17 : decode cX12_rowOf 17 = .ok (.iload_n 3, 1) := by decide +kernel
theorem dX12_rowOf_18 : decode cX12_rowOf 18 = .ok (.invokevirtual 408, 3) := by decide +kernel
theorem dX12_rowOf_21 : decode cX12_rowOf 21 = .ok (.ifCond .ne 6, 3) := by decide +kernel
theorem dX12_rowOf_24 : decode cX12_rowOf 24 = .ok (.goto 12, 3) := by decide +kernel
theorem dX12_rowOf_27 : decode cX12_rowOf 27 = .ok (.iload_n 2, 1) := by decide +kernel
theorem dX12_rowOf_28 : decode cX12_rowOf 28 = .ok (.ifCond .ne 5, 3) := by decide +kernel
theorem dX12_rowOf_31 : decode cX12_rowOf 31 = .ok (.iload_n 3, 1) := by decide +kernel
theorem dX12_rowOf_32 : decode cX12_rowOf 32 = .ok (.ireturn, 1) := by decide +kernel
theorem dX12_rowOf_33 : decode cX12_rowOf 33 = .ok (.iinc 2 (-1), 3) := by decide +kernel
theorem dX12_rowOf_36 : decode cX12_rowOf 36 = .ok (.iinc 3 1, 3) := by decide +kernel
theorem dX12_rowOf_39 : decode cX12_rowOf 39 = .ok (.goto (-35), 3) := by decide +kernel
theorem dX12_rowOf_42 : decode cX12_rowOf 42 = .ok (.iconst (-1), 1) := by decide +kernel
theorem dX12_rowOf_43 : decode cX12_rowOf 43 = .ok (.ireturn, 1) := by decide +kernel
theorem dX12_counting_0 : decode cX12_counting 0 = .ok (.aload_n 0, 1) := by decide +kernel
theorem dX12_counting_1 : decode cX12_counting 1 = .ok (.iload_n 1, 1) := by decide +kernel
theorem dX12_counting_2 : decode cX12_counting 2 = .ok (.invokevirtual 411, 3) := by decide +kernel
theorem dX12_counting_5 : decode cX12_counting 5 = .ok (.istore_n 3, 1) := by decide +kernel
theorem dX12_counting_6 : decode cX12_counting 6 = .ok (.iload_n 3, 1) := by decide +kernel
theorem dX12_counting_7 : decode cX12_counting 7 = .ok (.ifCond .lt 11, 3) := by decide +kernel
theorem dX12_counting_10 : decode cX12_counting 10 = .ok (.aload_n 0, 1) := by decide +kernel
theorem dX12_counting_11 : decode cX12_counting 11 = .ok (.iload_n 2, 1) := by decide +kernel
theorem dX12_counting_12 : decode cX12_counting 12 = .ok (.invokevirtual 311, 3) := by decide +kernel
theorem dX12_counting_15 : decode cX12_counting 15 = .ok (.ifCond .ne 5, 3) := by decide +kernel
theorem dX12_counting_18 : decode cX12_counting 18 = .ok (.iconst (-1), 1) := by decide +kernel
theorem dX12_counting_19 : decode cX12_counting 19 = .ok (.ireturn, 1) := by decide +kernel
theorem dX12_counting_20 : decode cX12_counting 20 = .ok (.aload_n 0, 1) := by decide +kernel
theorem dX12_counting_21 : decode cX12_counting 21 = .ok (.iload_n 3, 1) := by decide +kernel
theorem dX12_counting_22 : decode cX12_counting 22 = .ok (.invokevirtual 398, 3) := by decide +kernel
theorem dX12_counting_25 : decode cX12_counting 25 = .ok (.aload_n 0, 1) := by decide +kernel
theorem dX12_counting_26 : decode cX12_counting 26 = .ok (.getfield 80, 3) := by decide +kernel
theorem dX12_counting_29 : decode cX12_counting 29 = .ok (.iload_n 2, 1) := by decide +kernel
theorem dX12_counting_30 : decode cX12_counting 30 = .ok (.iaload, 1) := by decide +kernel
theorem dX12_counting_31 : decode cX12_counting 31 = .ok (.ireturn, 1) := by decide +kernel
theorem dX12_chosenNow_0 : decode cX12_chosenNow 0 = .ok (.iconst (-1), 1) := by decide +kernel
theorem dX12_chosenNow_1 : decode cX12_chosenNow 1 = .ok (.istore_n 1, 1) := by decide +kernel
theorem dX12_chosenNow_2 : decode cX12_chosenNow 2 = .ok (.iconst 0, 1) := by decide +kernel
theorem dX12_chosenNow_3 : decode cX12_chosenNow 3 = .ok (.istore_n 2, 1) := by decide +kernel
theorem dX12_chosenNow_4 : decode cX12_chosenNow 4 = .ok (.iconst 0, 1) := by decide +kernel
theorem dX12_chosenNow_5 : decode cX12_chosenNow 5 = .ok (.istore_n 3, 1) := by decide +kernel
theorem dX12_chosenNow_6 : decode cX12_chosenNow 6 = .ok (.iload_n 3, 1) := by decide +kernel
theorem dX12_chosenNow_7 : decode cX12_chosenNow 7 = .ok (.aload_n 0, 1) := by decide +kernel
theorem dX12_chosenNow_8 : decode cX12_chosenNow 8 = .ok (.invokevirtual 378, 3) := by decide +kernel
theorem dX12_chosenNow_11 : decode cX12_chosenNow 11 = .ok (.if_icmp .ge 99, 3) := by decide +kernel
theorem dX12_chosenNow_14 : decode cX12_chosenNow 14 = .ok (.iconst 0, 1) := by decide +kernel
theorem dX12_chosenNow_15 : decode cX12_chosenNow 15 = .ok (.istore 4, 2) := by decide +kernel
theorem dX12_chosenNow_17 : decode cX12_chosenNow 17 = .ok (.iconst 0, 1) := by decide +kernel
theorem dX12_chosenNow_18 : decode cX12_chosenNow 18 = .ok (.istore 5, 2) := by decide +kernel
theorem dX12_chosenNow_20 : decode cX12_chosenNow 20 = .ok (.iload 5, 2) := by decide +kernel
theorem dX12_chosenNow_22 : decode cX12_chosenNow 22 = .ok (.aload_n 0, 1) := by decide +kernel
theorem dX12_chosenNow_23 : decode cX12_chosenNow 23 = .ok (.invokevirtual 371, 3) := by decide +kernel
theorem dX12_chosenNow_26 : decode cX12_chosenNow 26 = .ok (.if_icmp .ge 46, 3) := by decide +kernel
theorem dX12_chosenNow_29 : decode cX12_chosenNow 29 = .ok (.iload 4, 2) := by decide +kernel
theorem dX12_chosenNow_31 : decode cX12_chosenNow 31 = .ok (.aload_n 0, 1) := by decide +kernel
theorem dX12_chosenNow_32 : decode cX12_chosenNow 32 = .ok (.getfield 80, 3) := by decide +kernel
theorem dX12_chosenNow_35 : decode cX12_chosenNow 35 = .ok (.iload 5, 2) := by decide +kernel
theorem dX12_chosenNow_37 : decode cX12_chosenNow 37 = .ok (.iaload, 1) := by decide +kernel
theorem dX12_chosenNow_38 : decode cX12_chosenNow 38 = .ok (.iload_n 3, 1) := by decide +kernel
theorem dX12_chosenNow_39 : decode cX12_chosenNow 39 = .ok (.iconst 1, 1) := by decide +kernel
theorem dX12_chosenNow_40 : decode cX12_chosenNow 40 = .ok (.iadd, 1) := by decide +kernel
theorem dX12_chosenNow_41 : decode cX12_chosenNow 41 = .ok (.if_icmp .ne 21, 3) := by decide +kernel
theorem dX12_chosenNow_44 : decode cX12_chosenNow 44 = .ok (.aload_n 0, 1) := by decide +kernel
theorem dX12_chosenNow_45 : decode cX12_chosenNow 45 = .ok (.getfield 46, 3) := by decide +kernel
theorem dX12_chosenNow_48 : decode cX12_chosenNow 48 = .ok (.bipush 8, 2) := by decide +kernel
theorem dX12_chosenNow_50 : decode cX12_chosenNow 50 = .ok (.aload_n 0, 1) := by decide +kernel
theorem dX12_chosenNow_51 : decode cX12_chosenNow 51 = .ok (.getfield 253, 3) := by decide +kernel
theorem dX12_chosenNow_54 : decode cX12_chosenNow 54 = .ok (.imul, 1) := by decide +kernel
theorem dX12_chosenNow_55 : decode cX12_chosenNow 55 = .ok (.iload 5, 2) := by decide +kernel
theorem dX12_chosenNow_57 : decode cX12_chosenNow 57 = .ok (.iadd, 1) := by decide +kernel
theorem dX12_chosenNow_58 : decode cX12_chosenNow 58 = .ok (.iaload, 1) := by decide +kernel
theorem dX12_chosenNow_59 : decode cX12_chosenNow 59 = .ok (.goto 4, 3) := by decide +kernel
theorem dX12_chosenNow_62 : decode cX12_chosenNow 62 = .ok (.iconst 0, 1) := by decide +kernel
theorem dX12_chosenNow_63 : decode cX12_chosenNow 63 = .ok (.iadd, 1) := by decide +kernel
theorem dX12_chosenNow_64 : decode cX12_chosenNow 64 = .ok (.istore 4, 2) := by decide +kernel
theorem dX12_chosenNow_66 : decode cX12_chosenNow 66 = .ok (.iinc 5 1, 3) := by decide +kernel
theorem dX12_chosenNow_69 : decode cX12_chosenNow 69 = .ok (.goto (-49), 3) := by decide +kernel
theorem dX12_chosenNow_72 : decode cX12_chosenNow 72 = .ok (.iload 4, 2) := by decide +kernel
theorem dX12_chosenNow_74 : decode cX12_chosenNow 74 = .ok (.iload_n 2, 1) := by decide +kernel
theorem dX12_chosenNow_75 : decode cX12_chosenNow 75 = .ok (.if_icmp .le 8, 3) := by decide +kernel
theorem dX12_chosenNow_78 : decode cX12_chosenNow 78 = .ok (.iload_n 3, 1) := by decide +kernel
theorem dX12_chosenNow_79 : decode cX12_chosenNow 79 = .ok (.istore_n 1, 1) := by decide +kernel
theorem dX12_chosenNow_80 : decode cX12_chosenNow 80 = .ok (.goto 11, 3) := by decide +kernel
theorem dX12_chosenNow_83 : decode cX12_chosenNow 83 = .ok (.iload 4, 2) := by decide +kernel
theorem dX12_chosenNow_85 : decode cX12_chosenNow 85 = .ok (.iload_n 2, 1) := by decide +kernel
theorem dX12_chosenNow_86 : decode cX12_chosenNow 86 = .ok (.if_icmp .ne 5, 3) := by decide +kernel
theorem dX12_chosenNow_89 : decode cX12_chosenNow 89 = .ok (.iconst (-1), 1) := by decide +kernel
theorem dX12_chosenNow_90 : decode cX12_chosenNow 90 = .ok (.istore_n 1, 1) := by decide +kernel
theorem dX12_chosenNow_91 : decode cX12_chosenNow 91 = .ok (.iload 4, 2) := by decide +kernel
theorem dX12_chosenNow_93 : decode cX12_chosenNow 93 = .ok (.iload_n 2, 1) := by decide +kernel
theorem dX12_chosenNow_94 : decode cX12_chosenNow 94 = .ok (.if_icmp .le 8, 3) := by decide +kernel
theorem dX12_chosenNow_97 : decode cX12_chosenNow 97 = .ok (.iload 4, 2) := by decide +kernel
theorem dX12_chosenNow_99 : decode cX12_chosenNow 99 = .ok (.goto 4, 3) := by decide +kernel
theorem dX12_chosenNow_102 : decode cX12_chosenNow 102 = .ok (.iload_n 2, 1) := by decide +kernel
theorem dX12_chosenNow_103 : decode cX12_chosenNow 103 = .ok (.istore_n 2, 1) := by decide +kernel
theorem dX12_chosenNow_104 : decode cX12_chosenNow 104 = .ok (.iinc 3 1, 3) := by decide +kernel
theorem dX12_chosenNow_107 : decode cX12_chosenNow 107 = .ok (.goto (-101), 3) := by decide +kernel
theorem dX12_chosenNow_110 : decode cX12_chosenNow 110 = .ok (.iload_n 1, 1) := by decide +kernel
theorem dX12_chosenNow_111 : decode cX12_chosenNow 111 = .ok (.ireturn, 1) := by decide +kernel
theorem dX12_chosen_0 : decode cX12_chosen 0 = .ok (.aload_n 0, 1) := by decide +kernel
theorem dX12_chosen_1 : decode cX12_chosen 1 = .ok (.iload_n 1, 1) := by decide +kernel
theorem dX12_chosen_2 : decode cX12_chosen 2 = .ok (.invokevirtual 411, 3) := by decide +kernel
theorem dX12_chosen_5 : decode cX12_chosen 5 = .ok (.istore_n 2, 1) := by decide +kernel
theorem dX12_chosen_6 : decode cX12_chosen 6 = .ok (.iload_n 2, 1) := by decide +kernel
theorem dX12_chosen_7 : decode cX12_chosen 7 = .ok (.ifCond .ge 6, 3) := by decide +kernel
theorem dX12_chosen_10 : decode cX12_chosen 10 = .ok (.bipush (-2), 2) := by decide +kernel
theorem dX12_chosen_12 : decode cX12_chosen 12 = .ok (.ireturn, 1) := by decide +kernel
theorem dX12_chosen_13 : decode cX12_chosen 13 = .ok (.aload_n 0, 1) := by decide +kernel
theorem dX12_chosen_14 : decode cX12_chosen 14 = .ok (.iload_n 2, 1) := by decide +kernel
theorem dX12_chosen_15 : decode cX12_chosen 15 = .ok (.invokevirtual 398, 3) := by decide +kernel
theorem dX12_chosen_18 : decode cX12_chosen 18 = .ok (.aload_n 0, 1) := by decide +kernel
theorem dX12_chosen_19 : decode cX12_chosen 19 = .ok (.invokevirtual 414, 3) := by decide +kernel
theorem dX12_chosen_22 : decode cX12_chosen 22 = .ok (.ireturn, 1) := by decide +kernel
theorem dX12_isName_0 : decode cX12_isName 0 = .ok (.iload_n 1, 1) := by decide +kernel
theorem dX12_isName_1 : decode cX12_isName 1 = .ok (.iconst 0, 1) := by decide +kernel
theorem dX12_isName_2 : decode cX12_isName 2 = .ok (.aload_n 0, 1) := by decide +kernel
theorem dX12_isName_3 : decode cX12_isName 3 = .ok (.invokevirtual 378, 3) := by decide +kernel
theorem dX12_isName_6 : decode cX12_isName 6 = .ok (.iconst 1, 1) := by decide +kernel
theorem dX12_isName_7 : decode cX12_isName 7 = .ok (.isub, 1) := by decide +kernel
theorem dX12_isName_8 : decode cX12_isName 8 = .ok (.invokestatic 374, 3) := by decide +kernel
theorem dX12_isName_11 : decode cX12_isName 11 = .ok (.ireturn, 1) := by decide +kernel
theorem dX12_wins_0 : decode cX12_wins 0 = .ok (.iconst 0, 1) := by decide +kernel
theorem dX12_wins_1 : decode cX12_wins 1 = .ok (.istore_n 2, 1) := by decide +kernel
theorem dX12_wins_2 : decode cX12_wins 2 = .ok (.iconst 0, 1) := by decide +kernel
theorem dX12_wins_3 : decode cX12_wins 3 = .ok (.istore_n 3, 1) := by decide +kernel
theorem dX12_wins_4 : decode cX12_wins 4 = .ok (.iconst 0, 1) := by decide +kernel
theorem dX12_wins_5 : decode cX12_wins 5 = .ok (.istore 4, 2) := by decide +kernel
theorem dX12_wins_7 : decode cX12_wins 7 = .ok (.iload 4, 2) := by decide +kernel
theorem dX12_wins_9 : decode cX12_wins 9 = .ok (.aload_n 0, 1) := by decide +kernel
theorem dX12_wins_10 : decode cX12_wins 10 = .ok (.getfield 395, 3) := by decide +kernel
theorem dX12_wins_13 : decode cX12_wins 13 = .ok (.if_icmp .ge 46, 3) := by decide +kernel
theorem dX12_wins_16 : decode cX12_wins 16 = .ok (.aload_n 0, 1) := by decide +kernel
theorem dX12_wins_17 : decode cX12_wins 17 = .ok (.iload 4, 2) := by decide +kernel
theorem dX12_wins_19 : decode cX12_wins 19 = .ok (.invokevirtual 408, 3) := by decide +kernel
theorem dX12_wins_22 : decode cX12_wins 22 = .ok (.ifCond .ne 6, 3) := by decide +kernel
theorem dX12_wins_25 : decode cX12_wins 25 = .ok (.goto 28, 3) := by decide +kernel
theorem dX12_wins_28 : decode cX12_wins 28 = .ok (.aload_n 0, 1) := by decide +kernel
theorem dX12_wins_29 : decode cX12_wins 29 = .ok (.iload 4, 2) := by decide +kernel
theorem dX12_wins_31 : decode cX12_wins 31 = .ok (.invokevirtual 398, 3) := by decide +kernel
theorem dX12_wins_34 : decode cX12_wins 34 = .ok (.iinc 2 1, 3) := by decide +kernel
theorem dX12_wins_37 : decode cX12_wins 37 = .ok (.iload_n 3, 1) := by decide +kernel
theorem dX12_wins_38 : decode cX12_wins 38 = .ok (.aload_n 0, 1) := by decide +kernel
theorem dX12_wins_39 : decode cX12_wins 39 = .ok (.invokevirtual 414, 3) := by decide +kernel
theorem dX12_wins_42 : decode cX12_wins 42 = .ok (.iload_n 1, 1) := by decide +kernel
theorem dX12_wins_43 : decode cX12_wins 43 = .ok (.if_icmp .ne 7, 3) := by decide +kernel
theorem dX12_wins_46 : decode cX12_wins 46 = .ok (.iconst 1, 1) := by decide +kernel
theorem dX12_wins_47 : decode cX12_wins 47 = .ok (.goto 4, 3) := by decide +kernel
theorem dX12_wins_50 : decode cX12_wins 50 = .ok (.iconst 0, 1) := by decide +kernel
theorem dX12_wins_51 : decode cX12_wins 51 = .ok (.iadd, 1) := by decide +kernel
theorem dX12_wins_52 : decode cX12_wins 52 = .ok (.istore_n 3, 1) := by decide +kernel
theorem dX12_wins_53 : decode cX12_wins 53 = .ok (.iinc 4 1, 3) := by decide +kernel
theorem dX12_wins_56 : decode cX12_wins 56 = .ok (.goto (-49), 3) := by decide +kernel
theorem dX12_wins_59 : decode cX12_wins 59 = .ok (.aload_n 0, 1) := by decide +kernel
theorem dX12_wins_60 : decode cX12_wins 60 = .ok (.iload_n 1, 1) := by decide +kernel
theorem dX12_wins_61 : decode cX12_wins 61 = .ok (.invokevirtual 417, 3) := by decide +kernel
theorem dX12_wins_64 : decode cX12_wins 64 = .ok (.ifCond .eq 7, 3) := by decide +kernel
theorem dX12_wins_67 : decode cX12_wins 67 = .ok (.iload_n 2, 1) := by decide +kernel
theorem dX12_wins_68 : decode cX12_wins 68 = .ok (.ifCond .ne 7, 3) := by decide +kernel
theorem dX12_wins_71 : decode cX12_wins 71 = .ok (.iconst (-1), 1) := by decide +kernel
theorem dX12_wins_72 : decode cX12_wins 72 = .ok (.goto 21, 3) := by decide +kernel
theorem dX12_wins_75 : decode cX12_wins 75 = .ok (.iload_n 3, 1) := by decide +kernel
theorem dX12_wins_76 : decode cX12_wins 76 = .ok (.iload_n 2, 1) := by decide +kernel
theorem dX12_wins_77 : decode cX12_wins 77 = .ok (.if_icmp .ne 7, 3) := by decide +kernel
theorem dX12_wins_80 : decode cX12_wins 80 = .ok (.iconst 2, 1) := by decide +kernel
theorem dX12_wins_81 : decode cX12_wins 81 = .ok (.goto 12, 3) := by decide +kernel
theorem dX12_wins_84 : decode cX12_wins 84 = .ok (.iload_n 3, 1) := by decide +kernel
theorem dX12_wins_85 : decode cX12_wins 85 = .ok (.ifCond .le 7, 3) := by decide +kernel
theorem dX12_wins_88 : decode cX12_wins 88 = .ok (.iconst 1, 1) := by decide +kernel
theorem dX12_wins_89 : decode cX12_wins 89 = .ok (.goto 4, 3) := by decide +kernel
theorem dX12_wins_92 : decode cX12_wins 92 = .ok (.iconst 0, 1) := by decide +kernel
theorem dX12_wins_93 : decode cX12_wins 93 = .ok (.ireturn, 1) := by decide +kernel
theorem dX12_othersOf_0 : decode cX12_othersOf 0 = .ok (.iconst 0, 1) := by decide +kernel
theorem dX12_othersOf_1 : decode cX12_othersOf 1 = .ok (.istore_n 3, 1) := by decide +kernel
theorem dX12_othersOf_2 : decode cX12_othersOf 2 = .ok (.iconst 0, 1) := by decide +kernel
theorem dX12_othersOf_3 : decode cX12_othersOf 3 = .ok (.istore 4, 2) := by decide +kernel
theorem dX12_othersOf_5 : decode cX12_othersOf 5 = .ok (.iload 4, 2) := by decide +kernel
theorem dX12_othersOf_7 : decode cX12_othersOf 7 = .ok (.aload_n 0, 1) := by decide +kernel
theorem dX12_othersOf_8 : decode cX12_othersOf 8 = .ok (.invokevirtual 371, 3) := by decide +kernel
theorem dX12_othersOf_11 : decode cX12_othersOf 11 = .ok (.if_icmp .ge 45, 3) := by decide +kernel
theorem dX12_othersOf_14 : decode cX12_othersOf 14 = .ok (.iload 4, 2) := by decide +kernel
theorem dX12_othersOf_16 : decode cX12_othersOf 16 = .ok (.iload_n 1, 1) := by decide +kernel
theorem dX12_othersOf_17 : decode cX12_othersOf 17 = .ok (.if_icmp .eq 33, 3) := by decide +kernel
theorem dX12_othersOf_20 : decode cX12_othersOf 20 = .ok (.iload_n 2, 1) := by decide +kernel
theorem dX12_othersOf_21 : decode cX12_othersOf 21 = .ok (.ifCond .lt 22, 3) := by decide +kernel
theorem dX12_othersOf_24 : decode cX12_othersOf 24 = .ok (.aload_n 0, 1) := by decide +kernel
theorem dX12_othersOf_25 : decode cX12_othersOf 25 = .ok (.getfield 43, 3) := by decide +kernel
theorem dX12_othersOf_28 : decode cX12_othersOf 28 = .ok (.bipush 8, 2) := by decide +kernel
theorem dX12_othersOf_30 : decode cX12_othersOf 30 = .ok (.aload_n 0, 1) := by decide +kernel
theorem dX12_othersOf_31 : decode cX12_othersOf 31 = .ok (.getfield 253, 3) := by decide +kernel
theorem dX12_othersOf_34 : decode cX12_othersOf 34 = .ok (.imul, 1) := by decide +kernel
theorem dX12_othersOf_35 : decode cX12_othersOf 35 = .ok (.iload 4, 2) := by decide +kernel
theorem dX12_othersOf_37 : decode cX12_othersOf 37 = .ok (.iadd, 1) := by decide +kernel
theorem dX12_othersOf_38 : decode cX12_othersOf 38 = .ok (.iaload, 1) := by decide +kernel
theorem dX12_othersOf_39 : decode cX12_othersOf 39 = .ok (.iload_n 2, 1) := by decide +kernel
theorem dX12_othersOf_40 : decode cX12_othersOf 40 = .ok (.if_icmp .ne 10, 3) := by decide +kernel
theorem dX12_othersOf_43 : decode cX12_othersOf 43 = .ok (.iload_n 3, 1) := by decide +kernel
theorem dX12_othersOf_44 : decode cX12_othersOf 44 = .ok (.iconst 1, 1) := by decide +kernel
theorem dX12_othersOf_45 : decode cX12_othersOf 45 = .ok (.iload 4, 2) := by decide +kernel
theorem dX12_othersOf_47 : decode cX12_othersOf 47 = .ok (.ishl, 1) := by decide +kernel
theorem dX12_othersOf_48 : decode cX12_othersOf 48 = .ok (.ior, 1) := by decide +kernel
theorem dX12_othersOf_49 : decode cX12_othersOf 49 = .ok (.istore_n 3, 1) := by decide +kernel
theorem dX12_othersOf_50 : decode cX12_othersOf 50 = .ok (.iinc 4 1, 3) := by decide +kernel
theorem dX12_othersOf_53 : decode cX12_othersOf 53 = .ok (.goto (-48), 3) := by decide +kernel
theorem dX12_othersOf_56 : decode cX12_othersOf 56 = .ok (.iload_n 3, 1) := by decide +kernel
theorem dX12_othersOf_57 : decode cX12_othersOf 57 = .ok (.ireturn, 1) := by decide +kernel
theorem dX12_looksOf_0 : decode cX12_looksOf 0 = .ok (.bipush 8, 2) := by decide +kernel
theorem dX12_looksOf_2 : decode cX12_looksOf 2 = .ok (.aload_n 0, 1) := by decide +kernel
theorem dX12_looksOf_3 : decode cX12_looksOf 3 = .ok (.getfield 253, 3) := by decide +kernel
theorem dX12_looksOf_6 : decode cX12_looksOf 6 = .ok (.imul, 1) := by decide +kernel
theorem dX12_looksOf_7 : decode cX12_looksOf 7 = .ok (.iload_n 1, 1) := by decide +kernel
theorem dX12_looksOf_8 : decode cX12_looksOf 8 = .ok (.iadd, 1) := by decide +kernel
theorem dX12_looksOf_9 : decode cX12_looksOf 9 = .ok (.istore_n 2, 1) := by decide +kernel
theorem dX12_looksOf_10 : decode cX12_looksOf 10 = .ok (.iconst 0, 1) := by decide +kernel
theorem dX12_looksOf_11 : decode cX12_looksOf 11 = .ok (.istore_n 3, 1) := by decide +kernel
theorem dX12_looksOf_12 : decode cX12_looksOf 12 = .ok (.iconst 0, 1) := by decide +kernel
theorem dX12_looksOf_13 : decode cX12_looksOf 13 = .ok (.istore 4, 2) := by decide +kernel
theorem dX12_looksOf_15 : decode cX12_looksOf 15 = .ok (.iload 4, 2) := by decide +kernel
theorem dX12_looksOf_17 : decode cX12_looksOf 17 = .ok (.aload_n 0, 1) := by decide +kernel
theorem dX12_looksOf_18 : decode cX12_looksOf 18 = .ok (.getfield 53, 3) := by decide +kernel
theorem dX12_looksOf_21 : decode cX12_looksOf 21 = .ok (.iload_n 2, 1) := by decide +kernel
theorem dX12_looksOf_22 : decode cX12_looksOf 22 = .ok (.iaload, 1) := by decide +kernel
theorem dX12_looksOf_23 : decode cX12_looksOf 23 = .ok (.if_icmp .ge 94, 3) := by decide +kernel
theorem dX12_looksOf_26 : decode cX12_looksOf 26 = .ok (.sipush 640, 3) := by decide +kernel
theorem dX12_looksOf_29 : decode cX12_looksOf 29 = .ok (.iload_n 2, 1) := by decide +kernel
theorem dX12_looksOf_30 : decode cX12_looksOf 30 = .ok (.imul, 1) := by decide +kernel
theorem dX12_looksOf_31 : decode cX12_looksOf 31 = .ok (.iload 4, 2) := by decide +kernel
theorem dX12_looksOf_33 : decode cX12_looksOf 33 = .ok (.iadd, 1) := by decide +kernel
theorem dX12_looksOf_34 : decode cX12_looksOf 34 = .ok (.istore 5, 2) := by decide +kernel
theorem dX12_looksOf_36 : decode cX12_looksOf 36 = .ok (.aload_n 0, 1) := by decide +kernel
theorem dX12_looksOf_37 : decode cX12_looksOf 37 = .ok (.getfield 59, 3) := by decide +kernel
theorem dX12_looksOf_40 : decode cX12_looksOf 40 = .ok (.iload 5, 2) := by decide +kernel
theorem dX12_looksOf_42 : decode cX12_looksOf 42 = .ok (.iaload, 1) := by decide +kernel
theorem dX12_looksOf_43 : decode cX12_looksOf 43 = .ok (.istore 6, 2) := by decide +kernel
theorem dX12_looksOf_45 : decode cX12_looksOf 45 = .ok (.iload 6, 2) := by decide +kernel
theorem dX12_looksOf_47 : decode cX12_looksOf 47 = .ok (.iconst 4, 1) := by decide +kernel
theorem dX12_looksOf_48 : decode cX12_looksOf 48 = .ok (.if_icmp .eq 10, 3) := by decide +kernel
theorem dX12_looksOf_51 : decode cX12_looksOf 51 = .ok (.iload 6, 2) := by decide +kernel
theorem dX12_looksOf_53 : decode cX12_looksOf 53 = .ok (.bipush 8, 2) := by decide +kernel
theorem dX12_looksOf_55 : decode cX12_looksOf 55 = .ok (.if_icmp .ne 15, 3) := by decide +kernel
theorem dX12_looksOf_58 : decode cX12_looksOf 58 = .ok (.iload_n 3, 1) := by decide +kernel
theorem dX12_looksOf_59 : decode cX12_looksOf 59 = .ok (.iconst 1, 1) := by decide +kernel
theorem dX12_looksOf_60 : decode cX12_looksOf 60 = .ok (.aload_n 0, 1) := by decide +kernel
theorem dX12_looksOf_61 : decode cX12_looksOf 61 = .ok (.getfield 62, 3) := by decide +kernel
theorem dX12_looksOf_64 : decode cX12_looksOf 64 = .ok (.iload 5, 2) := by decide +kernel
theorem dX12_looksOf_66 : decode cX12_looksOf 66 = .ok (.iaload, 1) := by decide +kernel
theorem dX12_looksOf_67 : decode cX12_looksOf 67 = .ok (.ishl, 1) := by decide +kernel
theorem dX12_looksOf_68 : decode cX12_looksOf 68 = .ok (.ior, 1) := by decide +kernel
theorem dX12_looksOf_69 : decode cX12_looksOf 69 = .ok (.istore_n 3, 1) := by decide +kernel
theorem dX12_looksOf_70 : decode cX12_looksOf 70 = .ok (.iload 6, 2) := by decide +kernel
theorem dX12_looksOf_72 : decode cX12_looksOf 72 = .ok (.iconst 2, 1) := by decide +kernel
theorem dX12_looksOf_73 : decode cX12_looksOf 73 = .ok (.if_icmp .eq 23, 3) := by decide +kernel
theorem dX12_looksOf_76 : decode cX12_looksOf 76 = .ok (.iload 6, 2) := by decide +kernel
theorem dX12_looksOf_78 : decode cX12_looksOf 78 = .ok (.iconst 3, 1) := by decide +kernel
theorem dX12_looksOf_79 : decode cX12_looksOf 79 = .ok (.if_icmp .eq 17, 3) := by decide +kernel
theorem dX12_looksOf_82 : decode cX12_looksOf 82 = .ok (.iload 6, 2) := by decide +kernel
theorem dX12_looksOf_84 : decode cX12_looksOf 84 = .ok (.bipush 9, 2) := by decide +kernel
theorem dX12_looksOf_86 : decode cX12_looksOf 86 = .ok (.if_icmp .eq 10, 3) := by decide +kernel
theorem dX12_looksOf_89 : decode cX12_looksOf 89 = .ok (.iload 6, 2) := by decide +kernel
theorem dX12_looksOf_91 : decode cX12_looksOf 91 = .ok (.bipush 10, 2) := by decide +kernel
theorem dX12_looksOf_93 : decode cX12_looksOf 93 = .ok (.if_icmp .ne 18, 3) := by decide +kernel
theorem dX12_looksOf_96 : decode cX12_looksOf 96 = .ok (.iload_n 3, 1) := by decide +kernel
theorem dX12_looksOf_97 : decode cX12_looksOf 97 = .ok (.aload_n 0, 1) := by decide +kernel
theorem dX12_looksOf_98 : decode cX12_looksOf 98 = .ok (.iload_n 1, 1) := by decide +kernel
theorem dX12_looksOf_99 : decode cX12_looksOf 99 = .ok (.aload_n 0, 1) := by decide +kernel
theorem dX12_looksOf_100 : decode cX12_looksOf 100 = .ok (.getfield 65, 3) := by decide +kernel
theorem dX12_looksOf_103 : decode cX12_looksOf 103 = .ok (.iload 5, 2) := by decide +kernel
theorem dX12_looksOf_105 : decode cX12_looksOf 105 = .ok (.iaload, 1) := by decide +kernel
theorem dX12_looksOf_106 : decode cX12_looksOf 106 = .ok (.invokevirtual 420, 3) := by decide +kernel
theorem dX12_looksOf_109 : decode cX12_looksOf 109 = .ok (.ior, 1) := by decide +kernel
theorem dX12_looksOf_110 : decode cX12_looksOf 110 = .ok (.istore_n 3, 1) := by decide +kernel
theorem dX12_looksOf_111 : decode cX12_looksOf 111 = .ok (.iinc 4 1, 3) := by decide +kernel
theorem dX12_looksOf_114 : decode cX12_looksOf 114 = .ok (.goto (-99), 3) := by decide +kernel
theorem dX12_looksOf_117 : decode cX12_looksOf 117 = .ok (.iload_n 3, 1) := by decide +kernel
theorem dX12_looksOf_118 : decode cX12_looksOf 118 = .ok (.ireturn, 1) := by decide +kernel
theorem dX12_looks_0 : decode cX12_looks 0 = .ok (.aload_n 0, 1) := by decide +kernel
theorem dX12_looks_1 : decode cX12_looks 1 = .ok (.iload_n 1, 1) := by decide +kernel
theorem dX12_looks_2 : decode cX12_looks 2 = .ok (.invokevirtual 311, 3) := by decide +kernel
theorem dX12_looks_5 : decode cX12_looks 5 = .ok (.ifCond .eq 11, 3) := by decide +kernel
theorem dX12_looks_8 : decode cX12_looks 8 = .ok (.aload_n 0, 1) := by decide +kernel
theorem dX12_looks_9 : decode cX12_looks 9 = .ok (.iload_n 1, 1) := by decide +kernel
theorem dX12_looks_10 : decode cX12_looks 10 = .ok (.invokevirtual 423, 3) := by decide +kernel
theorem dX12_looks_13 : decode cX12_looks 13 = .ok (.goto 4, 3) := by decide +kernel
theorem dX12_looks_16 : decode cX12_looks 16 = .ok (.iconst (-1), 1) := by decide +kernel
theorem dX12_looks_17 : decode cX12_looks 17 = .ok (.ireturn, 1) := by decide +kernel
theorem dX12_comesTo_0 : decode cX12_comesTo 0 = .ok (.iconst 1, 1) := by decide +kernel
theorem dX12_comesTo_1 : decode cX12_comesTo 1 = .ok (.iload_n 1, 1) := by decide +kernel
theorem dX12_comesTo_2 : decode cX12_comesTo 2 = .ok (.ishl, 1) := by decide +kernel
theorem dX12_comesTo_3 : decode cX12_comesTo 3 = .ok (.istore_n 2, 1) := by decide +kernel
theorem dX12_comesTo_4 : decode cX12_comesTo 4 = .ok (.iconst 0, 1) := by decide +kernel
theorem dX12_comesTo_5 : decode cX12_comesTo 5 = .ok (.istore_n 3, 1) := by decide +kernel
theorem dX12_comesTo_6 : decode cX12_comesTo 6 = .ok (.iload_n 3, 1) := by decide +kernel
theorem dX12_comesTo_7 : decode cX12_comesTo 7 = .ok (.bipush 8, 2) := by decide +kernel
theorem dX12_comesTo_9 : decode cX12_comesTo 9 = .ok (.if_icmp .ge 46, 3) := by decide +kernel
theorem dX12_comesTo_12 : decode cX12_comesTo 12 = .ok (.iconst 0, 1) := by decide +kernel
theorem dX12_comesTo_13 : decode cX12_comesTo 13 = .ok (.istore 4, 2) := by decide +kernel
theorem dX12_comesTo_15 : decode cX12_comesTo 15 = .ok (.iload 4, 2) := by decide +kernel
theorem dX12_comesTo_17 : decode cX12_comesTo 17 = .ok (.aload_n 0, 1) := by decide +kernel
theorem dX12_comesTo_18 : decode cX12_comesTo 18 = .ok (.invokevirtual 371, 3) := by decide +kernel
theorem dX12_comesTo_21 : decode cX12_comesTo 21 = .ok (.if_icmp .ge 28, 3) := by decide +kernel
theorem dX12_comesTo_24 : decode cX12_comesTo 24 = .ok (.iload_n 2, 1) := by decide +kernel
theorem dX12_comesTo_25 : decode cX12_comesTo 25 = .ok (.iload 4, 2) := by decide +kernel
theorem dX12_comesTo_27 : decode cX12_comesTo 27 = .ok (.ishr, 1) := by decide +kernel
theorem dX12_comesTo_28 : decode cX12_comesTo 28 = .ok (.iconst 1, 1) := by decide +kernel
theorem dX12_comesTo_29 : decode cX12_comesTo 29 = .ok (.iand, 1) := by decide +kernel
theorem dX12_comesTo_30 : decode cX12_comesTo 30 = .ok (.iconst 1, 1) := by decide +kernel
theorem dX12_comesTo_31 : decode cX12_comesTo 31 = .ok (.if_icmp .ne 12, 3) := by decide +kernel
theorem dX12_comesTo_34 : decode cX12_comesTo 34 = .ok (.iload_n 2, 1) := by decide +kernel
theorem dX12_comesTo_35 : decode cX12_comesTo 35 = .ok (.aload_n 0, 1) := by decide +kernel
theorem dX12_comesTo_36 : decode cX12_comesTo 36 = .ok (.iload 4, 2) := by decide +kernel
theorem dX12_comesTo_38 : decode cX12_comesTo 38 = .ok (.invokevirtual 423, 3) := by decide +kernel
theorem dX12_comesTo_41 : decode cX12_comesTo 41 = .ok (.ior, 1) := by decide +kernel
theorem dX12_comesTo_42 : decode cX12_comesTo 42 = .ok (.istore_n 2, 1) := by decide +kernel
theorem dX12_comesTo_43 : decode cX12_comesTo 43 = .ok (.iinc 4 1, 3) := by decide +kernel
theorem dX12_comesTo_46 : decode cX12_comesTo 46 = .ok (.goto (-31), 3) := by decide +kernel
theorem dX12_comesTo_49 : decode cX12_comesTo 49 = .ok (.iinc 3 1, 3) := by decide +kernel
theorem dX12_comesTo_52 : decode cX12_comesTo 52 = .ok (.goto (-46), 3) := by decide +kernel
theorem dX12_comesTo_55 : decode cX12_comesTo 55 = .ok (.iload_n 2, 1) := by decide +kernel
theorem dX12_comesTo_56 : decode cX12_comesTo 56 = .ok (.ireturn, 1) := by decide +kernel
theorem dX12_part_0 : decode cX12_part 0 = .ok (.aload_n 0, 1) := by decide +kernel
theorem dX12_part_1 : decode cX12_part 1 = .ok (.iload_n 1, 1) := by decide +kernel
theorem dX12_part_2 : decode cX12_part 2 = .ok (.invokevirtual 311, 3) := by decide +kernel
theorem dX12_part_5 : decode cX12_part 5 = .ok (.ifCond .ne 5, 3) := by decide +kernel
theorem dX12_part_8 : decode cX12_part 8 = .ok (.iconst (-1), 1) := by decide +kernel
theorem dX12_part_9 : decode cX12_part 9 = .ok (.ireturn, 1) := by decide +kernel
theorem dX12_part_10 : decode cX12_part 10 = .ok (.aload_n 0, 1) := by decide +kernel
theorem dX12_part_11 : decode cX12_part 11 = .ok (.iload_n 1, 1) := by decide +kernel
theorem dX12_part_12 : decode cX12_part 12 = .ok (.invokevirtual 426, 3) := by decide +kernel
theorem dX12_part_15 : decode cX12_part 15 = .ok (.istore_n 2, 1) := by decide +kernel
theorem dX12_part_16 : decode cX12_part 16 = .ok (.iconst 0, 1) := by decide +kernel
theorem dX12_part_17 : decode cX12_part 17 = .ok (.istore_n 3, 1) := by decide +kernel
theorem dX12_part_18 : decode cX12_part 18 = .ok (.iconst 0, 1) := by decide +kernel
theorem dX12_part_19 : decode cX12_part 19 = .ok (.istore 4, 2) := by decide +kernel
theorem dX12_part_21 : decode cX12_part 21 = .ok (.iload 4, 2) := by decide +kernel
theorem dX12_part_23 : decode cX12_part 23 = .ok (.aload_n 0, 1) := by decide +kernel
theorem dX12_part_24 : decode cX12_part 24 = .ok (.invokevirtual 371, 3) := by decide +kernel
theorem dX12_part_27 : decode cX12_part 27 = .ok (.if_icmp .ge 40, 3) := by decide +kernel
theorem dX12_part_30 : decode cX12_part 30 = .ok (.iload_n 2, 1) := by decide +kernel
theorem dX12_part_31 : decode cX12_part 31 = .ok (.iload 4, 2) := by decide +kernel
theorem dX12_part_33 : decode cX12_part 33 = .ok (.ishr, 1) := by decide +kernel
theorem dX12_part_34 : decode cX12_part 34 = .ok (.iconst 1, 1) := by decide +kernel
theorem dX12_part_35 : decode cX12_part 35 = .ok (.iand, 1) := by decide +kernel
theorem dX12_part_36 : decode cX12_part 36 = .ok (.iconst 1, 1) := by decide +kernel
theorem dX12_part_37 : decode cX12_part 37 = .ok (.if_icmp .ne 24, 3) := by decide +kernel
theorem dX12_part_40 : decode cX12_part 40 = .ok (.aload_n 0, 1) := by decide +kernel
theorem dX12_part_41 : decode cX12_part 41 = .ok (.iload 4, 2) := by decide +kernel
theorem dX12_part_43 : decode cX12_part 43 = .ok (.invokevirtual 426, 3) := by decide +kernel
theorem dX12_part_46 : decode cX12_part 46 = .ok (.iload_n 1, 1) := by decide +kernel
theorem dX12_part_47 : decode cX12_part 47 = .ok (.ishr, 1) := by decide +kernel
theorem dX12_part_48 : decode cX12_part 48 = .ok (.iconst 1, 1) := by decide +kernel
theorem dX12_part_49 : decode cX12_part 49 = .ok (.iand, 1) := by decide +kernel
theorem dX12_part_50 : decode cX12_part 50 = .ok (.iconst 1, 1) := by decide +kernel
theorem dX12_part_51 : decode cX12_part 51 = .ok (.if_icmp .ne 10, 3) := by decide +kernel
theorem dX12_part_54 : decode cX12_part 54 = .ok (.iload_n 3, 1) := by decide +kernel
theorem dX12_part_55 : decode cX12_part 55 = .ok (.iconst 1, 1) := by decide +kernel
theorem dX12_part_56 : decode cX12_part 56 = .ok (.iload 4, 2) := by decide +kernel
theorem dX12_part_58 : decode cX12_part 58 = .ok (.ishl, 1) := by decide +kernel
theorem dX12_part_59 : decode cX12_part 59 = .ok (.ior, 1) := by decide +kernel
theorem dX12_part_60 : decode cX12_part 60 = .ok (.istore_n 3, 1) := by decide +kernel
theorem dX12_part_61 : decode cX12_part 61 = .ok (.iinc 4 1, 3) := by decide +kernel
theorem dX12_part_64 : decode cX12_part 64 = .ok (.goto (-43), 3) := by decide +kernel
theorem dX12_part_67 : decode cX12_part 67 = .ok (.iload_n 3, 1) := by decide +kernel
theorem dX12_part_68 : decode cX12_part 68 = .ok (.ireturn, 1) := by decide +kernel
theorem dX12_telling_0 : decode cX12_telling 0 = .ok (.iconst 0, 1) := by decide +kernel
theorem dX12_telling_1 : decode cX12_telling 1 = .ok (.istore_n 1, 1) := by decide +kernel
theorem dX12_telling_2 : decode cX12_telling 2 = .ok (.iload_n 1, 1) := by decide +kernel
theorem dX12_telling_3 : decode cX12_telling 3 = .ok (.sipush 256, 3) := by decide +kernel
theorem dX12_telling_6 : decode cX12_telling 6 = .ok (.if_icmp .ge 16, 3) := by decide +kernel
theorem dX12_telling_9 : decode cX12_telling 9 = .ok (.aload_n 0, 1) := by decide +kernel
theorem dX12_telling_10 : decode cX12_telling 10 = .ok (.getfield 96, 3) := by decide +kernel
theorem dX12_telling_13 : decode cX12_telling 13 = .ok (.iload_n 1, 1) := by decide +kernel
theorem dX12_telling_14 : decode cX12_telling 14 = .ok (.iconst 0, 1) := by decide +kernel
theorem dX12_telling_15 : decode cX12_telling 15 = .ok (.bastore, 1) := by decide +kernel
theorem dX12_telling_16 : decode cX12_telling 16 = .ok (.iinc 1 1, 3) := by decide +kernel
theorem dX12_telling_19 : decode cX12_telling 19 = .ok (.goto (-17), 3) := by decide +kernel
theorem dX12_telling_22 : decode cX12_telling 22 = .ok (.iconst 0, 1) := by decide +kernel
theorem dX12_telling_23 : decode cX12_telling 23 = .ok (.istore_n 1, 1) := by decide +kernel
theorem dX12_telling_24 : decode cX12_telling 24 = .ok (.iload_n 1, 1) := by decide +kernel
theorem dX12_telling_25 : decode cX12_telling 25 = .ok (.aload_n 0, 1) := by decide +kernel
theorem dX12_telling_26 : decode cX12_telling 26 = .ok (.getfield 395, 3) := by decide +kernel
theorem dX12_telling_29 : decode cX12_telling 29 = .ok (.if_icmp .ge 21, 3) := by decide +kernel
theorem dX12_telling_32 : decode cX12_telling 32 = .ok (.aload_n 0, 1) := by decide +kernel
theorem dX12_telling_33 : decode cX12_telling 33 = .ok (.getfield 96, 3) := by decide +kernel
theorem dX12_telling_36 : decode cX12_telling 36 = .ok (.aload_n 0, 1) := by decide +kernel
theorem dX12_telling_37 : decode cX12_telling 37 = .ok (.getfield 93, 3) := by decide +kernel
theorem dX12_telling_40 : decode cX12_telling 40 = .ok (.iload_n 1, 1) := by decide +kernel
theorem dX12_telling_41 : decode cX12_telling 41 = .ok (.iaload, 1) := by decide +kernel
theorem dX12_telling_42 : decode cX12_telling 42 = .ok (.iconst 1, 1) := by decide +kernel
theorem dX12_telling_43 : decode cX12_telling 43 = .ok (.bastore, 1) := by decide +kernel
theorem dX12_telling_44 : decode cX12_telling 44 = .ok (.iinc 1 1, 3) := by decide +kernel
theorem dX12_telling_47 : decode cX12_telling 47 = .ok (.goto (-23), 3) := by decide +kernel
theorem dX12_telling_50 : decode cX12_telling 50 = .ok (.aload_n 0, 1) := by decide +kernel
theorem dX12_telling_51 : decode cX12_telling 51 = .ok (.invokevirtual 405, 3) := by decide +kernel
theorem dX12_telling_54 : decode cX12_telling 54 = .ok (.istore_n 1, 1) := by decide +kernel
theorem dX12_telling_55 : decode cX12_telling 55 = .ok (.iload_n 1, 1) := by decide +kernel
theorem dX12_telling_56 : decode cX12_telling 56 = .ok (.ifCond .lt 53, 3) := by decide +kernel
theorem dX12_telling_59 : decode cX12_telling 59 = .ok (.iconst 0, 1) := by decide +kernel
theorem dX12_telling_60 : decode cX12_telling 60 = .ok (.istore_n 2, 1) := by decide +kernel
theorem dX12_telling_61 : decode cX12_telling 61 = .ok (.iload_n 2, 1) := by decide +kernel
theorem dX12_telling_62 : decode cX12_telling 62 = .ok (.aload_n 0, 1) := by decide +kernel
theorem dX12_telling_63 : decode cX12_telling 63 = .ok (.invokevirtual 371, 3) := by decide +kernel
theorem dX12_telling_66 : decode cX12_telling 66 = .ok (.if_icmp .ge 37, 3) := by decide +kernel
theorem dX12_telling_69 : decode cX12_telling 69 = .ok (.iload_n 1, 1) := by decide +kernel
theorem dX12_telling_70 : decode cX12_telling 70 = .ok (.iload_n 2, 1) := by decide +kernel
theorem dX12_telling_71 : decode cX12_telling 71 = .ok (.ishr, 1) := by decide +kernel
theorem dX12_telling_72 : decode cX12_telling 72 = .ok (.iconst 1, 1) := by decide +kernel
theorem dX12_telling_73 : decode cX12_telling 73 = .ok (.iand, 1) := by decide +kernel
theorem dX12_telling_74 : decode cX12_telling 74 = .ok (.ifCond .ne 23, 3) := by decide +kernel
theorem dX12_telling_77 : decode cX12_telling 77 = .ok (.aload_n 0, 1) := by decide +kernel
theorem dX12_telling_78 : decode cX12_telling 78 = .ok (.getfield 96, 3) := by decide +kernel
theorem dX12_telling_81 : decode cX12_telling 81 = .ok (.iload_n 1, 1) := by decide +kernel
theorem dX12_telling_82 : decode cX12_telling 82 = .ok (.iconst 1, 1) := by decide +kernel
theorem dX12_telling_83 : decode cX12_telling 83 = .ok (.iload_n 2, 1) := by decide +kernel
theorem dX12_telling_84 : decode cX12_telling 84 = .ok (.ishl, 1) := by decide +kernel
theorem dX12_telling_85 : decode cX12_telling 85 = .ok (.ior, 1) := by decide +kernel
theorem dX12_telling_86 : decode cX12_telling 86 = .ok (.baload, 1) := by decide +kernel
theorem dX12_telling_87 : decode cX12_telling 87 = .ok (.ifCond .eq 10, 3) := by decide +kernel
theorem dX12_telling_90 : decode cX12_telling 90 = .ok (.aload_n 0, 1) := by decide +kernel
theorem dX12_telling_91 : decode cX12_telling 91 = .ok (.getfield 96, 3) := by decide +kernel
theorem dX12_telling_94 : decode cX12_telling 94 = .ok (.iload_n 1, 1) := by decide +kernel
theorem dX12_telling_95 : decode cX12_telling 95 = .ok (.iconst 1, 1) := by decide +kernel
theorem dX12_telling_96 : decode cX12_telling 96 = .ok (.bastore, 1) := by decide +kernel
theorem dX12_telling_97 : decode cX12_telling 97 = .ok (.iinc 2 1, 3) := by decide +kernel
theorem dX12_telling_100 : decode cX12_telling 100 = .ok (.goto (-39), 3) := by decide +kernel
theorem dX12_telling_103 : decode cX12_telling 103 = .ok (.iinc 1 (-1), 3) := by decide +kernel
theorem dX12_telling_106 : decode cX12_telling 106 = .ok (.goto (-51), 3) := by decide +kernel
theorem dX12_telling_109 : decode cX12_telling 109 = .ok (.iconst (-1), 1) := by decide +kernel
theorem dX12_telling_110 : decode cX12_telling 110 = .ok (.istore_n 1, 1) := by decide +kernel
theorem dX12_telling_111 : decode cX12_telling 111 = .ok (.iconst 0, 1) := by decide +kernel
theorem dX12_telling_112 : decode cX12_telling 112 = .ok (.istore_n 2, 1) := by decide +kernel
theorem dX12_telling_113 : decode cX12_telling 113 = .ok (.iload_n 2, 1) := by decide +kernel
theorem dX12_telling_114 : decode cX12_telling 114 = .ok (.aload_n 0, 1) := by decide +kernel
theorem dX12_telling_115 : decode cX12_telling 115 = .ok (.invokevirtual 405, 3) := by decide +kernel
theorem dX12_telling_118 : decode cX12_telling 118 = .ok (.if_icmp .gt 35, 3) := by decide +kernel
theorem dX12_telling_121 : decode cX12_telling 121 = .ok (.aload_n 0, 1) := by decide +kernel
theorem dX12_telling_122 : decode cX12_telling 122 = .ok (.getfield 96, 3) := by decide +kernel
theorem dX12_telling_125 : decode cX12_telling 125 = .ok (.iload_n 2, 1) := by decide +kernel
theorem dX12_telling_126 : decode cX12_telling 126 = .ok (.baload, 1) := by decide +kernel
theorem dX12_telling_127 : decode cX12_telling 127 = .ok (.ifCond .ne 20, 3) := by decide +kernel
theorem dX12_telling_130 : decode cX12_telling 130 = .ok (.iload_n 1, 1) := by decide +kernel
theorem dX12_telling_131 : decode cX12_telling 131 = .ok (.ifCond .lt 14, 3) := by decide +kernel
theorem dX12_telling_134 : decode cX12_telling 134 = .ok (.iload_n 2, 1) := by decide +kernel
theorem dX12_telling_135 : decode cX12_telling 135 = .ok (.invokestatic 429, 3) := by decide +kernel
theorem dX12_telling_138 : decode cX12_telling 138 = .ok (.iload_n 1, 1) := by decide +kernel
theorem dX12_telling_139 : decode cX12_telling 139 = .ok (.invokestatic 429, 3) := by decide +kernel
theorem dX12_telling_142 : decode cX12_telling 142 = .ok (.if_icmp .ge 5, 3) := by decide +kernel
theorem dX12_telling_145 : decode cX12_telling 145 = .ok (.iload_n 2, 1) := by decide +kernel
theorem dX12_telling_146 : decode cX12_telling 146 = .ok (.istore_n 1, 1) := by decide +kernel
theorem dX12_telling_147 : decode cX12_telling 147 = .ok (.iinc 2 1, 3) := by decide +kernel
theorem dX12_telling_150 : decode cX12_telling 150 = .ok (.goto (-37), 3) := by decide +kernel
theorem dX12_telling_153 : decode cX12_telling 153 = .ok (.iload_n 1, 1) := by decide +kernel
theorem dX12_telling_154 : decode cX12_telling 154 = .ok (.ireturn, 1) := by decide +kernel
theorem dX12_layEarnest_0 : decode cX12_layEarnest 0 = .ok (.iconst 0, 1) := by decide +kernel
theorem dX12_layEarnest_1 : decode cX12_layEarnest 1 = .ok (.istore_n 1, 1) := by decide +kernel
theorem dX12_layEarnest_2 : decode cX12_layEarnest 2 = .ok (.iload_n 1, 1) := by decide +kernel
theorem dX12_layEarnest_3 : decode cX12_layEarnest 3 = .ok (.bipush 8, 2) := by decide +kernel
theorem dX12_layEarnest_5 : decode cX12_layEarnest 5 = .ok (.if_icmp .ge 21, 3) := by decide +kernel
theorem dX12_layEarnest_8 : decode cX12_layEarnest 8 = .ok (.aload_n 0, 1) := by decide +kernel
theorem dX12_layEarnest_9 : decode cX12_layEarnest 9 = .ok (.getfield 80, 3) := by decide +kernel
theorem dX12_layEarnest_12 : decode cX12_layEarnest 12 = .ok (.iload_n 1, 1) := by decide +kernel
theorem dX12_layEarnest_13 : decode cX12_layEarnest 13 = .ok (.aload_n 0, 1) := by decide +kernel
theorem dX12_layEarnest_14 : decode cX12_layEarnest 14 = .ok (.getfield 99, 3) := by decide +kernel
theorem dX12_layEarnest_17 : decode cX12_layEarnest 17 = .ok (.iload_n 1, 1) := by decide +kernel
theorem dX12_layEarnest_18 : decode cX12_layEarnest 18 = .ok (.iaload, 1) := by decide +kernel
theorem dX12_layEarnest_19 : decode cX12_layEarnest 19 = .ok (.iastore, 1) := by decide +kernel
theorem dX12_layEarnest_20 : decode cX12_layEarnest 20 = .ok (.iinc 1 1, 3) := by decide +kernel
theorem dX12_layEarnest_23 : decode cX12_layEarnest 23 = .ok (.goto (-21), 3) := by decide +kernel
theorem dX12_layEarnest_26 : decode cX12_layEarnest 26 = .ok (.return_, 1) := by decide +kernel
theorem dX12_saidBy_0 : decode cX12_saidBy 0 = .ok (.iload_n 0, 1) := by decide +kernel
theorem dX12_saidBy_1 : decode cX12_saidBy 1 = .ok (.iconst 2, 1) := by decide +kernel
theorem dX12_saidBy_2 : decode cX12_saidBy 2 = .ok (.iload_n 1, 1) := by decide +kernel
theorem dX12_saidBy_3 : decode cX12_saidBy 3 = .ok (.imul, 1) := by decide +kernel
theorem dX12_saidBy_4 : decode cX12_saidBy 4 = .ok (.ishr, 1) := by decide +kernel
theorem dX12_saidBy_5 : decode cX12_saidBy 5 = .ok (.iconst 3, 1) := by decide +kernel
theorem dX12_saidBy_6 : decode cX12_saidBy 6 = .ok (.iand, 1) := by decide +kernel
theorem dX12_saidBy_7 : decode cX12_saidBy 7 = .ok (.ireturn, 1) := by decide +kernel
theorem dX12_saidNow_0 : decode cX12_saidNow 0 = .ok (.aload_n 0, 1) := by decide +kernel
theorem dX12_saidNow_1 : decode cX12_saidNow 1 = .ok (.invokevirtual 432, 3) := by decide +kernel
theorem dX12_saidNow_4 : decode cX12_saidNow 4 = .ok (.aload_n 0, 1) := by decide +kernel
theorem dX12_saidNow_5 : decode cX12_saidNow 5 = .ok (.getfield 90, 3) := by decide +kernel
theorem dX12_saidNow_8 : decode cX12_saidNow 8 = .ok (.aload_n 0, 1) := by decide +kernel
theorem dX12_saidNow_9 : decode cX12_saidNow 9 = .ok (.invokevirtual 435, 3) := by decide +kernel
theorem dX12_saidNow_12 : decode cX12_saidNow 12 = .ok (.iaload, 1) := by decide +kernel
theorem dX12_saidNow_13 : decode cX12_saidNow 13 = .ok (.ireturn, 1) := by decide +kernel
theorem dX12_says_0 : decode cX12_says 0 = .ok (.aload_n 0, 1) := by decide +kernel
theorem dX12_says_1 : decode cX12_says 1 = .ok (.iload_n 1, 1) := by decide +kernel
theorem dX12_says_2 : decode cX12_says 2 = .ok (.invokevirtual 311, 3) := by decide +kernel
theorem dX12_says_5 : decode cX12_says 5 = .ok (.ifCond .eq 14, 3) := by decide +kernel
theorem dX12_says_8 : decode cX12_says 8 = .ok (.aload_n 0, 1) := by decide +kernel
theorem dX12_says_9 : decode cX12_says 9 = .ok (.invokevirtual 438, 3) := by decide +kernel
theorem dX12_says_12 : decode cX12_says 12 = .ok (.iload_n 1, 1) := by decide +kernel
theorem dX12_says_13 : decode cX12_says 13 = .ok (.invokestatic 441, 3) := by decide +kernel
theorem dX12_says_16 : decode cX12_says 16 = .ok (.goto 4, 3) := by decide +kernel
theorem dX12_says_19 : decode cX12_says 19 = .ok (.iconst (-1), 1) := by decide +kernel
theorem dX12_says_20 : decode cX12_says 20 = .ok (.ireturn, 1) := by decide +kernel
theorem dX12_mark_0 : decode cX12_mark 0 = .ok (.aload_n 0, 1) := by decide +kernel
theorem dX12_mark_1 : decode cX12_mark 1 = .ok (.iload_n 1, 1) := by decide +kernel
theorem dX12_mark_2 : decode cX12_mark 2 = .ok (.invokevirtual 311, 3) := by decide +kernel
theorem dX12_mark_5 : decode cX12_mark 5 = .ok (.ifCond .eq 15, 3) := by decide +kernel
theorem dX12_mark_8 : decode cX12_mark 8 = .ok (.iload_n 2, 1) := by decide +kernel
theorem dX12_mark_9 : decode cX12_mark 9 = .ok (.iconst 0, 1) := by decide +kernel
theorem dX12_mark_10 : decode cX12_mark 10 = .ok (.aload_n 0, 1) := by decide +kernel
theorem dX12_mark_11 : decode cX12_mark 11 = .ok (.invokevirtual 378, 3) := by decide +kernel
theorem dX12_mark_14 : decode cX12_mark 14 = .ok (.invokestatic 374, 3) := by decide +kernel
theorem dX12_mark_17 : decode cX12_mark 17 = .ok (.ifCond .ne 5, 3) := by decide +kernel
theorem dX12_mark_20 : decode cX12_mark 20 = .ok (.iconst 0, 1) := by decide +kernel
theorem dX12_mark_21 : decode cX12_mark 21 = .ok (.ireturn, 1) := by decide +kernel
theorem dX12_mark_22 : decode cX12_mark 22 = .ok (.aload_n 0, 1) := by decide +kernel
theorem dX12_mark_23 : decode cX12_mark 23 = .ok (.getfield 99, 3) := by decide +kernel
theorem dX12_mark_26 : decode cX12_mark 26 = .ok (.iload_n 1, 1) := by decide +kernel
theorem dX12_mark_27 : decode cX12_mark 27 = .ok (.iload_n 2, 1) := by decide +kernel
theorem dX12_mark_28 : decode cX12_mark 28 = .ok (.iastore, 1) := by decide +kernel
theorem dX12_mark_29 : decode cX12_mark 29 = .ok (.iconst 1, 1) := by decide +kernel
theorem dX12_mark_30 : decode cX12_mark 30 = .ok (.ireturn, 1) := by decide +kernel
theorem dX12_open_0 : decode cX12_open 0 = .ok (.aload_n 0, 1) := by decide +kernel
theorem dX12_open_1 : decode cX12_open 1 = .ok (.iload_n 1, 1) := by decide +kernel
theorem dX12_open_2 : decode cX12_open 2 = .ok (.invokevirtual 311, 3) := by decide +kernel
theorem dX12_open_5 : decode cX12_open 5 = .ok (.ifCond .ne 5, 3) := by decide +kernel
theorem dX12_open_8 : decode cX12_open 8 = .ok (.iconst (-1), 1) := by decide +kernel
theorem dX12_open_9 : decode cX12_open 9 = .ok (.ireturn, 1) := by decide +kernel
theorem dX12_open_10 : decode cX12_open 10 = .ok (.aload_n 0, 1) := by decide +kernel
theorem dX12_open_11 : decode cX12_open 11 = .ok (.getfield 99, 3) := by decide +kernel
theorem dX12_open_14 : decode cX12_open 14 = .ok (.iload_n 1, 1) := by decide +kernel
theorem dX12_open_15 : decode cX12_open 15 = .ok (.aload_n 0, 1) := by decide +kernel
theorem dX12_open_16 : decode cX12_open 16 = .ok (.invokevirtual 438, 3) := by decide +kernel
theorem dX12_open_19 : decode cX12_open 19 = .ok (.iload_n 1, 1) := by decide +kernel
theorem dX12_open_20 : decode cX12_open 20 = .ok (.invokestatic 441, 3) := by decide +kernel
theorem dX12_open_23 : decode cX12_open 23 = .ok (.iastore, 1) := by decide +kernel
theorem dX12_open_24 : decode cX12_open 24 = .ok (.aload_n 0, 1) := by decide +kernel
theorem dX12_open_25 : decode cX12_open 25 = .ok (.getfield 99, 3) := by decide +kernel
theorem dX12_open_28 : decode cX12_open 28 = .ok (.iload_n 1, 1) := by decide +kernel
theorem dX12_open_29 : decode cX12_open 29 = .ok (.iaload, 1) := by decide +kernel
theorem dX12_open_30 : decode cX12_open 30 = .ok (.ireturn, 1) := by decide +kernel
theorem dX12_has_0 : decode cX12_has 0 = .ok (.aload_n 0, 1) := by decide +kernel
theorem dX12_has_1 : decode cX12_has 1 = .ok (.iload_n 1, 1) := by decide +kernel
theorem dX12_has_2 : decode cX12_has 2 = .ok (.invokevirtual 311, 3) := by decide +kernel
theorem dX12_has_5 : decode cX12_has 5 = .ok (.ifCond .eq 12, 3) := by decide +kernel
theorem dX12_has_8 : decode cX12_has 8 = .ok (.aload_n 0, 1) := by decide +kernel
theorem dX12_has_9 : decode cX12_has 9 = .ok (.getfield 99, 3) := by decide +kernel
theorem dX12_has_12 : decode cX12_has 12 = .ok (.iload_n 1, 1) := by decide +kernel
theorem dX12_has_13 : decode cX12_has 13 = .ok (.iaload, 1) := by decide +kernel
theorem dX12_has_14 : decode cX12_has 14 = .ok (.goto 4, 3) := by decide +kernel
theorem dX12_has_17 : decode cX12_has 17 = .ok (.iconst (-1), 1) := by decide +kernel
theorem dX12_has_18 : decode cX12_has 18 = .ok (.ireturn, 1) := by decide +kernel
theorem dX12_judge_0 : decode cX12_judge 0 = .ok (.aload_n 0, 1) := by decide +kernel
theorem dX12_judge_1 : decode cX12_judge 1 = .ok (.invokevirtual 438, 3) := by decide +kernel
theorem dX12_judge_4 : decode cX12_judge 4 = .ok (.istore_n 1, 1) := by decide +kernel
theorem dX12_judge_5 : decode cX12_judge 5 = .ok (.iconst 0, 1) := by decide +kernel
theorem dX12_judge_6 : decode cX12_judge 6 = .ok (.istore_n 2, 1) := by decide +kernel
theorem dX12_judge_7 : decode cX12_judge 7 = .ok (.iload_n 2, 1) := by decide +kernel
theorem dX12_judge_8 : decode cX12_judge 8 = .ok (.aload_n 0, 1) := by decide +kernel
theorem dX12_judge_9 : decode cX12_judge 9 = .ok (.invokevirtual 371, 3) := by decide +kernel
theorem dX12_judge_12 : decode cX12_judge 12 = .ok (.if_icmp .ge 25, 3) := by decide +kernel
theorem dX12_judge_15 : decode cX12_judge 15 = .ok (.iload_n 1, 1) := by decide +kernel
theorem dX12_judge_16 : decode cX12_judge 16 = .ok (.iload_n 2, 1) := by decide +kernel
theorem dX12_judge_17 : decode cX12_judge 17 = .ok (.invokestatic 441, 3) := by decide +kernel
theorem dX12_judge_20 : decode cX12_judge 20 = .ok (.aload_n 0, 1) := by decide +kernel
theorem dX12_judge_21 : decode cX12_judge 21 = .ok (.getfield 99, 3) := by decide +kernel
theorem dX12_judge_24 : decode cX12_judge 24 = .ok (.iload_n 2, 1) := by decide +kernel
theorem dX12_judge_25 : decode cX12_judge 25 = .ok (.iaload, 1) := by decide +kernel
theorem dX12_judge_26 : decode cX12_judge 26 = .ok (.if_icmp .eq 5, 3) := by decide +kernel
theorem dX12_judge_29 : decode cX12_judge 29 = .ok (.iload_n 2, 1) := by decide +kernel
theorem dX12_judge_30 : decode cX12_judge 30 = .ok (.ireturn, 1) := by decide +kernel
theorem dX12_judge_31 : decode cX12_judge 31 = .ok (.iinc 2 1, 3) := by decide +kernel
theorem dX12_judge_34 : decode cX12_judge 34 = .ok (.goto (-27), 3) := by decide +kernel
theorem dX12_judge_37 : decode cX12_judge 37 = .ok (.iconst (-1), 1) := by decide +kernel
theorem dX12_judge_38 : decode cX12_judge 38 = .ok (.ireturn, 1) := by decide +kernel
theorem dX12_layUnits_0 : decode cX12_layUnits 0 = .ok (.iconst 1, 1) := by decide +kernel
theorem dX12_layUnits_1 : decode cX12_layUnits 1 = .ok (.istore_n 1, 1) := by decide +kernel
theorem dX12_layUnits_2 : decode cX12_layUnits 2 = .ok (.aload_n 0, 1) := by decide +kernel
theorem dX12_layUnits_3 : decode cX12_layUnits 3 = .ok (.invokevirtual 371, 3) := by decide +kernel
theorem dX12_layUnits_6 : decode cX12_layUnits 6 = .ok (.iconst 1, 1) := by decide +kernel
theorem dX12_layUnits_7 : decode cX12_layUnits 7 = .ok (.isub, 1) := by decide +kernel
theorem dX12_layUnits_8 : decode cX12_layUnits 8 = .ok (.istore_n 2, 1) := by decide +kernel
theorem dX12_layUnits_9 : decode cX12_layUnits 9 = .ok (.iload_n 2, 1) := by decide +kernel
theorem dX12_layUnits_10 : decode cX12_layUnits 10 = .ok (.ifCond .lt 25, 3) := by decide +kernel
theorem dX12_layUnits_13 : decode cX12_layUnits 13 = .ok (.aload_n 0, 1) := by decide +kernel
theorem dX12_layUnits_14 : decode cX12_layUnits 14 = .ok (.getfield 105, 3) := by decide +kernel
theorem dX12_layUnits_17 : decode cX12_layUnits 17 = .ok (.iload_n 2, 1) := by decide +kernel
theorem dX12_layUnits_18 : decode cX12_layUnits 18 = .ok (.iload_n 1, 1) := by decide +kernel
theorem dX12_layUnits_19 : decode cX12_layUnits 19 = .ok (.iastore, 1) := by decide +kernel
theorem dX12_layUnits_20 : decode cX12_layUnits 20 = .ok (.iload_n 1, 1) := by decide +kernel
theorem dX12_layUnits_21 : decode cX12_layUnits 21 = .ok (.aload_n 0, 1) := by decide +kernel
theorem dX12_layUnits_22 : decode cX12_layUnits 22 = .ok (.invokevirtual 378, 3) := by decide +kernel
theorem dX12_layUnits_25 : decode cX12_layUnits 25 = .ok (.iconst 1, 1) := by decide +kernel
theorem dX12_layUnits_26 : decode cX12_layUnits 26 = .ok (.iadd, 1) := by decide +kernel
theorem dX12_layUnits_27 : decode cX12_layUnits 27 = .ok (.imul, 1) := by decide +kernel
theorem dX12_layUnits_28 : decode cX12_layUnits 28 = .ok (.istore_n 1, 1) := by decide +kernel
theorem dX12_layUnits_29 : decode cX12_layUnits 29 = .ok (.iinc 2 (-1), 3) := by decide +kernel
theorem dX12_layUnits_32 : decode cX12_layUnits 32 = .ok (.goto (-23), 3) := by decide +kernel
theorem dX12_layUnits_35 : decode cX12_layUnits 35 = .ok (.return_, 1) := by decide +kernel
theorem dX12_restNow_0 : decode cX12_restNow 0 = .ok (.iconst 0, 1) := by decide +kernel
theorem dX12_restNow_1 : decode cX12_restNow 1 = .ok (.istore_n 1, 1) := by decide +kernel
theorem dX12_restNow_2 : decode cX12_restNow 2 = .ok (.iconst 0, 1) := by decide +kernel
theorem dX12_restNow_3 : decode cX12_restNow 3 = .ok (.istore_n 2, 1) := by decide +kernel
theorem dX12_restNow_4 : decode cX12_restNow 4 = .ok (.iload_n 2, 1) := by decide +kernel
theorem dX12_restNow_5 : decode cX12_restNow 5 = .ok (.bipush 8, 2) := by decide +kernel
theorem dX12_restNow_7 : decode cX12_restNow 7 = .ok (.if_icmp .ge 16, 3) := by decide +kernel
theorem dX12_restNow_10 : decode cX12_restNow 10 = .ok (.aload_n 0, 1) := by decide +kernel
theorem dX12_restNow_11 : decode cX12_restNow 11 = .ok (.getfield 80, 3) := by decide +kernel
theorem dX12_restNow_14 : decode cX12_restNow 14 = .ok (.iload_n 2, 1) := by decide +kernel
theorem dX12_restNow_15 : decode cX12_restNow 15 = .ok (.iconst 0, 1) := by decide +kernel
theorem dX12_restNow_16 : decode cX12_restNow 16 = .ok (.iastore, 1) := by decide +kernel
theorem dX12_restNow_17 : decode cX12_restNow 17 = .ok (.iinc 2 1, 3) := by decide +kernel
theorem dX12_restNow_20 : decode cX12_restNow 20 = .ok (.goto (-16), 3) := by decide +kernel
theorem dX12_restNow_23 : decode cX12_restNow 23 = .ok (.iconst 0, 1) := by decide +kernel
theorem dX12_restNow_24 : decode cX12_restNow 24 = .ok (.istore_n 2, 1) := by decide +kernel
theorem dX12_restNow_25 : decode cX12_restNow 25 = .ok (.iload_n 2, 1) := by decide +kernel
theorem dX12_restNow_26 : decode cX12_restNow 26 = .ok (.bipush 40, 2) := by decide +kernel
theorem dX12_restNow_28 : decode cX12_restNow 28 = .ok (.if_icmp .gt 88, 3) := by decide +kernel
theorem dX12_restNow_31 : decode cX12_restNow 31 = .ok (.iload_n 1, 1) := by decide +kernel
theorem dX12_restNow_32 : decode cX12_restNow 32 = .ok (.istore_n 3, 1) := by decide +kernel
theorem dX12_restNow_33 : decode cX12_restNow 33 = .ok (.iconst 0, 1) := by decide +kernel
theorem dX12_restNow_34 : decode cX12_restNow 34 = .ok (.istore 4, 2) := by decide +kernel
theorem dX12_restNow_36 : decode cX12_restNow 36 = .ok (.iload 4, 2) := by decide +kernel
theorem dX12_restNow_38 : decode cX12_restNow 38 = .ok (.aload_n 0, 1) := by decide +kernel
theorem dX12_restNow_39 : decode cX12_restNow 39 = .ok (.invokevirtual 371, 3) := by decide +kernel
theorem dX12_restNow_42 : decode cX12_restNow 42 = .ok (.if_icmp .ge 61, 3) := by decide +kernel
theorem dX12_restNow_45 : decode cX12_restNow 45 = .ok (.aload_n 0, 1) := by decide +kernel
theorem dX12_restNow_46 : decode cX12_restNow 46 = .ok (.getfield 102, 3) := by decide +kernel
theorem dX12_restNow_49 : decode cX12_restNow 49 = .ok (.iload 4, 2) := by decide +kernel
theorem dX12_restNow_51 : decode cX12_restNow 51 = .ok (.iaload, 1) := by decide +kernel
theorem dX12_restNow_52 : decode cX12_restNow 52 = .ok (.istore 5, 2) := by decide +kernel
theorem dX12_restNow_54 : decode cX12_restNow 54 = .ok (.aload_n 0, 1) := by decide +kernel
theorem dX12_restNow_55 : decode cX12_restNow 55 = .ok (.getfield 90, 3) := by decide +kernel
theorem dX12_restNow_58 : decode cX12_restNow 58 = .ok (.iload_n 1, 1) := by decide +kernel
theorem dX12_restNow_59 : decode cX12_restNow 59 = .ok (.iaload, 1) := by decide +kernel
theorem dX12_restNow_60 : decode cX12_restNow 60 = .ok (.iload 5, 2) := by decide +kernel
theorem dX12_restNow_62 : decode cX12_restNow 62 = .ok (.invokestatic 441, 3) := by decide +kernel
theorem dX12_restNow_65 : decode cX12_restNow 65 = .ok (.istore 6, 2) := by decide +kernel
theorem dX12_restNow_67 : decode cX12_restNow 67 = .ok (.iload_n 1, 1) := by decide +kernel
theorem dX12_restNow_68 : decode cX12_restNow 68 = .ok (.iload 6, 2) := by decide +kernel
theorem dX12_restNow_70 : decode cX12_restNow 70 = .ok (.aload_n 0, 1) := by decide +kernel
theorem dX12_restNow_71 : decode cX12_restNow 71 = .ok (.getfield 80, 3) := by decide +kernel
theorem dX12_restNow_74 : decode cX12_restNow 74 = .ok (.iload 5, 2) := by decide +kernel
theorem dX12_restNow_76 : decode cX12_restNow 76 = .ok (.iaload, 1) := by decide +kernel
theorem dX12_restNow_77 : decode cX12_restNow 77 = .ok (.isub, 1) := by decide +kernel
theorem dX12_restNow_78 : decode cX12_restNow 78 = .ok (.aload_n 0, 1) := by decide +kernel
theorem dX12_restNow_79 : decode cX12_restNow 79 = .ok (.getfield 105, 3) := by decide +kernel
theorem dX12_restNow_82 : decode cX12_restNow 82 = .ok (.iload 5, 2) := by decide +kernel
theorem dX12_restNow_84 : decode cX12_restNow 84 = .ok (.iaload, 1) := by decide +kernel
theorem dX12_restNow_85 : decode cX12_restNow 85 = .ok (.imul, 1) := by decide +kernel
theorem dX12_restNow_86 : decode cX12_restNow 86 = .ok (.iadd, 1) := by decide +kernel
theorem dX12_restNow_87 : decode cX12_restNow 87 = .ok (.istore_n 1, 1) := by decide +kernel
theorem dX12_restNow_88 : decode cX12_restNow 88 = .ok (.aload_n 0, 1) := by decide +kernel
theorem dX12_restNow_89 : decode cX12_restNow 89 = .ok (.getfield 80, 3) := by decide +kernel
theorem dX12_restNow_92 : decode cX12_restNow 92 = .ok (.iload 5, 2) := by decide +kernel
theorem dX12_restNow_94 : decode cX12_restNow 94 = .ok (.iload 6, 2) := by decide +kernel
theorem dX12_restNow_96 : decode cX12_restNow 96 = .ok (.iastore, 1) := by decide +kernel
theorem dX12_restNow_97 : decode cX12_restNow 97 = .ok (.iinc 4 1, 3) := by decide +kernel
theorem dX12_restNow_100 : decode cX12_restNow 100 = .ok (.goto (-64), 3) := by decide +kernel
theorem dX12_restNow_103 : decode cX12_restNow 103 = .ok (.iload_n 1, 1) := by decide +kernel
theorem dX12_restNow_104 : decode cX12_restNow 104 = .ok (.iload_n 3, 1) := by decide +kernel
theorem dX12_restNow_105 : decode cX12_restNow 105 = .ok (.if_icmp .ne 5, 3) := by decide +kernel
theorem dX12_restNow_108 : decode cX12_restNow 108 = .ok (.iload_n 2, 1) := by decide +kernel
theorem dX12_restNow_109 : decode cX12_restNow 109 = .ok (.ireturn, 1) := by decide +kernel
theorem dX12_restNow_110 : decode cX12_restNow 110 = .ok (.iinc 2 1, 3) := by decide +kernel
theorem dX12_restNow_113 : decode cX12_restNow 113 = .ok (.goto (-88), 3) := by decide +kernel
theorem dX12_restNow_116 : decode cX12_restNow 116 = .ok (.iconst (-1), 1) := by decide +kernel
theorem dX12_restNow_117 : decode cX12_restNow 117 = .ok (.ireturn, 1) := by decide +kernel
theorem dX12_rest_0 : decode cX12_rest 0 = .ok (.iload_n 1, 1) := by decide +kernel
theorem dX12_rest_1 : decode cX12_rest 1 = .ok (.istore_n 2, 1) := by decide +kernel
theorem dX12_rest_2 : decode cX12_rest 2 = .ok (.iconst 0, 1) := by decide +kernel
theorem dX12_rest_3 : decode cX12_rest 3 = .ok (.istore_n 3, 1) := by decide +kernel
theorem dX12_rest_4 : decode cX12_rest 4 = .ok (.aload_n 0, 1) := by decide +kernel
theorem dX12_rest_5 : decode cX12_rest 5 = .ok (.invokevirtual 371, 3) := by decide +kernel
theorem dX12_rest_8 : decode cX12_rest 8 = .ok (.iconst 1, 1) := by decide +kernel
theorem dX12_rest_9 : decode cX12_rest 9 = .ok (.isub, 1) := by decide +kernel
theorem dX12_rest_10 : decode cX12_rest 10 = .ok (.istore 4, 2) := by decide +kernel
theorem dX12_rest_12 : decode cX12_rest 12 = .ok (.iload 4, 2) := by decide +kernel
theorem dX12_rest_14 : decode cX12_rest 14 = .ok (.ifCond .lt 75, 3) := by decide +kernel
theorem dX12_rest_17 : decode cX12_rest 17 = .ok (.aload_n 0, 1) := by decide +kernel
theorem dX12_rest_18 : decode cX12_rest 18 = .ok (.getfield 102, 3) := by decide +kernel
theorem dX12_rest_21 : decode cX12_rest 21 = .ok (.iload 4, 2) := by decide +kernel
theorem dX12_rest_23 : decode cX12_rest 23 = .ok (.iload_n 2, 1) := by decide +kernel
theorem dX12_rest_24 : decode cX12_rest 24 = .ok (.bipush 10, 2) := by decide +kernel
theorem dX12_rest_26 : decode cX12_rest 26 = .ok (.irem, 1) := by decide +kernel
theorem dX12_rest_27 : decode cX12_rest 27 = .ok (.iconst 1, 1) := by decide +kernel
theorem dX12_rest_28 : decode cX12_rest 28 = .ok (.isub, 1) := by decide +kernel
theorem dX12_rest_29 : decode cX12_rest 29 = .ok (.iastore, 1) := by decide +kernel
theorem dX12_rest_30 : decode cX12_rest 30 = .ok (.iload_n 2, 1) := by decide +kernel
theorem dX12_rest_31 : decode cX12_rest 31 = .ok (.bipush 10, 2) := by decide +kernel
theorem dX12_rest_33 : decode cX12_rest 33 = .ok (.idiv, 1) := by decide +kernel
theorem dX12_rest_34 : decode cX12_rest 34 = .ok (.istore_n 2, 1) := by decide +kernel
theorem dX12_rest_35 : decode cX12_rest 35 = .ok (.iload_n 1, 1) := by decide +kernel
theorem dX12_rest_36 : decode cX12_rest 36 = .ok (.ifCond .lt 32, 3) := by decide +kernel
theorem dX12_rest_39 : decode cX12_rest 39 = .ok (.aload_n 0, 1) := by decide +kernel
theorem dX12_rest_40 : decode cX12_rest 40 = .ok (.aload_n 0, 1) := by decide +kernel
theorem dX12_rest_41 : decode cX12_rest 41 = .ok (.getfield 102, 3) := by decide +kernel
theorem dX12_rest_44 : decode cX12_rest 44 = .ok (.iload 4, 2) := by decide +kernel
theorem dX12_rest_46 : decode cX12_rest 46 = .ok (.iaload, 1) := by decide +kernel
theorem dX12_rest_47 : decode cX12_rest 47 = .ok (.invokevirtual 311, 3) := by decide +kernel
theorem dX12_rest_50 : decode cX12_rest 50 = .ok (.ifCond .eq 18, 3) := by decide +kernel
theorem dX12_rest_53 : decode cX12_rest 53 = .ok (.iload_n 3, 1) := by decide +kernel
theorem dX12_rest_54 : decode cX12_rest 54 = .ok (.aload_n 0, 1) := by decide +kernel
theorem dX12_rest_55 : decode cX12_rest 55 = .ok (.getfield 102, 3) := by decide +kernel
theorem dX12_rest_58 : decode cX12_rest 58 = .ok (.iload 4, 2) := by decide +kernel
theorem dX12_rest_60 : decode cX12_rest 60 = .ok (.iaload, 1) := by decide +kernel
theorem dX12_rest_61 : decode cX12_rest 61 = .ok (.ishr, 1) := by decide +kernel
theorem dX12_rest_62 : decode cX12_rest 62 = .ok (.iconst 1, 1) := by decide +kernel
theorem dX12_rest_63 : decode cX12_rest 63 = .ok (.iand, 1) := by decide +kernel
theorem dX12_rest_64 : decode cX12_rest 64 = .ok (.iconst 1, 1) := by decide +kernel
theorem dX12_rest_65 : decode cX12_rest 65 = .ok (.if_icmp .ne 6, 3) := by decide +kernel
theorem dX12_rest_68 : decode cX12_rest 68 = .ok (.bipush (-2), 2) := by decide +kernel
theorem dX12_rest_70 : decode cX12_rest 70 = .ok (.ireturn, 1) := by decide +kernel
theorem dX12_rest_71 : decode cX12_rest 71 = .ok (.iload_n 3, 1) := by decide +kernel
theorem dX12_rest_72 : decode cX12_rest 72 = .ok (.iconst 1, 1) := by decide +kernel
theorem dX12_rest_73 : decode cX12_rest 73 = .ok (.aload_n 0, 1) := by decide +kernel
theorem dX12_rest_74 : decode cX12_rest 74 = .ok (.getfield 102, 3) := by decide +kernel
theorem dX12_rest_77 : decode cX12_rest 77 = .ok (.iload 4, 2) := by decide +kernel
theorem dX12_rest_79 : decode cX12_rest 79 = .ok (.iaload, 1) := by decide +kernel
theorem dX12_rest_80 : decode cX12_rest 80 = .ok (.ishl, 1) := by decide +kernel
theorem dX12_rest_81 : decode cX12_rest 81 = .ok (.ior, 1) := by decide +kernel
theorem dX12_rest_82 : decode cX12_rest 82 = .ok (.istore_n 3, 1) := by decide +kernel
theorem dX12_rest_83 : decode cX12_rest 83 = .ok (.iinc 4 (-1), 3) := by decide +kernel
theorem dX12_rest_86 : decode cX12_rest 86 = .ok (.goto (-74), 3) := by decide +kernel
theorem dX12_rest_89 : decode cX12_rest 89 = .ok (.iload_n 2, 1) := by decide +kernel
theorem dX12_rest_90 : decode cX12_rest 90 = .ok (.ifCond .eq 6, 3) := by decide +kernel
theorem dX12_rest_93 : decode cX12_rest 93 = .ok (.bipush (-2), 2) := by decide +kernel
theorem dX12_rest_95 : decode cX12_rest 95 = .ok (.ireturn, 1) := by decide +kernel
theorem dX12_rest_96 : decode cX12_rest 96 = .ok (.aload_n 0, 1) := by decide +kernel
theorem dX12_rest_97 : decode cX12_rest 97 = .ok (.invokevirtual 444, 3) := by decide +kernel
theorem dX12_rest_100 : decode cX12_rest 100 = .ok (.aload_n 0, 1) := by decide +kernel
theorem dX12_rest_101 : decode cX12_rest 101 = .ok (.invokevirtual 447, 3) := by decide +kernel
theorem dX12_rest_104 : decode cX12_rest 104 = .ok (.ireturn, 1) := by decide +kernel
theorem dX12_nextOrder_0 : decode cX12_nextOrder 0 = .ok (.aload_n 0, 1) := by decide +kernel
theorem dX12_nextOrder_1 : decode cX12_nextOrder 1 = .ok (.invokevirtual 371, 3) := by decide +kernel
theorem dX12_nextOrder_4 : decode cX12_nextOrder 4 = .ok (.istore_n 1, 1) := by decide +kernel
theorem dX12_nextOrder_5 : decode cX12_nextOrder 5 = .ok (.iload_n 1, 1) := by decide +kernel
theorem dX12_nextOrder_6 : decode cX12_nextOrder 6 = .ok (.iconst 2, 1) := by decide +kernel
theorem dX12_nextOrder_7 : decode cX12_nextOrder 7 = .ok (.isub, 1) := by decide +kernel
theorem dX12_nextOrder_8 : decode cX12_nextOrder 8 = .ok (.istore_n 2, 1) := by decide +kernel
theorem dX12_nextOrder_9 : decode cX12_nextOrder 9 = .ok (.iload_n 2, 1) := by decide +kernel
theorem dX12_nextOrder_10 : decode cX12_nextOrder 10 = .ok (.ifCond .lt 26, 3) := by decide +kernel
theorem dX12_nextOrder_13 : decode cX12_nextOrder 13 = .ok (.aload_n 0, 1) := by decide +kernel
theorem dX12_nextOrder_14 : decode cX12_nextOrder 14 = .ok (.getfield 102, 3) := by decide +kernel
theorem dX12_nextOrder_17 : decode cX12_nextOrder 17 = .ok (.iload_n 2, 1) := by decide +kernel
theorem dX12_nextOrder_18 : decode cX12_nextOrder 18 = .ok (.iaload, 1) := by decide +kernel
theorem dX12_nextOrder_19 : decode cX12_nextOrder 19 = .ok (.aload_n 0, 1) := by decide +kernel
theorem dX12_nextOrder_20 : decode cX12_nextOrder 20 = .ok (.getfield 102, 3) := by decide +kernel
theorem dX12_nextOrder_23 : decode cX12_nextOrder 23 = .ok (.iload_n 2, 1) := by decide +kernel
theorem dX12_nextOrder_24 : decode cX12_nextOrder 24 = .ok (.iconst 1, 1) := by decide +kernel
theorem dX12_nextOrder_25 : decode cX12_nextOrder 25 = .ok (.iadd, 1) := by decide +kernel
theorem dX12_nextOrder_26 : decode cX12_nextOrder 26 = .ok (.iaload, 1) := by decide +kernel
theorem dX12_nextOrder_27 : decode cX12_nextOrder 27 = .ok (.if_icmp .le 9, 3) := by decide +kernel
theorem dX12_nextOrder_30 : decode cX12_nextOrder 30 = .ok (.iinc 2 (-1), 3) := by decide +kernel
theorem dX12_nextOrder_33 : decode cX12_nextOrder 33 = .ok (.goto (-24), 3) := by decide +kernel
theorem dX12_nextOrder_36 : decode cX12_nextOrder 36 = .ok (.iload_n 2, 1) := by decide +kernel
theorem dX12_nextOrder_37 : decode cX12_nextOrder 37 = .ok (.ifCond .ge 5, 3) := by decide +kernel
theorem dX12_nextOrder_40 : decode cX12_nextOrder 40 = .ok (.iconst 0, 1) := by decide +kernel
theorem dX12_nextOrder_41 : decode cX12_nextOrder 41 = .ok (.ireturn, 1) := by decide +kernel
theorem dX12_nextOrder_42 : decode cX12_nextOrder 42 = .ok (.iload_n 1, 1) := by decide +kernel
theorem dX12_nextOrder_43 : decode cX12_nextOrder 43 = .ok (.iconst 1, 1) := by decide +kernel
theorem dX12_nextOrder_44 : decode cX12_nextOrder 44 = .ok (.isub, 1) := by decide +kernel
theorem dX12_nextOrder_45 : decode cX12_nextOrder 45 = .ok (.istore_n 3, 1) := by decide +kernel
theorem dX12_nextOrder_46 : decode cX12_nextOrder 46 = .ok (.aload_n 0, 1) := by decide +kernel
theorem dX12_nextOrder_47 : decode cX12_nextOrder 47 = .ok (.getfield 102, 3) := by decide +kernel
theorem dX12_nextOrder_50 : decode cX12_nextOrder 50 = .ok (.iload_n 3, 1) := by decide +kernel
theorem dX12_nextOrder_51 : decode cX12_nextOrder 51 = .ok (.iaload, 1) := by decide +kernel
theorem dX12_nextOrder_52 : decode cX12_nextOrder 52 = .ok (.aload_n 0, 1) := by decide +kernel
theorem dX12_nextOrder_53 : decode cX12_nextOrder 53 = .ok (.getfield 102, 3) := by decide +kernel
theorem dX12_nextOrder_56 : decode cX12_nextOrder 56 = .ok (.iload_n 2, 1) := by decide +kernel
theorem dX12_nextOrder_57 : decode cX12_nextOrder 57 = .ok (.iaload, 1) := by decide +kernel
theorem dX12_nextOrder_58 : decode cX12_nextOrder 58 = .ok (.if_icmp .ge 9, 3) := by decide +kernel
theorem dX12_nextOrder_61 : decode cX12_nextOrder 61 = .ok (.iinc 3 (-1), 3) := by decide +kernel
theorem dX12_nextOrder_64 : decode cX12_nextOrder 64 = .ok (.goto (-18), 3) := by decide +kernel
theorem dX12_nextOrder_67 : decode cX12_nextOrder 67 = .ok (.aload_n 0, 1) := by decide +kernel
theorem dX12_nextOrder_68 : decode cX12_nextOrder 68 = .ok (.getfield 102, 3) := by decide +kernel
theorem dX12_nextOrder_71 : decode cX12_nextOrder 71 = .ok (.iload_n 2, 1) := by decide +kernel
theorem dX12_nextOrder_72 : decode cX12_nextOrder 72 = .ok (.iaload, 1) := by decide +kernel
theorem dX12_nextOrder_73 : decode cX12_nextOrder 73 = .ok (.istore 4, 2) := by decide +kernel
theorem dX12_nextOrder_75 : decode cX12_nextOrder 75 = .ok (.aload_n 0, 1) := by decide +kernel
theorem dX12_nextOrder_76 : decode cX12_nextOrder 76 = .ok (.getfield 102, 3) := by decide +kernel
theorem dX12_nextOrder_79 : decode cX12_nextOrder 79 = .ok (.iload_n 2, 1) := by decide +kernel
theorem dX12_nextOrder_80 : decode cX12_nextOrder 80 = .ok (.aload_n 0, 1) := by decide +kernel
theorem dX12_nextOrder_81 : decode cX12_nextOrder 81 = .ok (.getfield 102, 3) := by decide +kernel
theorem dX12_nextOrder_84 : decode cX12_nextOrder 84 = .ok (.iload_n 3, 1) := by decide +kernel
theorem dX12_nextOrder_85 : decode cX12_nextOrder 85 = .ok (.iaload, 1) := by decide +kernel
theorem dX12_nextOrder_86 : decode cX12_nextOrder 86 = .ok (.iastore, 1) := by decide +kernel
theorem dX12_nextOrder_87 : decode cX12_nextOrder 87 = .ok (.aload_n 0, 1) := by decide +kernel
theorem dX12_nextOrder_88 : decode cX12_nextOrder 88 = .ok (.getfield 102, 3) := by decide +kernel
theorem dX12_nextOrder_91 : decode cX12_nextOrder 91 = .ok (.iload_n 3, 1) := by decide +kernel
theorem dX12_nextOrder_92 : decode cX12_nextOrder 92 = .ok (.iload 4, 2) := by decide +kernel
theorem dX12_nextOrder_94 : decode cX12_nextOrder 94 = .ok (.iastore, 1) := by decide +kernel
theorem dX12_nextOrder_95 : decode cX12_nextOrder 95 = .ok (.iload_n 2, 1) := by decide +kernel
theorem dX12_nextOrder_96 : decode cX12_nextOrder 96 = .ok (.iconst 1, 1) := by decide +kernel
theorem dX12_nextOrder_97 : decode cX12_nextOrder 97 = .ok (.iadd, 1) := by decide +kernel
theorem dX12_nextOrder_98 : decode cX12_nextOrder 98 = .ok (.istore 5, 2) := by decide +kernel
theorem dX12_nextOrder_100 : decode cX12_nextOrder 100 = .ok (.iload_n 1, 1) := by decide +kernel
theorem dX12_nextOrder_101 : decode cX12_nextOrder 101 = .ok (.iconst 1, 1) := by decide +kernel
theorem dX12_nextOrder_102 : decode cX12_nextOrder 102 = .ok (.isub, 1) := by decide +kernel
theorem dX12_nextOrder_103 : decode cX12_nextOrder 103 = .ok (.istore 6, 2) := by decide +kernel
theorem dX12_nextOrder_105 : decode cX12_nextOrder 105 = .ok (.iload 5, 2) := by decide +kernel
theorem dX12_nextOrder_107 : decode cX12_nextOrder 107 = .ok (.iload 6, 2) := by decide +kernel
theorem dX12_nextOrder_109 : decode cX12_nextOrder 109 = .ok (.if_icmp .ge 44, 3) := by decide +kernel
theorem dX12_nextOrder_112 : decode cX12_nextOrder 112 = .ok (.aload_n 0, 1) := by decide +kernel
theorem dX12_nextOrder_113 : decode cX12_nextOrder 113 = .ok (.getfield 102, 3) := by decide +kernel
theorem dX12_nextOrder_116 : decode cX12_nextOrder 116 = .ok (.iload 5, 2) := by decide +kernel
theorem dX12_nextOrder_118 : decode cX12_nextOrder 118 = .ok (.iaload, 1) := by decide +kernel
theorem dX12_nextOrder_119 : decode cX12_nextOrder 119 = .ok (.istore 4, 2) := by decide +kernel
theorem dX12_nextOrder_121 : decode cX12_nextOrder 121 = .ok (.aload_n 0, 1) := by decide +kernel
theorem dX12_nextOrder_122 : decode cX12_nextOrder 122 = .ok (.getfield 102, 3) := by decide +kernel
theorem dX12_nextOrder_125 : decode cX12_nextOrder 125 = .ok (.iload 5, 2) := by decide +kernel
theorem dX12_nextOrder_127 : decode cX12_nextOrder 127 = .ok (.aload_n 0, 1) := by decide +kernel
theorem dX12_nextOrder_128 : decode cX12_nextOrder 128 = .ok (.getfield 102, 3) := by decide +kernel
theorem dX12_nextOrder_131 : decode cX12_nextOrder 131 = .ok (.iload 6, 2) := by decide +kernel
theorem dX12_nextOrder_133 : decode cX12_nextOrder 133 = .ok (.iaload, 1) := by decide +kernel
theorem dX12_nextOrder_134 : decode cX12_nextOrder 134 = .ok (.iastore, 1) := by decide +kernel
theorem dX12_nextOrder_135 : decode cX12_nextOrder 135 = .ok (.aload_n 0, 1) := by decide +kernel
theorem dX12_nextOrder_136 : decode cX12_nextOrder 136 = .ok (.getfield 102, 3) := by decide +kernel
theorem dX12_nextOrder_139 : decode cX12_nextOrder 139 = .ok (.iload 6, 2) := by decide +kernel
theorem dX12_nextOrder_141 : decode cX12_nextOrder 141 = .ok (.iload 4, 2) := by decide +kernel
theorem dX12_nextOrder_143 : decode cX12_nextOrder 143 = .ok (.iastore, 1) := by decide +kernel
theorem dX12_nextOrder_144 : decode cX12_nextOrder 144 = .ok (.iinc 6 (-1), 3) := by decide +kernel
theorem dX12_nextOrder_147 : decode cX12_nextOrder 147 = .ok (.iinc 5 1, 3) := by decide +kernel
theorem dX12_nextOrder_150 : decode cX12_nextOrder 150 = .ok (.goto (-45), 3) := by decide +kernel
theorem dX12_nextOrder_153 : decode cX12_nextOrder 153 = .ok (.iconst 1, 1) := by decide +kernel
theorem dX12_nextOrder_154 : decode cX12_nextOrder 154 = .ok (.ireturn, 1) := by decide +kernel
theorem dX12_digitsOf_0 : decode cX12_digitsOf 0 = .ok (.iconst 0, 1) := by decide +kernel
theorem dX12_digitsOf_1 : decode cX12_digitsOf 1 = .ok (.istore_n 1, 1) := by decide +kernel
theorem dX12_digitsOf_2 : decode cX12_digitsOf 2 = .ok (.iconst 0, 1) := by decide +kernel
theorem dX12_digitsOf_3 : decode cX12_digitsOf 3 = .ok (.istore_n 2, 1) := by decide +kernel
theorem dX12_digitsOf_4 : decode cX12_digitsOf 4 = .ok (.iload_n 2, 1) := by decide +kernel
theorem dX12_digitsOf_5 : decode cX12_digitsOf 5 = .ok (.aload_n 0, 1) := by decide +kernel
theorem dX12_digitsOf_6 : decode cX12_digitsOf 6 = .ok (.invokevirtual 371, 3) := by decide +kernel
theorem dX12_digitsOf_9 : decode cX12_digitsOf 9 = .ok (.if_icmp .ge 23, 3) := by decide +kernel
theorem dX12_digitsOf_12 : decode cX12_digitsOf 12 = .ok (.bipush 10, 2) := by decide +kernel
theorem dX12_digitsOf_14 : decode cX12_digitsOf 14 = .ok (.iload_n 1, 1) := by decide +kernel
theorem dX12_digitsOf_15 : decode cX12_digitsOf 15 = .ok (.imul, 1) := by decide +kernel
theorem dX12_digitsOf_16 : decode cX12_digitsOf 16 = .ok (.aload_n 0, 1) := by decide +kernel
theorem dX12_digitsOf_17 : decode cX12_digitsOf 17 = .ok (.getfield 102, 3) := by decide +kernel
theorem dX12_digitsOf_20 : decode cX12_digitsOf 20 = .ok (.iload_n 2, 1) := by decide +kernel
theorem dX12_digitsOf_21 : decode cX12_digitsOf 21 = .ok (.iaload, 1) := by decide +kernel
theorem dX12_digitsOf_22 : decode cX12_digitsOf 22 = .ok (.iadd, 1) := by decide +kernel
theorem dX12_digitsOf_23 : decode cX12_digitsOf 23 = .ok (.iconst 1, 1) := by decide +kernel
theorem dX12_digitsOf_24 : decode cX12_digitsOf 24 = .ok (.iadd, 1) := by decide +kernel
theorem dX12_digitsOf_25 : decode cX12_digitsOf 25 = .ok (.istore_n 1, 1) := by decide +kernel
theorem dX12_digitsOf_26 : decode cX12_digitsOf 26 = .ok (.iinc 2 1, 3) := by decide +kernel
theorem dX12_digitsOf_29 : decode cX12_digitsOf 29 = .ok (.goto (-25), 3) := by decide +kernel
theorem dX12_digitsOf_32 : decode cX12_digitsOf 32 = .ok (.iload_n 1, 1) := by decide +kernel
theorem dX12_digitsOf_33 : decode cX12_digitsOf 33 = .ok (.ireturn, 1) := by decide +kernel
theorem dX12_soonest_0 : decode cX12_soonest 0 = .ok (.iload_n 1, 1) := by decide +kernel
theorem dX12_soonest_1 : decode cX12_soonest 1 = .ok (.iconst 0, 1) := by decide +kernel
theorem dX12_soonest_2 : decode cX12_soonest 2 = .ok (.iconst 1, 1) := by decide +kernel
theorem dX12_soonest_3 : decode cX12_soonest 3 = .ok (.invokestatic 374, 3) := by decide +kernel
theorem dX12_soonest_6 : decode cX12_soonest 6 = .ok (.ifCond .ne 5, 3) := by decide +kernel
theorem dX12_soonest_9 : decode cX12_soonest 9 = .ok (.iconst (-1), 1) := by decide +kernel
theorem dX12_soonest_10 : decode cX12_soonest 10 = .ok (.ireturn, 1) := by decide +kernel
theorem dX12_soonest_11 : decode cX12_soonest 11 = .ok (.aload_n 0, 1) := by decide +kernel
theorem dX12_soonest_12 : decode cX12_soonest 12 = .ok (.invokevirtual 444, 3) := by decide +kernel
theorem dX12_soonest_15 : decode cX12_soonest 15 = .ok (.iconst 0, 1) := by decide +kernel
theorem dX12_soonest_16 : decode cX12_soonest 16 = .ok (.istore_n 2, 1) := by decide +kernel
theorem dX12_soonest_17 : decode cX12_soonest 17 = .ok (.iload_n 2, 1) := by decide +kernel
theorem dX12_soonest_18 : decode cX12_soonest 18 = .ok (.bipush 8, 2) := by decide +kernel
theorem dX12_soonest_20 : decode cX12_soonest 20 = .ok (.if_icmp .ge 16, 3) := by decide +kernel
theorem dX12_soonest_23 : decode cX12_soonest 23 = .ok (.aload_n 0, 1) := by decide +kernel
theorem dX12_soonest_24 : decode cX12_soonest 24 = .ok (.getfield 102, 3) := by decide +kernel
theorem dX12_soonest_27 : decode cX12_soonest 27 = .ok (.iload_n 2, 1) := by decide +kernel
theorem dX12_soonest_28 : decode cX12_soonest 28 = .ok (.iload_n 2, 1) := by decide +kernel
theorem dX12_soonest_29 : decode cX12_soonest 29 = .ok (.iastore, 1) := by decide +kernel
theorem dX12_soonest_30 : decode cX12_soonest 30 = .ok (.iinc 2 1, 3) := by decide +kernel
theorem dX12_soonest_33 : decode cX12_soonest 33 = .ok (.goto (-16), 3) := by decide +kernel
theorem dX12_soonest_36 : decode cX12_soonest 36 = .ok (.iconst (-1), 1) := by decide +kernel
theorem dX12_soonest_37 : decode cX12_soonest 37 = .ok (.istore_n 2, 1) := by decide +kernel
theorem dX12_soonest_38 : decode cX12_soonest 38 = .ok (.iconst 0, 1) := by decide +kernel
theorem dX12_soonest_39 : decode cX12_soonest 39 = .ok (.istore_n 3, 1) := by decide +kernel
theorem dX12_soonest_40 : decode cX12_soonest 40 = .ok (.iconst 1, 1) := by decide +kernel
theorem dX12_soonest_41 : decode cX12_soonest 41 = .ok (.istore 4, 2) := by decide +kernel
theorem dX12_soonest_43 : decode cX12_soonest 43 = .ok (.iload 4, 2) := by decide +kernel
theorem dX12_soonest_45 : decode cX12_soonest 45 = .ok (.ifCond .eq 41, 3) := by decide +kernel
theorem dX12_soonest_48 : decode cX12_soonest 48 = .ok (.aload_n 0, 1) := by decide +kernel
theorem dX12_soonest_49 : decode cX12_soonest 49 = .ok (.invokevirtual 447, 3) := by decide +kernel
theorem dX12_soonest_52 : decode cX12_soonest 52 = .ok (.istore 5, 2) := by decide +kernel
theorem dX12_soonest_54 : decode cX12_soonest 54 = .ok (.iload 5, 2) := by decide +kernel
theorem dX12_soonest_56 : decode cX12_soonest 56 = .ok (.ifCond .lt 21, 3) := by decide +kernel
theorem dX12_soonest_59 : decode cX12_soonest 59 = .ok (.iload_n 2, 1) := by decide +kernel
theorem dX12_soonest_60 : decode cX12_soonest 60 = .ok (.ifCond .lt 9, 3) := by decide +kernel
theorem dX12_soonest_63 : decode cX12_soonest 63 = .ok (.iload 5, 2) := by decide +kernel
theorem dX12_soonest_65 : decode cX12_soonest 65 = .ok (.iload_n 3, 1) := by decide +kernel
theorem dX12_soonest_66 : decode cX12_soonest 66 = .ok (.if_icmp .ge 11, 3) := by decide +kernel
theorem dX12_soonest_69 : decode cX12_soonest 69 = .ok (.aload_n 0, 1) := by decide +kernel
theorem dX12_soonest_70 : decode cX12_soonest 70 = .ok (.invokevirtual 450, 3) := by decide +kernel
theorem dX12_soonest_73 : decode cX12_soonest 73 = .ok (.istore_n 2, 1) := by decide +kernel
theorem dX12_soonest_74 : decode cX12_soonest 74 = .ok (.iload 5, 2) := by decide +kernel
theorem dX12_soonest_76 : decode cX12_soonest 76 = .ok (.istore_n 3, 1) := by decide +kernel
theorem dX12_soonest_77 : decode cX12_soonest 77 = .ok (.aload_n 0, 1) := by decide +kernel
theorem dX12_soonest_78 : decode cX12_soonest 78 = .ok (.invokevirtual 453, 3) := by decide +kernel
theorem dX12_soonest_81 : decode cX12_soonest 81 = .ok (.istore 4, 2) := by decide +kernel
theorem dX12_soonest_83 : decode cX12_soonest 83 = .ok (.goto (-40), 3) := by decide +kernel
theorem dX12_soonest_86 : decode cX12_soonest 86 = .ok (.iload_n 2, 1) := by decide +kernel
theorem dX12_soonest_87 : decode cX12_soonest 87 = .ok (.ifCond .ge 7, 3) := by decide +kernel
theorem dX12_soonest_90 : decode cX12_soonest 90 = .ok (.iconst (-1), 1) := by decide +kernel
theorem dX12_soonest_91 : decode cX12_soonest 91 = .ok (.goto 12, 3) := by decide +kernel
theorem dX12_soonest_94 : decode cX12_soonest 94 = .ok (.iload_n 1, 1) := by decide +kernel
theorem dX12_soonest_95 : decode cX12_soonest 95 = .ok (.ifCond .ne 7, 3) := by decide +kernel
theorem dX12_soonest_98 : decode cX12_soonest 98 = .ok (.iload_n 3, 1) := by decide +kernel
theorem dX12_soonest_99 : decode cX12_soonest 99 = .ok (.goto 4, 3) := by decide +kernel
theorem dX12_soonest_102 : decode cX12_soonest 102 = .ok (.iload_n 2, 1) := by decide +kernel
theorem dX12_soonest_103 : decode cX12_soonest 103 = .ok (.ireturn, 1) := by decide +kernel
theorem dX12_byMarks_0 : decode cX12_byMarks 0 = .ok (.iconst 0, 1) := by decide +kernel
theorem dX12_byMarks_1 : decode cX12_byMarks 1 = .ok (.istore_n 3, 1) := by decide +kernel
theorem dX12_byMarks_2 : decode cX12_byMarks 2 = .ok (.iload_n 3, 1) := by decide +kernel
theorem dX12_byMarks_3 : decode cX12_byMarks 3 = .ok (.bipush 64, 2) := by decide +kernel
theorem dX12_byMarks_5 : decode cX12_byMarks 5 = .ok (.if_icmp .ge 23, 3) := by decide +kernel
theorem dX12_byMarks_8 : decode cX12_byMarks 8 = .ok (.aload_n 0, 1) := by decide +kernel
theorem dX12_byMarks_9 : decode cX12_byMarks 9 = .ok (.getfield 108, 3) := by decide +kernel
theorem dX12_byMarks_12 : decode cX12_byMarks 12 = .ok (.iload_n 3, 1) := by decide +kernel
theorem dX12_byMarks_13 : decode cX12_byMarks 13 = .ok (.iconst 0, 1) := by decide +kernel
theorem dX12_byMarks_14 : decode cX12_byMarks 14 = .ok (.iastore, 1) := by decide +kernel
theorem dX12_byMarks_15 : decode cX12_byMarks 15 = .ok (.aload_n 0, 1) := by decide +kernel
theorem dX12_byMarks_16 : decode cX12_byMarks 16 = .ok (.getfield 111, 3) := by decide +kernel
theorem dX12_byMarks_19 : decode cX12_byMarks 19 = .ok (.iload_n 3, 1) := by decide +kernel
theorem dX12_byMarks_20 : decode cX12_byMarks 20 = .ok (.iconst 0, 1) := by decide +kernel
theorem dX12_byMarks_21 : decode cX12_byMarks 21 = .ok (.iastore, 1) := by decide +kernel
theorem dX12_byMarks_22 : decode cX12_byMarks 22 = .ok (.iinc 3 1, 3) := by decide +kernel
theorem dX12_byMarks_25 : decode cX12_byMarks 25 = .ok (.goto (-23), 3) := by decide +kernel
theorem dX12_byMarks_28 : decode cX12_byMarks 28 = .ok (.iconst 0, 1) := by decide +kernel
theorem dX12_byMarks_29 : decode cX12_byMarks 29 = .ok (.istore_n 3, 1) := by decide +kernel
theorem dX12_byMarks_30 : decode cX12_byMarks 30 = .ok (.iload_n 3, 1) := by decide +kernel
theorem dX12_byMarks_31 : decode cX12_byMarks 31 = .ok (.aload_n 0, 1) := by decide +kernel
theorem dX12_byMarks_32 : decode cX12_byMarks 32 = .ok (.getfield 395, 3) := by decide +kernel
theorem dX12_byMarks_35 : decode cX12_byMarks 35 = .ok (.if_icmp .ge 111, 3) := by decide +kernel
theorem dX12_byMarks_38 : decode cX12_byMarks 38 = .ok (.aload_n 0, 1) := by decide +kernel
theorem dX12_byMarks_39 : decode cX12_byMarks 39 = .ok (.getfield 93, 3) := by decide +kernel
theorem dX12_byMarks_42 : decode cX12_byMarks 42 = .ok (.iload_n 3, 1) := by decide +kernel
theorem dX12_byMarks_43 : decode cX12_byMarks 43 = .ok (.iaload, 1) := by decide +kernel
theorem dX12_byMarks_44 : decode cX12_byMarks 44 = .ok (.iload_n 2, 1) := by decide +kernel
theorem dX12_byMarks_45 : decode cX12_byMarks 45 = .ok (.ior, 1) := by decide +kernel
theorem dX12_byMarks_46 : decode cX12_byMarks 46 = .ok (.aload_n 0, 1) := by decide +kernel
theorem dX12_byMarks_47 : decode cX12_byMarks 47 = .ok (.invokevirtual 405, 3) := by decide +kernel
theorem dX12_byMarks_50 : decode cX12_byMarks 50 = .ok (.if_icmp .eq 6, 3) := by decide +kernel
theorem dX12_byMarks_53 : decode cX12_byMarks 53 = .ok (.goto 87, 3) := by decide +kernel
theorem dX12_byMarks_56 : decode cX12_byMarks 56 = .ok (.aload_n 0, 1) := by decide +kernel
theorem dX12_byMarks_57 : decode cX12_byMarks 57 = .ok (.iload_n 3, 1) := by decide +kernel
theorem dX12_byMarks_58 : decode cX12_byMarks 58 = .ok (.invokevirtual 398, 3) := by decide +kernel
theorem dX12_byMarks_61 : decode cX12_byMarks 61 = .ok (.iconst 0, 1) := by decide +kernel
theorem dX12_byMarks_62 : decode cX12_byMarks 62 = .ok (.istore 4, 2) := by decide +kernel
theorem dX12_byMarks_64 : decode cX12_byMarks 64 = .ok (.iconst 0, 1) := by decide +kernel
theorem dX12_byMarks_65 : decode cX12_byMarks 65 = .ok (.istore 5, 2) := by decide +kernel
theorem dX12_byMarks_67 : decode cX12_byMarks 67 = .ok (.iload 5, 2) := by decide +kernel
theorem dX12_byMarks_69 : decode cX12_byMarks 69 = .ok (.aload_n 0, 1) := by decide +kernel
theorem dX12_byMarks_70 : decode cX12_byMarks 70 = .ok (.invokevirtual 371, 3) := by decide +kernel
theorem dX12_byMarks_73 : decode cX12_byMarks 73 = .ok (.if_icmp .ge 33, 3) := by decide +kernel
theorem dX12_byMarks_76 : decode cX12_byMarks 76 = .ok (.iload_n 2, 1) := by decide +kernel
theorem dX12_byMarks_77 : decode cX12_byMarks 77 = .ok (.iload 5, 2) := by decide +kernel
theorem dX12_byMarks_79 : decode cX12_byMarks 79 = .ok (.ishr, 1) := by decide +kernel
theorem dX12_byMarks_80 : decode cX12_byMarks 80 = .ok (.iconst 1, 1) := by decide +kernel
theorem dX12_byMarks_81 : decode cX12_byMarks 81 = .ok (.iand, 1) := by decide +kernel
theorem dX12_byMarks_82 : decode cX12_byMarks 82 = .ok (.iconst 1, 1) := by decide +kernel
theorem dX12_byMarks_83 : decode cX12_byMarks 83 = .ok (.if_icmp .ne 17, 3) := by decide +kernel
theorem dX12_byMarks_86 : decode cX12_byMarks 86 = .ok (.iconst 4, 1) := by decide +kernel
theorem dX12_byMarks_87 : decode cX12_byMarks 87 = .ok (.iload 4, 2) := by decide +kernel
theorem dX12_byMarks_89 : decode cX12_byMarks 89 = .ok (.imul, 1) := by decide +kernel
theorem dX12_byMarks_90 : decode cX12_byMarks 90 = .ok (.aload_n 0, 1) := by decide +kernel
theorem dX12_byMarks_91 : decode cX12_byMarks 91 = .ok (.getfield 80, 3) := by decide +kernel
theorem dX12_byMarks_94 : decode cX12_byMarks 94 = .ok (.iload 5, 2) := by decide +kernel
theorem dX12_byMarks_96 : decode cX12_byMarks 96 = .ok (.iaload, 1) := by decide +kernel
theorem dX12_byMarks_97 : decode cX12_byMarks 97 = .ok (.iadd, 1) := by decide +kernel
theorem dX12_byMarks_98 : decode cX12_byMarks 98 = .ok (.istore 4, 2) := by decide +kernel
theorem dX12_byMarks_100 : decode cX12_byMarks 100 = .ok (.iinc 5 1, 3) := by decide +kernel
theorem dX12_byMarks_103 : decode cX12_byMarks 103 = .ok (.goto (-36), 3) := by decide +kernel
theorem dX12_byMarks_106 : decode cX12_byMarks 106 = .ok (.aload_n 0, 1) := by decide +kernel
theorem dX12_byMarks_107 : decode cX12_byMarks 107 = .ok (.getfield 108, 3) := by decide +kernel
theorem dX12_byMarks_110 : decode cX12_byMarks 110 = .ok (.iload 4, 2) := by decide +kernel
theorem dX12_byMarks_112 : decode cX12_byMarks 112 = .ok (.dup2, 1) := by decide +kernel
theorem dX12_byMarks_113 : decode cX12_byMarks 113 = .ok (.iaload, 1) := by decide +kernel
theorem dX12_byMarks_114 : decode cX12_byMarks 114 = .ok (.iconst 1, 1) := by decide +kernel
theorem dX12_byMarks_115 : decode cX12_byMarks 115 = .ok (.iadd, 1) := by decide +kernel
theorem dX12_byMarks_116 : decode cX12_byMarks 116 = .ok (.iastore, 1) := by decide +kernel
theorem dX12_byMarks_117 : decode cX12_byMarks 117 = .ok (.aload_n 0, 1) := by decide +kernel
theorem dX12_byMarks_118 : decode cX12_byMarks 118 = .ok (.getfield 111, 3) := by decide +kernel
theorem dX12_byMarks_121 : decode cX12_byMarks 121 = .ok (.iload 4, 2) := by decide +kernel
theorem dX12_byMarks_123 : decode cX12_byMarks 123 = .ok (.dup2, 1) := by decide +kernel
theorem dX12_byMarks_124 : decode cX12_byMarks 124 = .ok (.iaload, 1) := by decide +kernel
theorem dX12_byMarks_125 : decode cX12_byMarks 125 = .ok (.aload_n 0, 1) := by decide +kernel
theorem dX12_byMarks_126 : decode cX12_byMarks 126 = .ok (.invokevirtual 414, 3) := by decide +kernel
theorem dX12_byMarks_129 : decode cX12_byMarks 129 = .ok (.iload_n 1, 1) := by decide +kernel
theorem dX12_byMarks_130 : decode cX12_byMarks 130 = .ok (.if_icmp .ne 7, 3) := by decide +kernel
theorem dX12_byMarks_133 : decode cX12_byMarks 133 = .ok (.iconst 1, 1) := by decide +kernel
theorem dX12_byMarks_134 : decode cX12_byMarks 134 = .ok (.goto 4, 3) := by decide +kernel
theorem dX12_byMarks_137 : decode cX12_byMarks 137 = .ok (.iconst 0, 1) := by decide +kernel
theorem dX12_byMarks_138 : decode cX12_byMarks 138 = .ok (.iadd, 1) := by decide +kernel
theorem dX12_byMarks_139 : decode cX12_byMarks 139 = .ok (.iastore, 1) := by decide +kernel
theorem dX12_byMarks_140 : decode cX12_byMarks 140 = .ok (.iinc 3 1, 3) := by decide +kernel
theorem dX12_byMarks_143 : decode cX12_byMarks 143 = .ok (.goto (-113), 3) := by decide +kernel
theorem dX12_byMarks_146 : decode cX12_byMarks 146 = .ok (.iconst 0, 1) := by decide +kernel
theorem dX12_byMarks_147 : decode cX12_byMarks 147 = .ok (.istore_n 3, 1) := by decide +kernel
theorem dX12_byMarks_148 : decode cX12_byMarks 148 = .ok (.iload_n 3, 1) := by decide +kernel
theorem dX12_byMarks_149 : decode cX12_byMarks 149 = .ok (.bipush 64, 2) := by decide +kernel
theorem dX12_byMarks_151 : decode cX12_byMarks 151 = .ok (.if_icmp .ge 35, 3) := by decide +kernel
theorem dX12_byMarks_154 : decode cX12_byMarks 154 = .ok (.aload_n 0, 1) := by decide +kernel
theorem dX12_byMarks_155 : decode cX12_byMarks 155 = .ok (.getfield 108, 3) := by decide +kernel
theorem dX12_byMarks_158 : decode cX12_byMarks 158 = .ok (.iload_n 3, 1) := by decide +kernel
theorem dX12_byMarks_159 : decode cX12_byMarks 159 = .ok (.iaload, 1) := by decide +kernel
theorem dX12_byMarks_160 : decode cX12_byMarks 160 = .ok (.ifCond .le 20, 3) := by decide +kernel
theorem dX12_byMarks_163 : decode cX12_byMarks 163 = .ok (.aload_n 0, 1) := by decide +kernel
theorem dX12_byMarks_164 : decode cX12_byMarks 164 = .ok (.getfield 108, 3) := by decide +kernel
theorem dX12_byMarks_167 : decode cX12_byMarks 167 = .ok (.iload_n 3, 1) := by decide +kernel
theorem dX12_byMarks_168 : decode cX12_byMarks 168 = .ok (.iaload, 1) := by decide +kernel
theorem dX12_byMarks_169 : decode cX12_byMarks 169 = .ok (.aload_n 0, 1) := by decide +kernel
theorem dX12_byMarks_170 : decode cX12_byMarks 170 = .ok (.getfield 111, 3) := by decide +kernel
theorem dX12_byMarks_173 : decode cX12_byMarks 173 = .ok (.iload_n 3, 1) := by decide +kernel
theorem dX12_byMarks_174 : decode cX12_byMarks 174 = .ok (.iaload, 1) := by decide +kernel
theorem dX12_byMarks_175 : decode cX12_byMarks 175 = .ok (.if_icmp .ne 5, 3) := by decide +kernel
theorem dX12_byMarks_178 : decode cX12_byMarks 178 = .ok (.iload_n 3, 1) := by decide +kernel
theorem dX12_byMarks_179 : decode cX12_byMarks 179 = .ok (.ireturn, 1) := by decide +kernel
theorem dX12_byMarks_180 : decode cX12_byMarks 180 = .ok (.iinc 3 1, 3) := by decide +kernel
theorem dX12_byMarks_183 : decode cX12_byMarks 183 = .ok (.goto (-35), 3) := by decide +kernel
theorem dX12_byMarks_186 : decode cX12_byMarks 186 = .ok (.iconst (-1), 1) := by decide +kernel
theorem dX12_byMarks_187 : decode cX12_byMarks 187 = .ok (.ireturn, 1) := by decide +kernel
theorem dX12_written_0 : decode cX12_written 0 = .ok (.iconst 0, 1) := by decide +kernel
theorem dX12_written_1 : decode cX12_written 1 = .ok (.istore_n 2, 1) := by decide +kernel
theorem dX12_written_2 : decode cX12_written 2 = .ok (.iload_n 1, 1) := by decide +kernel
theorem dX12_written_3 : decode cX12_written 3 = .ok (.iconst 1, 1) := by decide +kernel
theorem dX12_written_4 : decode cX12_written 4 = .ok (.isub, 1) := by decide +kernel
theorem dX12_written_5 : decode cX12_written 5 = .ok (.istore_n 3, 1) := by decide +kernel
theorem dX12_written_6 : decode cX12_written 6 = .ok (.iload_n 3, 1) := by decide +kernel
theorem dX12_written_7 : decode cX12_written 7 = .ok (.ifCond .lt 22, 3) := by decide +kernel
theorem dX12_written_10 : decode cX12_written 10 = .ok (.bipush 10, 2) := by decide +kernel
theorem dX12_written_12 : decode cX12_written 12 = .ok (.iload_n 2, 1) := by decide +kernel
theorem dX12_written_13 : decode cX12_written 13 = .ok (.imul, 1) := by decide +kernel
theorem dX12_written_14 : decode cX12_written 14 = .ok (.iload_n 0, 1) := by decide +kernel
theorem dX12_written_15 : decode cX12_written 15 = .ok (.iconst 2, 1) := by decide +kernel
theorem dX12_written_16 : decode cX12_written 16 = .ok (.iload_n 3, 1) := by decide +kernel
theorem dX12_written_17 : decode cX12_written 17 = .ok (.imul, 1) := by decide +kernel
theorem dX12_written_18 : decode cX12_written 18 = .ok (.ishr, 1) := by decide +kernel
theorem dX12_written_19 : decode cX12_written 19 = .ok (.iconst 3, 1) := by decide +kernel
theorem dX12_written_20 : decode cX12_written 20 = .ok (.iand, 1) := by decide +kernel
theorem dX12_written_21 : decode cX12_written 21 = .ok (.iadd, 1) := by decide +kernel
theorem dX12_written_22 : decode cX12_written 22 = .ok (.istore_n 2, 1) := by decide +kernel
theorem dX12_written_23 : decode cX12_written 23 = .ok (.iinc 3 (-1), 3) := by decide +kernel
theorem dX12_written_26 : decode cX12_written 26 = .ok (.goto (-20), 3) := by decide +kernel
theorem dX12_written_29 : decode cX12_written 29 = .ok (.iload_n 2, 1) := by decide +kernel
theorem dX12_written_30 : decode cX12_written 30 = .ok (.ireturn, 1) := by decide +kernel
theorem dX12_sway_0 : decode cX12_sway 0 = .ok (.aload_n 0, 1) := by decide +kernel
theorem dX12_sway_1 : decode cX12_sway 1 = .ok (.iload_n 1, 1) := by decide +kernel
theorem dX12_sway_2 : decode cX12_sway 2 = .ok (.invokevirtual 417, 3) := by decide +kernel
theorem dX12_sway_5 : decode cX12_sway 5 = .ok (.ifCond .eq 12, 3) := by decide +kernel
theorem dX12_sway_8 : decode cX12_sway 8 = .ok (.iload_n 2, 1) := by decide +kernel
theorem dX12_sway_9 : decode cX12_sway 9 = .ok (.iconst 0, 1) := by decide +kernel
theorem dX12_sway_10 : decode cX12_sway 10 = .ok (.iconst 2, 1) := by decide +kernel
theorem dX12_sway_11 : decode cX12_sway 11 = .ok (.invokestatic 374, 3) := by decide +kernel
theorem dX12_sway_14 : decode cX12_sway 14 = .ok (.ifCond .ne 5, 3) := by decide +kernel
theorem dX12_sway_17 : decode cX12_sway 17 = .ok (.iconst (-1), 1) := by decide +kernel
theorem dX12_sway_18 : decode cX12_sway 18 = .ok (.ireturn, 1) := by decide +kernel
theorem dX12_sway_19 : decode cX12_sway 19 = .ok (.iconst 0, 1) := by decide +kernel
theorem dX12_sway_20 : decode cX12_sway 20 = .ok (.istore_n 3, 1) := by decide +kernel
theorem dX12_sway_21 : decode cX12_sway 21 = .ok (.iload_n 3, 1) := by decide +kernel
theorem dX12_sway_22 : decode cX12_sway 22 = .ok (.iconst 3, 1) := by decide +kernel
theorem dX12_sway_23 : decode cX12_sway 23 = .ok (.if_icmp .gt 78, 3) := by decide +kernel
theorem dX12_sway_26 : decode cX12_sway 26 = .ok (.iconst 0, 1) := by decide +kernel
theorem dX12_sway_27 : decode cX12_sway 27 = .ok (.istore 4, 2) := by decide +kernel
theorem dX12_sway_29 : decode cX12_sway 29 = .ok (.iload 4, 2) := by decide +kernel
theorem dX12_sway_31 : decode cX12_sway 31 = .ok (.aload_n 0, 1) := by decide +kernel
theorem dX12_sway_32 : decode cX12_sway 32 = .ok (.invokevirtual 405, 3) := by decide +kernel
theorem dX12_sway_35 : decode cX12_sway 35 = .ok (.if_icmp .gt 60, 3) := by decide +kernel
theorem dX12_sway_38 : decode cX12_sway 38 = .ok (.iload 4, 2) := by decide +kernel
theorem dX12_sway_40 : decode cX12_sway 40 = .ok (.invokestatic 429, 3) := by decide +kernel
theorem dX12_sway_43 : decode cX12_sway 43 = .ok (.iload_n 3, 1) := by decide +kernel
theorem dX12_sway_44 : decode cX12_sway 44 = .ok (.if_icmp .eq 6, 3) := by decide +kernel
theorem dX12_sway_47 : decode cX12_sway 47 = .ok (.goto 42, 3) := by decide +kernel
theorem dX12_sway_50 : decode cX12_sway 50 = .ok (.aload_n 0, 1) := by decide +kernel
theorem dX12_sway_51 : decode cX12_sway 51 = .ok (.iload_n 1, 1) := by decide +kernel
theorem dX12_sway_52 : decode cX12_sway 52 = .ok (.iload 4, 2) := by decide +kernel
theorem dX12_sway_54 : decode cX12_sway 54 = .ok (.invokevirtual 456, 3) := by decide +kernel
theorem dX12_sway_57 : decode cX12_sway 57 = .ok (.istore 5, 2) := by decide +kernel
theorem dX12_sway_59 : decode cX12_sway 59 = .ok (.iload 5, 2) := by decide +kernel
theorem dX12_sway_61 : decode cX12_sway 61 = .ok (.ifCond .lt 28, 3) := by decide +kernel
theorem dX12_sway_64 : decode cX12_sway 64 = .ok (.iload_n 2, 1) := by decide +kernel
theorem dX12_sway_65 : decode cX12_sway 65 = .ok (.ifCond .ne 7, 3) := by decide +kernel
theorem dX12_sway_68 : decode cX12_sway 68 = .ok (.iload_n 3, 1) := by decide +kernel
theorem dX12_sway_69 : decode cX12_sway 69 = .ok (.goto 19, 3) := by decide +kernel
theorem dX12_sway_72 : decode cX12_sway 72 = .ok (.iload_n 2, 1) := by decide +kernel
theorem dX12_sway_73 : decode cX12_sway 73 = .ok (.iconst 1, 1) := by decide +kernel
theorem dX12_sway_74 : decode cX12_sway 74 = .ok (.if_icmp .ne 8, 3) := by decide +kernel
theorem dX12_sway_77 : decode cX12_sway 77 = .ok (.iload 4, 2) := by decide +kernel
theorem dX12_sway_79 : decode cX12_sway 79 = .ok (.goto 9, 3) := by decide +kernel
theorem dX12_sway_82 : decode cX12_sway 82 = .ok (.iload 5, 2) := by decide +kernel
theorem dX12_sway_84 : decode cX12_sway 84 = .ok (.iload_n 3, 1) := by decide +kernel
theorem dX12_sway_85 : decode cX12_sway 85 = .ok (.invokestatic 459, 3) := by decide +kernel
theorem dX12_sway_88 : decode cX12_sway 88 = .ok (.ireturn, 1) := by decide +kernel
theorem dX12_sway_89 : decode cX12_sway 89 = .ok (.iinc 4 1, 3) := by decide +kernel
theorem dX12_sway_92 : decode cX12_sway 92 = .ok (.goto (-63), 3) := by decide +kernel
theorem dX12_sway_95 : decode cX12_sway 95 = .ok (.iinc 3 1, 3) := by decide +kernel
theorem dX12_sway_98 : decode cX12_sway 98 = .ok (.goto (-77), 3) := by decide +kernel
theorem dX12_sway_101 : decode cX12_sway 101 = .ok (.iconst (-1), 1) := by decide +kernel
theorem dX12_sway_102 : decode cX12_sway 102 = .ok (.ireturn, 1) := by decide +kernel
theorem dX12_more_0 : decode cX12_more 0 = .ok (.iload_n 1, 1) := by decide +kernel
theorem dX12_more_1 : decode cX12_more 1 = .ok (.iconst 0, 1) := by decide +kernel
theorem dX12_more_2 : decode cX12_more 2 = .ok (.aload_n 0, 1) := by decide +kernel
theorem dX12_more_3 : decode cX12_more 3 = .ok (.getfield 24, 3) := by decide +kernel
theorem dX12_more_6 : decode cX12_more 6 = .ok (.aload_n 0, 1) := by decide +kernel
theorem dX12_more_7 : decode cX12_more 7 = .ok (.getfield 253, 3) := by decide +kernel
theorem dX12_more_10 : decode cX12_more 10 = .ok (.iaload, 1) := by decide +kernel
theorem dX12_more_11 : decode cX12_more 11 = .ok (.iconst 1, 1) := by decide +kernel
theorem dX12_more_12 : decode cX12_more 12 = .ok (.isub, 1) := by decide +kernel
theorem dX12_more_13 : decode cX12_more 13 = .ok (.invokestatic 374, 3) := by decide +kernel
theorem dX12_more_16 : decode cX12_more 16 = .ok (.ifCond .eq 24, 3) := by decide +kernel
theorem dX12_more_19 : decode cX12_more 19 = .ok (.iload_n 2, 1) := by decide +kernel
theorem dX12_more_20 : decode cX12_more 20 = .ok (.iconst 0, 1) := by decide +kernel
theorem dX12_more_21 : decode cX12_more 21 = .ok (.aload_n 0, 1) := by decide +kernel
theorem dX12_more_22 : decode cX12_more 22 = .ok (.invokevirtual 378, 3) := by decide +kernel
theorem dX12_more_25 : decode cX12_more 25 = .ok (.invokestatic 374, 3) := by decide +kernel
theorem dX12_more_28 : decode cX12_more 28 = .ok (.ifCond .eq 12, 3) := by decide +kernel
theorem dX12_more_31 : decode cX12_more 31 = .ok (.aload_n 0, 1) := by decide +kernel
theorem dX12_more_32 : decode cX12_more 32 = .ok (.invokevirtual 371, 3) := by decide +kernel
theorem dX12_more_35 : decode cX12_more 35 = .ok (.bipush 8, 2) := by decide +kernel
theorem dX12_more_37 : decode cX12_more 37 = .ok (.if_icmp .ne 5, 3) := by decide +kernel
theorem dX12_more_40 : decode cX12_more 40 = .ok (.iconst (-1), 1) := by decide +kernel
theorem dX12_more_41 : decode cX12_more 41 = .ok (.ireturn, 1) := by decide +kernel
theorem dX12_more_42 : decode cX12_more 42 = .ok (.aload_n 0, 1) := by decide +kernel
theorem dX12_more_43 : decode cX12_more 43 = .ok (.iload_n 1, 1) := by decide +kernel
theorem dX12_more_44 : decode cX12_more 44 = .ok (.putfield 86, 3) := by decide +kernel
theorem dX12_more_47 : decode cX12_more 47 = .ok (.aload_n 0, 1) := by decide +kernel
theorem dX12_more_48 : decode cX12_more 48 = .ok (.getfield 80, 3) := by decide +kernel
theorem dX12_more_51 : decode cX12_more 51 = .ok (.bipush 8, 2) := by decide +kernel
theorem dX12_more_53 : decode cX12_more 53 = .ok (.iload_n 2, 1) := by decide +kernel
theorem dX12_more_54 : decode cX12_more 54 = .ok (.iastore, 1) := by decide +kernel
theorem dX12_more_55 : decode cX12_more 55 = .ok (.iconst 0, 1) := by decide +kernel
theorem dX12_more_56 : decode cX12_more 56 = .ok (.istore_n 3, 1) := by decide +kernel
theorem dX12_more_57 : decode cX12_more 57 = .ok (.iconst 0, 1) := by decide +kernel
theorem dX12_more_58 : decode cX12_more 58 = .ok (.istore 4, 2) := by decide +kernel
theorem dX12_more_60 : decode cX12_more 60 = .ok (.iload 4, 2) := by decide +kernel
theorem dX12_more_62 : decode cX12_more 62 = .ok (.aload_n 0, 1) := by decide +kernel
theorem dX12_more_63 : decode cX12_more 63 = .ok (.getfield 395, 3) := by decide +kernel
theorem dX12_more_66 : decode cX12_more 66 = .ok (.if_icmp .ge 77, 3) := by decide +kernel
theorem dX12_more_69 : decode cX12_more 69 = .ok (.aload_n 0, 1) := by decide +kernel
theorem dX12_more_70 : decode cX12_more 70 = .ok (.iload 4, 2) := by decide +kernel
theorem dX12_more_72 : decode cX12_more 72 = .ok (.invokevirtual 398, 3) := by decide +kernel
theorem dX12_more_75 : decode cX12_more 75 = .ok (.iconst 1, 1) := by decide +kernel
theorem dX12_more_76 : decode cX12_more 76 = .ok (.istore 5, 2) := by decide +kernel
theorem dX12_more_78 : decode cX12_more 78 = .ok (.iconst 0, 1) := by decide +kernel
theorem dX12_more_79 : decode cX12_more 79 = .ok (.istore 6, 2) := by decide +kernel
theorem dX12_more_81 : decode cX12_more 81 = .ok (.iload 6, 2) := by decide +kernel
theorem dX12_more_83 : decode cX12_more 83 = .ok (.aload_n 0, 1) := by decide +kernel
theorem dX12_more_84 : decode cX12_more 84 = .ok (.invokevirtual 371, 3) := by decide +kernel
theorem dX12_more_87 : decode cX12_more 87 = .ok (.if_icmp .ge 37, 3) := by decide +kernel
theorem dX12_more_90 : decode cX12_more 90 = .ok (.iload 5, 2) := by decide +kernel
theorem dX12_more_92 : decode cX12_more 92 = .ok (.ifCond .eq 32, 3) := by decide +kernel
theorem dX12_more_95 : decode cX12_more 95 = .ok (.aload_n 0, 1) := by decide +kernel
theorem dX12_more_96 : decode cX12_more 96 = .ok (.iload 6, 2) := by decide +kernel
theorem dX12_more_98 : decode cX12_more 98 = .ok (.invokevirtual 402, 3) := by decide +kernel
theorem dX12_more_101 : decode cX12_more 101 = .ok (.aload_n 0, 1) := by decide +kernel
theorem dX12_more_102 : decode cX12_more 102 = .ok (.getfield 80, 3) := by decide +kernel
theorem dX12_more_105 : decode cX12_more 105 = .ok (.iload 6, 2) := by decide +kernel
theorem dX12_more_107 : decode cX12_more 107 = .ok (.iaload, 1) := by decide +kernel
theorem dX12_more_108 : decode cX12_more 108 = .ok (.if_icmp .ne 7, 3) := by decide +kernel
theorem dX12_more_111 : decode cX12_more 111 = .ok (.iconst 1, 1) := by decide +kernel
theorem dX12_more_112 : decode cX12_more 112 = .ok (.goto 4, 3) := by decide +kernel
theorem dX12_more_115 : decode cX12_more 115 = .ok (.iconst 0, 1) := by decide +kernel
theorem dX12_more_116 : decode cX12_more 116 = .ok (.istore 5, 2) := by decide +kernel
theorem dX12_more_118 : decode cX12_more 118 = .ok (.iinc 6 1, 3) := by decide +kernel
theorem dX12_more_121 : decode cX12_more 121 = .ok (.goto (-40), 3) := by decide +kernel
theorem dX12_more_124 : decode cX12_more 124 = .ok (.iload_n 3, 1) := by decide +kernel
theorem dX12_more_125 : decode cX12_more 125 = .ok (.iload 5, 2) := by decide +kernel
theorem dX12_more_127 : decode cX12_more 127 = .ok (.ifCond .eq 7, 3) := by decide +kernel
theorem dX12_more_130 : decode cX12_more 130 = .ok (.iconst 1, 1) := by decide +kernel
theorem dX12_more_131 : decode cX12_more 131 = .ok (.goto 4, 3) := by decide +kernel
theorem dX12_more_134 : decode cX12_more 134 = .ok (.iconst 0, 1) := by decide +kernel
theorem dX12_more_135 : decode cX12_more 135 = .ok (.iadd, 1) := by decide +kernel
theorem dX12_more_136 : decode cX12_more 136 = .ok (.istore_n 3, 1) := by decide +kernel
theorem dX12_more_137 : decode cX12_more 137 = .ok (.iinc 4 1, 3) := by decide +kernel
theorem dX12_more_140 : decode cX12_more 140 = .ok (.goto (-80), 3) := by decide +kernel
theorem dX12_more_143 : decode cX12_more 143 = .ok (.aload_n 0, 1) := by decide +kernel
theorem dX12_more_144 : decode cX12_more 144 = .ok (.iconst (-1), 1) := by decide +kernel
theorem dX12_more_145 : decode cX12_more 145 = .ok (.putfield 86, 3) := by decide +kernel
theorem dX12_more_148 : decode cX12_more 148 = .ok (.iload_n 3, 1) := by decide +kernel
theorem dX12_more_149 : decode cX12_more 149 = .ok (.ireturn, 1) := by decide +kernel
theorem dX12_does_0 : decode cX12_does 0 = .ok (.iconst 1, 1) := by decide +kernel
theorem dX12_does_1 : decode cX12_does 1 = .ok (.iload_n 0, 1) := by decide +kernel
theorem dX12_does_2 : decode cX12_does 2 = .ok (.iconst 1, 1) := by decide +kernel
theorem dX12_does_3 : decode cX12_does 3 = .ok (.isub, 1) := by decide +kernel
theorem dX12_does_4 : decode cX12_does 4 = .ok (.ishl, 1) := by decide +kernel
theorem dX12_does_5 : decode cX12_does 5 = .ok (.istore 4, 2) := by decide +kernel
theorem dX12_does_7 : decode cX12_does 7 = .ok (.iload_n 1, 1) := by decide +kernel
theorem dX12_does_8 : decode cX12_does 8 = .ok (.iload 4, 2) := by decide +kernel
theorem dX12_does_10 : decode cX12_does 10 = .ok (.iload_n 0, 1) := by decide +kernel
theorem dX12_does_11 : decode cX12_does 11 = .ok (.iconst 1, 1) := by decide +kernel
theorem dX12_does_12 : decode cX12_does 12 = .ok (.isub, 1) := by decide +kernel
theorem dX12_does_13 : decode cX12_does 13 = .ok (.iload_n 2, 1) := by decide +kernel
theorem dX12_does_14 : decode cX12_does 14 = .ok (.isub, 1) := by decide +kernel
theorem dX12_does_15 : decode cX12_does 15 = .ok (.imul, 1) := by decide +kernel
theorem dX12_does_16 : decode cX12_does 16 = .ok (.ishr, 1) := by decide +kernel
theorem dX12_does_17 : decode cX12_does 17 = .ok (.iconst 1, 1) := by decide +kernel
theorem dX12_does_18 : decode cX12_does 18 = .ok (.iload 4, 2) := by decide +kernel
theorem dX12_does_20 : decode cX12_does 20 = .ok (.ishl, 1) := by decide +kernel
theorem dX12_does_21 : decode cX12_does 21 = .ok (.iconst 1, 1) := by decide +kernel
theorem dX12_does_22 : decode cX12_does 22 = .ok (.isub, 1) := by decide +kernel
theorem dX12_does_23 : decode cX12_does 23 = .ok (.iand, 1) := by decide +kernel
theorem dX12_does_24 : decode cX12_does 24 = .ok (.istore 5, 2) := by decide +kernel
theorem dX12_does_26 : decode cX12_does 26 = .ok (.iload_n 3, 1) := by decide +kernel
theorem dX12_does_27 : decode cX12_does 27 = .ok (.iconst 1, 1) := by decide +kernel
theorem dX12_does_28 : decode cX12_does 28 = .ok (.iload_n 2, 1) := by decide +kernel
theorem dX12_does_29 : decode cX12_does 29 = .ok (.ishl, 1) := by decide +kernel
theorem dX12_does_30 : decode cX12_does 30 = .ok (.iconst 1, 1) := by decide +kernel
theorem dX12_does_31 : decode cX12_does 31 = .ok (.isub, 1) := by decide +kernel
theorem dX12_does_32 : decode cX12_does 32 = .ok (.iand, 1) := by decide +kernel
theorem dX12_does_33 : decode cX12_does 33 = .ok (.iload_n 3, 1) := by decide +kernel
theorem dX12_does_34 : decode cX12_does 34 = .ok (.iload_n 2, 1) := by decide +kernel
theorem dX12_does_35 : decode cX12_does 35 = .ok (.iconst 1, 1) := by decide +kernel
theorem dX12_does_36 : decode cX12_does 36 = .ok (.iadd, 1) := by decide +kernel
theorem dX12_does_37 : decode cX12_does 37 = .ok (.ishr, 1) := by decide +kernel
theorem dX12_does_38 : decode cX12_does 38 = .ok (.iload_n 2, 1) := by decide +kernel
theorem dX12_does_39 : decode cX12_does 39 = .ok (.ishl, 1) := by decide +kernel
theorem dX12_does_40 : decode cX12_does 40 = .ok (.ior, 1) := by decide +kernel
theorem dX12_does_41 : decode cX12_does 41 = .ok (.istore 6, 2) := by decide +kernel
theorem dX12_does_43 : decode cX12_does 43 = .ok (.iload 5, 2) := by decide +kernel
theorem dX12_does_45 : decode cX12_does 45 = .ok (.iload 6, 2) := by decide +kernel
theorem dX12_does_47 : decode cX12_does 47 = .ok (.ishr, 1) := by decide +kernel
theorem dX12_does_48 : decode cX12_does 48 = .ok (.iconst 1, 1) := by decide +kernel
theorem dX12_does_49 : decode cX12_does 49 = .ok (.iand, 1) := by decide +kernel
theorem dX12_does_50 : decode cX12_does 50 = .ok (.ireturn, 1) := by decide +kernel
theorem dX12_isBy_0 : decode cX12_isBy 0 = .ok (.iconst 0, 1) := by decide +kernel
theorem dX12_isBy_1 : decode cX12_isBy 1 = .ok (.istore_n 3, 1) := by decide +kernel
theorem dX12_isBy_2 : decode cX12_isBy 2 = .ok (.iload_n 3, 1) := by decide +kernel
theorem dX12_isBy_3 : decode cX12_isBy 3 = .ok (.iload_n 0, 1) := by decide +kernel
theorem dX12_isBy_4 : decode cX12_isBy 4 = .ok (.if_icmp .ge 148, 3) := by decide +kernel
theorem dX12_isBy_7 : decode cX12_isBy 7 = .ok (.iconst 0, 1) := by decide +kernel
theorem dX12_isBy_8 : decode cX12_isBy 8 = .ok (.istore 4, 2) := by decide +kernel
theorem dX12_isBy_10 : decode cX12_isBy 10 = .ok (.iload 4, 2) := by decide +kernel
theorem dX12_isBy_12 : decode cX12_isBy 12 = .ok (.iconst 1, 1) := by decide +kernel
theorem dX12_isBy_13 : decode cX12_isBy 13 = .ok (.iload_n 0, 1) := by decide +kernel
theorem dX12_isBy_14 : decode cX12_isBy 14 = .ok (.ishl, 1) := by decide +kernel
theorem dX12_isBy_15 : decode cX12_isBy 15 = .ok (.if_icmp .ge 131, 3) := by decide +kernel
theorem dX12_isBy_18 : decode cX12_isBy 18 = .ok (.iconst 0, 1) := by decide +kernel
theorem dX12_isBy_19 : decode cX12_isBy 19 = .ok (.istore 5, 2) := by decide +kernel
theorem dX12_isBy_21 : decode cX12_isBy 21 = .ok (.iload 5, 2) := by decide +kernel
theorem dX12_isBy_23 : decode cX12_isBy 23 = .ok (.iconst 1, 1) := by decide +kernel
theorem dX12_isBy_24 : decode cX12_isBy 24 = .ok (.iload_n 0, 1) := by decide +kernel
theorem dX12_isBy_25 : decode cX12_isBy 25 = .ok (.ishl, 1) := by decide +kernel
theorem dX12_isBy_26 : decode cX12_isBy 26 = .ok (.if_icmp .ge 114, 3) := by decide +kernel
theorem dX12_isBy_29 : decode cX12_isBy 29 = .ok (.iload_n 0, 1) := by decide +kernel
theorem dX12_isBy_30 : decode cX12_isBy 30 = .ok (.iload_n 1, 1) := by decide +kernel
theorem dX12_isBy_31 : decode cX12_isBy 31 = .ok (.iload_n 3, 1) := by decide +kernel
theorem dX12_isBy_32 : decode cX12_isBy 32 = .ok (.iload 4, 2) := by decide +kernel
theorem dX12_isBy_34 : decode cX12_isBy 34 = .ok (.invokestatic 462, 3) := by decide +kernel
theorem dX12_isBy_37 : decode cX12_isBy 37 = .ok (.istore 6, 2) := by decide +kernel
theorem dX12_isBy_39 : decode cX12_isBy 39 = .ok (.iload_n 0, 1) := by decide +kernel
theorem dX12_isBy_40 : decode cX12_isBy 40 = .ok (.iload_n 1, 1) := by decide +kernel
theorem dX12_isBy_41 : decode cX12_isBy 41 = .ok (.iload_n 3, 1) := by decide +kernel
theorem dX12_isBy_42 : decode cX12_isBy 42 = .ok (.iload 5, 2) := by decide +kernel
theorem dX12_isBy_44 : decode cX12_isBy 44 = .ok (.invokestatic 462, 3) := by decide +kernel
theorem dX12_isBy_47 : decode cX12_isBy 47 = .ok (.istore 7, 2) := by decide +kernel
theorem dX12_isBy_49 : decode cX12_isBy 49 = .ok (.iload 4, 2) := by decide +kernel
theorem dX12_isBy_51 : decode cX12_isBy 51 = .ok (.iconst 1, 1) := by decide +kernel
theorem dX12_isBy_52 : decode cX12_isBy 52 = .ok (.iload_n 3, 1) := by decide +kernel
theorem dX12_isBy_53 : decode cX12_isBy 53 = .ok (.ishl, 1) := by decide +kernel
theorem dX12_isBy_54 : decode cX12_isBy 54 = .ok (.iconst 1, 1) := by decide +kernel
theorem dX12_isBy_55 : decode cX12_isBy 55 = .ok (.isub, 1) := by decide +kernel
theorem dX12_isBy_56 : decode cX12_isBy 56 = .ok (.iand, 1) := by decide +kernel
theorem dX12_isBy_57 : decode cX12_isBy 57 = .ok (.iload 5, 2) := by decide +kernel
theorem dX12_isBy_59 : decode cX12_isBy 59 = .ok (.iconst 1, 1) := by decide +kernel
theorem dX12_isBy_60 : decode cX12_isBy 60 = .ok (.iload_n 3, 1) := by decide +kernel
theorem dX12_isBy_61 : decode cX12_isBy 61 = .ok (.ishl, 1) := by decide +kernel
theorem dX12_isBy_62 : decode cX12_isBy 62 = .ok (.iconst 1, 1) := by decide +kernel
theorem dX12_isBy_63 : decode cX12_isBy 63 = .ok (.isub, 1) := by decide +kernel
theorem dX12_isBy_64 : decode cX12_isBy 64 = .ok (.iand, 1) := by decide +kernel
theorem dX12_isBy_65 : decode cX12_isBy 65 = .ok (.if_icmp .ne 7, 3) := by decide +kernel
theorem dX12_isBy_68 : decode cX12_isBy 68 = .ok (.iconst 1, 1) := by decide +kernel
theorem dX12_isBy_69 : decode cX12_isBy 69 = .ok (.goto 4, 3) := by decide +kernel
theorem dX12_isBy_72 : decode cX12_isBy 72 = .ok (.iconst 0, 1) := by decide +kernel
theorem dX12_isBy_73 : decode cX12_isBy 73 = .ok (.istore 8, 2) := by decide +kernel
theorem dX12_isBy_75 : decode cX12_isBy 75 = .ok (.iload 4, 2) := by decide +kernel
theorem dX12_isBy_77 : decode cX12_isBy 77 = .ok (.iload 5, 2) := by decide +kernel
theorem dX12_isBy_79 : decode cX12_isBy 79 = .ok (.iconst (-1), 1) := by decide +kernel
theorem dX12_isBy_80 : decode cX12_isBy 80 = .ok (.ixor, 1) := by decide +kernel
theorem dX12_isBy_81 : decode cX12_isBy 81 = .ok (.iand, 1) := by decide +kernel
theorem dX12_isBy_82 : decode cX12_isBy 82 = .ok (.iconst 1, 1) := by decide +kernel
theorem dX12_isBy_83 : decode cX12_isBy 83 = .ok (.iload_n 3, 1) := by decide +kernel
theorem dX12_isBy_84 : decode cX12_isBy 84 = .ok (.ishl, 1) := by decide +kernel
theorem dX12_isBy_85 : decode cX12_isBy 85 = .ok (.iconst (-1), 1) := by decide +kernel
theorem dX12_isBy_86 : decode cX12_isBy 86 = .ok (.ixor, 1) := by decide +kernel
theorem dX12_isBy_87 : decode cX12_isBy 87 = .ok (.iand, 1) := by decide +kernel
theorem dX12_isBy_88 : decode cX12_isBy 88 = .ok (.ifCond .ne 7, 3) := by decide +kernel
theorem dX12_isBy_91 : decode cX12_isBy 91 = .ok (.iconst 1, 1) := by decide +kernel
theorem dX12_isBy_92 : decode cX12_isBy 92 = .ok (.goto 4, 3) := by decide +kernel
theorem dX12_isBy_95 : decode cX12_isBy 95 = .ok (.iconst 0, 1) := by decide +kernel
theorem dX12_isBy_96 : decode cX12_isBy 96 = .ok (.istore 9, 2) := by decide +kernel
theorem dX12_isBy_98 : decode cX12_isBy 98 = .ok (.iload_n 2, 1) := by decide +kernel
theorem dX12_isBy_99 : decode cX12_isBy 99 = .ok (.iconst 1, 1) := by decide +kernel
theorem dX12_isBy_100 : decode cX12_isBy 100 = .ok (.if_icmp .ne 15, 3) := by decide +kernel
theorem dX12_isBy_103 : decode cX12_isBy 103 = .ok (.iload 8, 2) := by decide +kernel
theorem dX12_isBy_105 : decode cX12_isBy 105 = .ok (.ifCond .eq 10, 3) := by decide +kernel
theorem dX12_isBy_108 : decode cX12_isBy 108 = .ok (.iload 6, 2) := by decide +kernel
theorem dX12_isBy_110 : decode cX12_isBy 110 = .ok (.iload 7, 2) := by decide +kernel
theorem dX12_isBy_112 : decode cX12_isBy 112 = .ok (.if_icmp .ne 20, 3) := by decide +kernel
theorem dX12_isBy_115 : decode cX12_isBy 115 = .ok (.iload_n 2, 1) := by decide +kernel
theorem dX12_isBy_116 : decode cX12_isBy 116 = .ok (.iconst 2, 1) := by decide +kernel
theorem dX12_isBy_117 : decode cX12_isBy 117 = .ok (.if_icmp .ne 17, 3) := by decide +kernel
theorem dX12_isBy_120 : decode cX12_isBy 120 = .ok (.iload 9, 2) := by decide +kernel
theorem dX12_isBy_122 : decode cX12_isBy 122 = .ok (.ifCond .eq 12, 3) := by decide +kernel
theorem dX12_isBy_125 : decode cX12_isBy 125 = .ok (.iload 6, 2) := by decide +kernel
theorem dX12_isBy_127 : decode cX12_isBy 127 = .ok (.iload 7, 2) := by decide +kernel
theorem dX12_isBy_129 : decode cX12_isBy 129 = .ok (.if_icmp .le 5, 3) := by decide +kernel
theorem dX12_isBy_132 : decode cX12_isBy 132 = .ok (.iconst 0, 1) := by decide +kernel
theorem dX12_isBy_133 : decode cX12_isBy 133 = .ok (.ireturn, 1) := by decide +kernel
theorem dX12_isBy_134 : decode cX12_isBy 134 = .ok (.iinc 5 1, 3) := by decide +kernel
theorem dX12_isBy_137 : decode cX12_isBy 137 = .ok (.goto (-116), 3) := by decide +kernel
theorem dX12_isBy_140 : decode cX12_isBy 140 = .ok (.iinc 4 1, 3) := by decide +kernel
theorem dX12_isBy_143 : decode cX12_isBy 143 = .ok (.goto (-133), 3) := by decide +kernel
theorem dX12_isBy_146 : decode cX12_isBy 146 = .ok (.iinc 3 1, 3) := by decide +kernel
theorem dX12_isBy_149 : decode cX12_isBy 149 = .ok (.goto (-147), 3) := by decide +kernel
theorem dX12_isBy_152 : decode cX12_isBy 152 = .ok (.iconst 1, 1) := by decide +kernel
theorem dX12_isBy_153 : decode cX12_isBy 153 = .ok (.ireturn, 1) := by decide +kernel
theorem dX12_standing_0 : decode cX12_standing 0 = .ok (.iconst 0, 1) := by decide +kernel
theorem dX12_standing_1 : decode cX12_standing 1 = .ok (.istore_n 2, 1) := by decide +kernel
theorem dX12_standing_2 : decode cX12_standing 2 = .ok (.iconst 0, 1) := by decide +kernel
theorem dX12_standing_3 : decode cX12_standing 3 = .ok (.istore_n 3, 1) := by decide +kernel
theorem dX12_standing_4 : decode cX12_standing 4 = .ok (.iload_n 3, 1) := by decide +kernel
theorem dX12_standing_5 : decode cX12_standing 5 = .ok (.iconst 1, 1) := by decide +kernel
theorem dX12_standing_6 : decode cX12_standing 6 = .ok (.iload_n 0, 1) := by decide +kernel
theorem dX12_standing_7 : decode cX12_standing 7 = .ok (.ishl, 1) := by decide +kernel
theorem dX12_standing_8 : decode cX12_standing 8 = .ok (.if_icmp .ge 69, 3) := by decide +kernel
theorem dX12_standing_11 : decode cX12_standing 11 = .ok (.iconst 1, 1) := by decide +kernel
theorem dX12_standing_12 : decode cX12_standing 12 = .ok (.istore 4, 2) := by decide +kernel
theorem dX12_standing_14 : decode cX12_standing 14 = .ok (.iconst 0, 1) := by decide +kernel
theorem dX12_standing_15 : decode cX12_standing 15 = .ok (.istore 5, 2) := by decide +kernel
theorem dX12_standing_17 : decode cX12_standing 17 = .ok (.iload 5, 2) := by decide +kernel
theorem dX12_standing_19 : decode cX12_standing 19 = .ok (.iload_n 0, 1) := by decide +kernel
theorem dX12_standing_20 : decode cX12_standing 20 = .ok (.if_icmp .ge 38, 3) := by decide +kernel
theorem dX12_standing_23 : decode cX12_standing 23 = .ok (.iload 4, 2) := by decide +kernel
theorem dX12_standing_25 : decode cX12_standing 25 = .ok (.ifCond .eq 24, 3) := by decide +kernel
theorem dX12_standing_28 : decode cX12_standing 28 = .ok (.iload_n 0, 1) := by decide +kernel
theorem dX12_standing_29 : decode cX12_standing 29 = .ok (.iload_n 1, 1) := by decide +kernel
theorem dX12_standing_30 : decode cX12_standing 30 = .ok (.iload 5, 2) := by decide +kernel
theorem dX12_standing_32 : decode cX12_standing 32 = .ok (.iload_n 3, 1) := by decide +kernel
theorem dX12_standing_33 : decode cX12_standing 33 = .ok (.invokestatic 462, 3) := by decide +kernel
theorem dX12_standing_36 : decode cX12_standing 36 = .ok (.iload_n 3, 1) := by decide +kernel
theorem dX12_standing_37 : decode cX12_standing 37 = .ok (.iload 5, 2) := by decide +kernel
theorem dX12_standing_39 : decode cX12_standing 39 = .ok (.ishr, 1) := by decide +kernel
theorem dX12_standing_40 : decode cX12_standing 40 = .ok (.iconst 1, 1) := by decide +kernel
theorem dX12_standing_41 : decode cX12_standing 41 = .ok (.iand, 1) := by decide +kernel
theorem dX12_standing_42 : decode cX12_standing 42 = .ok (.if_icmp .ne 7, 3) := by decide +kernel
theorem dX12_standing_45 : decode cX12_standing 45 = .ok (.iconst 1, 1) := by decide +kernel
theorem dX12_standing_46 : decode cX12_standing 46 = .ok (.goto 4, 3) := by decide +kernel
theorem dX12_standing_49 : decode cX12_standing 49 = .ok (.iconst 0, 1) := by decide +kernel
theorem dX12_standing_50 : decode cX12_standing 50 = .ok (.istore 4, 2) := by decide +kernel
theorem dX12_standing_52 : decode cX12_standing 52 = .ok (.iinc 5 1, 3) := by decide +kernel
theorem dX12_standing_55 : decode cX12_standing 55 = .ok (.goto (-38), 3) := by decide +kernel
theorem dX12_standing_58 : decode cX12_standing 58 = .ok (.iload_n 2, 1) := by decide +kernel
theorem dX12_standing_59 : decode cX12_standing 59 = .ok (.iload 4, 2) := by decide +kernel
theorem dX12_standing_61 : decode cX12_standing 61 = .ok (.ifCond .eq 7, 3) := by decide +kernel
theorem dX12_standing_64 : decode cX12_standing 64 = .ok (.iconst 1, 1) := by decide +kernel
theorem dX12_standing_65 : decode cX12_standing 65 = .ok (.goto 4, 3) := by decide +kernel
theorem dX12_standing_68 : decode cX12_standing 68 = .ok (.iconst 0, 1) := by decide +kernel
theorem dX12_standing_69 : decode cX12_standing 69 = .ok (.iadd, 1) := by decide +kernel
theorem dX12_standing_70 : decode cX12_standing 70 = .ok (.istore_n 2, 1) := by decide +kernel
theorem dX12_standing_71 : decode cX12_standing 71 = .ok (.iinc 3 1, 3) := by decide +kernel
theorem dX12_standing_74 : decode cX12_standing 74 = .ok (.goto (-70), 3) := by decide +kernel
theorem dX12_standing_77 : decode cX12_standing 77 = .ok (.iload_n 2, 1) := by decide +kernel
theorem dX12_standing_78 : decode cX12_standing 78 = .ok (.ireturn, 1) := by decide +kernel
theorem dX12_shown_0 : decode cX12_shown 0 = .ok (.iload_n 1, 1) := by decide +kernel
theorem dX12_shown_1 : decode cX12_shown 1 = .ok (.iconst 2, 1) := by decide +kernel
theorem dX12_shown_2 : decode cX12_shown 2 = .ok (.iconst 3, 1) := by decide +kernel
theorem dX12_shown_3 : decode cX12_shown 3 = .ok (.invokestatic 374, 3) := by decide +kernel
theorem dX12_shown_6 : decode cX12_shown 6 = .ok (.ifCond .eq 21, 3) := by decide +kernel
theorem dX12_shown_9 : decode cX12_shown 9 = .ok (.iload_n 2, 1) := by decide +kernel
theorem dX12_shown_10 : decode cX12_shown 10 = .ok (.iconst 0, 1) := by decide +kernel
theorem dX12_shown_11 : decode cX12_shown 11 = .ok (.iconst 2, 1) := by decide +kernel
theorem dX12_shown_12 : decode cX12_shown 12 = .ok (.invokestatic 374, 3) := by decide +kernel
theorem dX12_shown_15 : decode cX12_shown 15 = .ok (.ifCond .eq 12, 3) := by decide +kernel
theorem dX12_shown_18 : decode cX12_shown 18 = .ok (.iload_n 3, 1) := by decide +kernel
theorem dX12_shown_19 : decode cX12_shown 19 = .ok (.iconst 0, 1) := by decide +kernel
theorem dX12_shown_20 : decode cX12_shown 20 = .ok (.iconst 3, 1) := by decide +kernel
theorem dX12_shown_21 : decode cX12_shown 21 = .ok (.invokestatic 374, 3) := by decide +kernel
theorem dX12_shown_24 : decode cX12_shown 24 = .ok (.ifCond .ne 5, 3) := by decide +kernel
theorem dX12_shown_27 : decode cX12_shown 27 = .ok (.iconst (-1), 1) := by decide +kernel
theorem dX12_shown_28 : decode cX12_shown 28 = .ok (.ireturn, 1) := by decide +kernel
theorem dX12_shown_29 : decode cX12_shown 29 = .ok (.iload_n 1, 1) := by decide +kernel
theorem dX12_shown_30 : decode cX12_shown 30 = .ok (.iconst 2, 1) := by decide +kernel
theorem dX12_shown_31 : decode cX12_shown 31 = .ok (.if_icmp .ne 8, 3) := by decide +kernel
theorem dX12_shown_34 : decode cX12_shown 34 = .ok (.bipush 16, 2) := by decide +kernel
theorem dX12_shown_36 : decode cX12_shown 36 = .ok (.goto 6, 3) := by decide +kernel
theorem dX12_shown_39 : decode cX12_shown 39 = .ok (.sipush 4096, 3) := by decide +kernel
theorem dX12_shown_42 : decode cX12_shown 42 = .ok (.istore 4, 2) := by decide +kernel
theorem dX12_shown_44 : decode cX12_shown 44 = .ok (.iconst 0, 1) := by decide +kernel
theorem dX12_shown_45 : decode cX12_shown 45 = .ok (.istore 5, 2) := by decide +kernel
theorem dX12_shown_47 : decode cX12_shown 47 = .ok (.iconst 0, 1) := by decide +kernel
theorem dX12_shown_48 : decode cX12_shown 48 = .ok (.istore 6, 2) := by decide +kernel
theorem dX12_shown_50 : decode cX12_shown 50 = .ok (.iconst (-1), 1) := by decide +kernel
theorem dX12_shown_51 : decode cX12_shown 51 = .ok (.istore 7, 2) := by decide +kernel
theorem dX12_shown_53 : decode cX12_shown 53 = .ok (.iconst 0, 1) := by decide +kernel
theorem dX12_shown_54 : decode cX12_shown 54 = .ok (.istore 8, 2) := by decide +kernel
theorem dX12_shown_56 : decode cX12_shown 56 = .ok (.iconst 0, 1) := by decide +kernel
theorem dX12_shown_57 : decode cX12_shown 57 = .ok (.istore 9, 2) := by decide +kernel
theorem dX12_shown_59 : decode cX12_shown 59 = .ok (.iload 9, 2) := by decide +kernel
theorem dX12_shown_61 : decode cX12_shown 61 = .ok (.iload 4, 2) := by decide +kernel
theorem dX12_shown_63 : decode cX12_shown 63 = .ok (.if_icmp .ge 82, 3) := by decide +kernel
theorem dX12_shown_66 : decode cX12_shown 66 = .ok (.iload_n 2, 1) := by decide +kernel
theorem dX12_shown_67 : decode cX12_shown 67 = .ok (.ifCond .le 16, 3) := by decide +kernel
theorem dX12_shown_70 : decode cX12_shown 70 = .ok (.iload_n 1, 1) := by decide +kernel
theorem dX12_shown_71 : decode cX12_shown 71 = .ok (.iload 9, 2) := by decide +kernel
theorem dX12_shown_73 : decode cX12_shown 73 = .ok (.iload_n 2, 1) := by decide +kernel
theorem dX12_shown_74 : decode cX12_shown 74 = .ok (.invokestatic 466, 3) := by decide +kernel
theorem dX12_shown_77 : decode cX12_shown 77 = .ok (.ifCond .ne 6, 3) := by decide +kernel
theorem dX12_shown_80 : decode cX12_shown 80 = .ok (.goto 59, 3) := by decide +kernel
theorem dX12_shown_83 : decode cX12_shown 83 = .ok (.iload_n 1, 1) := by decide +kernel
theorem dX12_shown_84 : decode cX12_shown 84 = .ok (.iload 9, 2) := by decide +kernel
theorem dX12_shown_86 : decode cX12_shown 86 = .ok (.invokestatic 469, 3) := by decide +kernel
theorem dX12_shown_89 : decode cX12_shown 89 = .ok (.istore 10, 2) := by decide +kernel
theorem dX12_shown_91 : decode cX12_shown 91 = .ok (.iinc 5 1, 3) := by decide +kernel
theorem dX12_shown_94 : decode cX12_shown 94 = .ok (.iload 6, 2) := by decide +kernel
theorem dX12_shown_96 : decode cX12_shown 96 = .ok (.iload 10, 2) := by decide +kernel
theorem dX12_shown_98 : decode cX12_shown 98 = .ok (.ifCond .ne 7, 3) := by decide +kernel
theorem dX12_shown_101 : decode cX12_shown 101 = .ok (.iconst 1, 1) := by decide +kernel
theorem dX12_shown_102 : decode cX12_shown 102 = .ok (.goto 4, 3) := by decide +kernel
theorem dX12_shown_105 : decode cX12_shown 105 = .ok (.iconst 0, 1) := by decide +kernel
theorem dX12_shown_106 : decode cX12_shown 106 = .ok (.iadd, 1) := by decide +kernel
theorem dX12_shown_107 : decode cX12_shown 107 = .ok (.istore 6, 2) := by decide +kernel
theorem dX12_shown_109 : decode cX12_shown 109 = .ok (.iload 10, 2) := by decide +kernel
theorem dX12_shown_111 : decode cX12_shown 111 = .ok (.ifCond .ne 12, 3) := by decide +kernel
theorem dX12_shown_114 : decode cX12_shown 114 = .ok (.iload 7, 2) := by decide +kernel
theorem dX12_shown_116 : decode cX12_shown 116 = .ok (.ifCond .ge 7, 3) := by decide +kernel
theorem dX12_shown_119 : decode cX12_shown 119 = .ok (.iload 9, 2) := by decide +kernel
theorem dX12_shown_121 : decode cX12_shown 121 = .ok (.istore 7, 2) := by decide +kernel
theorem dX12_shown_123 : decode cX12_shown 123 = .ok (.iload 10, 2) := by decide +kernel
theorem dX12_shown_125 : decode cX12_shown 125 = .ok (.iload 8, 2) := by decide +kernel
theorem dX12_shown_127 : decode cX12_shown 127 = .ok (.if_icmp .le 8, 3) := by decide +kernel
theorem dX12_shown_130 : decode cX12_shown 130 = .ok (.iload 10, 2) := by decide +kernel
theorem dX12_shown_132 : decode cX12_shown 132 = .ok (.goto 5, 3) := by decide +kernel
theorem dX12_shown_135 : decode cX12_shown 135 = .ok (.iload 8, 2) := by decide +kernel
theorem dX12_shown_137 : decode cX12_shown 137 = .ok (.istore 8, 2) := by decide +kernel
theorem dX12_shown_139 : decode cX12_shown 139 = .ok (.iinc 9 1, 3) := by decide +kernel
theorem dX12_shown_142 : decode cX12_shown 142 = .ok (.goto (-83), 3) := by decide +kernel
theorem dX12_shown_145 : decode cX12_shown 145 = .ok (.iload_n 3, 1) := by decide +kernel
theorem dX12_shown_146 : decode cX12_shown 146 = .ok (.ifCond .ne 8, 3) := by decide +kernel
theorem dX12_shown_149 : decode cX12_shown 149 = .ok (.iload 5, 2) := by decide +kernel
theorem dX12_shown_151 : decode cX12_shown 151 = .ok (.goto 25, 3) := by decide +kernel
theorem dX12_shown_154 : decode cX12_shown 154 = .ok (.iload_n 3, 1) := by decide +kernel
theorem dX12_shown_155 : decode cX12_shown 155 = .ok (.iconst 1, 1) := by decide +kernel
theorem dX12_shown_156 : decode cX12_shown 156 = .ok (.if_icmp .ne 8, 3) := by decide +kernel
theorem dX12_shown_159 : decode cX12_shown 159 = .ok (.iload 6, 2) := by decide +kernel
theorem dX12_shown_161 : decode cX12_shown 161 = .ok (.goto 15, 3) := by decide +kernel
theorem dX12_shown_164 : decode cX12_shown 164 = .ok (.iload_n 3, 1) := by decide +kernel
theorem dX12_shown_165 : decode cX12_shown 165 = .ok (.iconst 2, 1) := by decide +kernel
theorem dX12_shown_166 : decode cX12_shown 166 = .ok (.if_icmp .ne 8, 3) := by decide +kernel
theorem dX12_shown_169 : decode cX12_shown 169 = .ok (.iload 7, 2) := by decide +kernel
theorem dX12_shown_171 : decode cX12_shown 171 = .ok (.goto 5, 3) := by decide +kernel
theorem dX12_shown_174 : decode cX12_shown 174 = .ok (.iload 8, 2) := by decide +kernel
theorem dX12_shown_176 : decode cX12_shown 176 = .ok (.ireturn, 1) := by decide +kernel
theorem dX12_hand_0 : decode cX12_hand 0 = .ok (.aload_n 0, 1) := by decide +kernel
theorem dX12_hand_1 : decode cX12_hand 1 = .ok (.iload_n 1, 1) := by decide +kernel
theorem dX12_hand_2 : decode cX12_hand 2 = .ok (.invokevirtual 311, 3) := by decide +kernel
theorem dX12_hand_5 : decode cX12_hand 5 = .ok (.ifCond .eq 24, 3) := by decide +kernel
theorem dX12_hand_8 : decode cX12_hand 8 = .ok (.iload_n 2, 1) := by decide +kernel
theorem dX12_hand_9 : decode cX12_hand 9 = .ok (.iconst 0, 1) := by decide +kernel
theorem dX12_hand_10 : decode cX12_hand 10 = .ok (.aload_n 0, 1) := by decide +kernel
theorem dX12_hand_11 : decode cX12_hand 11 = .ok (.invokevirtual 378, 3) := by decide +kernel
theorem dX12_hand_14 : decode cX12_hand 14 = .ok (.invokestatic 374, 3) := by decide +kernel
theorem dX12_hand_17 : decode cX12_hand 17 = .ok (.ifCond .eq 12, 3) := by decide +kernel
theorem dX12_hand_20 : decode cX12_hand 20 = .ok (.aload_n 0, 1) := by decide +kernel
theorem dX12_hand_21 : decode cX12_hand 21 = .ok (.getfield 259, 3) := by decide +kernel
theorem dX12_hand_24 : decode cX12_hand 24 = .ok (.bipush 20, 2) := by decide +kernel
theorem dX12_hand_26 : decode cX12_hand 26 = .ok (.if_icmp .ne 5, 3) := by decide +kernel
theorem dX12_hand_29 : decode cX12_hand 29 = .ok (.iconst (-1), 1) := by decide +kernel
theorem dX12_hand_30 : decode cX12_hand 30 = .ok (.ireturn, 1) := by decide +kernel
theorem dX12_hand_31 : decode cX12_hand 31 = .ok (.aload_n 0, 1) := by decide +kernel
theorem dX12_hand_32 : decode cX12_hand 32 = .ok (.getfield 114, 3) := by decide +kernel
theorem dX12_hand_35 : decode cX12_hand 35 = .ok (.aload_n 0, 1) := by decide +kernel
theorem dX12_hand_36 : decode cX12_hand 36 = .ok (.getfield 259, 3) := by decide +kernel
theorem dX12_hand_39 : decode cX12_hand 39 = .ok (.iload_n 1, 1) := by decide +kernel
theorem dX12_hand_40 : decode cX12_hand 40 = .ok (.iastore, 1) := by decide +kernel
theorem dX12_hand_41 : decode cX12_hand 41 = .ok (.aload_n 0, 1) := by decide +kernel
theorem dX12_hand_42 : decode cX12_hand 42 = .ok (.getfield 117, 3) := by decide +kernel
theorem dX12_hand_45 : decode cX12_hand 45 = .ok (.aload_n 0, 1) := by decide +kernel
theorem dX12_hand_46 : decode cX12_hand 46 = .ok (.getfield 259, 3) := by decide +kernel
theorem dX12_hand_49 : decode cX12_hand 49 = .ok (.iload_n 2, 1) := by decide +kernel
theorem dX12_hand_50 : decode cX12_hand 50 = .ok (.iastore, 1) := by decide +kernel
theorem dX12_hand_51 : decode cX12_hand 51 = .ok (.aload_n 0, 1) := by decide +kernel
theorem dX12_hand_52 : decode cX12_hand 52 = .ok (.getfield 120, 3) := by decide +kernel
theorem dX12_hand_55 : decode cX12_hand 55 = .ok (.aload_n 0, 1) := by decide +kernel
theorem dX12_hand_56 : decode cX12_hand 56 = .ok (.getfield 259, 3) := by decide +kernel
theorem dX12_hand_59 : decode cX12_hand 59 = .ok (.aload_n 0, 1) := by decide +kernel
theorem dX12_hand_60 : decode cX12_hand 60 = .ok (.getfield 472, 3) := by decide +kernel
theorem dX12_hand_63 : decode cX12_hand 63 = .ok (.iastore, 1) := by decide +kernel
theorem dX12_hand_64 : decode cX12_hand 64 = .ok (.aload_n 0, 1) := by decide +kernel
theorem dX12_hand_65 : decode cX12_hand 65 = .ok (.getfield 123, 3) := by decide +kernel
theorem dX12_hand_68 : decode cX12_hand 68 = .ok (.aload_n 0, 1) := by decide +kernel
theorem dX12_hand_69 : decode cX12_hand 69 = .ok (.getfield 259, 3) := by decide +kernel
theorem dX12_hand_72 : decode cX12_hand 72 = .ok (.iconst (-1), 1) := by decide +kernel
theorem dX12_hand_73 : decode cX12_hand 73 = .ok (.iastore, 1) := by decide +kernel
theorem dX12_hand_74 : decode cX12_hand 74 = .ok (.aload_n 0, 1) := by decide +kernel
theorem dX12_hand_75 : decode cX12_hand 75 = .ok (.dup, 1) := by decide +kernel
theorem dX12_hand_76 : decode cX12_hand 76 = .ok (.getfield 259, 3) := by decide +kernel
theorem dX12_hand_79 : decode cX12_hand 79 = .ok (.iconst 1, 1) := by decide +kernel
theorem dX12_hand_80 : decode cX12_hand 80 = .ok (.iadd, 1) := by decide +kernel
theorem dX12_hand_81 : decode cX12_hand 81 = .ok (.putfield 259, 3) := by decide +kernel
theorem dX12_hand_84 : decode cX12_hand 84 = .ok (.aload_n 0, 1) := by decide +kernel
theorem dX12_hand_85 : decode cX12_hand 85 = .ok (.getfield 259, 3) := by decide +kernel
theorem dX12_hand_88 : decode cX12_hand 88 = .ok (.iconst 1, 1) := by decide +kernel
theorem dX12_hand_89 : decode cX12_hand 89 = .ok (.isub, 1) := by decide +kernel
theorem dX12_hand_90 : decode cX12_hand 90 = .ok (.ireturn, 1) := by decide +kernel
theorem dX12_untell_0 : decode cX12_untell 0 = .ok (.iload_n 1, 1) := by decide +kernel
theorem dX12_untell_1 : decode cX12_untell 1 = .ok (.iconst 0, 1) := by decide +kernel
theorem dX12_untell_2 : decode cX12_untell 2 = .ok (.aload_n 0, 1) := by decide +kernel
theorem dX12_untell_3 : decode cX12_untell 3 = .ok (.getfield 259, 3) := by decide +kernel
theorem dX12_untell_6 : decode cX12_untell 6 = .ok (.iconst 1, 1) := by decide +kernel
theorem dX12_untell_7 : decode cX12_untell 7 = .ok (.isub, 1) := by decide +kernel
theorem dX12_untell_8 : decode cX12_untell 8 = .ok (.invokestatic 374, 3) := by decide +kernel
theorem dX12_untell_11 : decode cX12_untell 11 = .ok (.ifCond .eq 12, 3) := by decide +kernel
theorem dX12_untell_14 : decode cX12_untell 14 = .ok (.aload_n 0, 1) := by decide +kernel
theorem dX12_untell_15 : decode cX12_untell 15 = .ok (.getfield 123, 3) := by decide +kernel
theorem dX12_untell_18 : decode cX12_untell 18 = .ok (.iload_n 1, 1) := by decide +kernel
theorem dX12_untell_19 : decode cX12_untell 19 = .ok (.iaload, 1) := by decide +kernel
theorem dX12_untell_20 : decode cX12_untell 20 = .ok (.ifCond .lt 5, 3) := by decide +kernel
theorem dX12_untell_23 : decode cX12_untell 23 = .ok (.iconst 0, 1) := by decide +kernel
theorem dX12_untell_24 : decode cX12_untell 24 = .ok (.ireturn, 1) := by decide +kernel
theorem dX12_untell_25 : decode cX12_untell 25 = .ok (.aload_n 0, 1) := by decide +kernel
theorem dX12_untell_26 : decode cX12_untell 26 = .ok (.getfield 123, 3) := by decide +kernel
theorem dX12_untell_29 : decode cX12_untell 29 = .ok (.iload_n 1, 1) := by decide +kernel
theorem dX12_untell_30 : decode cX12_untell 30 = .ok (.aload_n 0, 1) := by decide +kernel
theorem dX12_untell_31 : decode cX12_untell 31 = .ok (.getfield 472, 3) := by decide +kernel
theorem dX12_untell_34 : decode cX12_untell 34 = .ok (.iastore, 1) := by decide +kernel
theorem dX12_untell_35 : decode cX12_untell 35 = .ok (.iconst 1, 1) := by decide +kernel
theorem dX12_untell_36 : decode cX12_untell 36 = .ok (.ireturn, 1) := by decide +kernel
theorem dX12_later_0 : decode cX12_later 0 = .ok (.iload_n 1, 1) := by decide +kernel
theorem dX12_later_1 : decode cX12_later 1 = .ok (.iconst 0, 1) := by decide +kernel
theorem dX12_later_2 : decode cX12_later 2 = .ok (.sipush 1000, 3) := by decide +kernel
theorem dX12_later_5 : decode cX12_later 5 = .ok (.invokestatic 374, 3) := by decide +kernel
theorem dX12_later_8 : decode cX12_later 8 = .ok (.ifCond .eq 15, 3) := by decide +kernel
theorem dX12_later_11 : decode cX12_later 11 = .ok (.aload_n 0, 1) := by decide +kernel
theorem dX12_later_12 : decode cX12_later 12 = .ok (.getfield 472, 3) := by decide +kernel
theorem dX12_later_15 : decode cX12_later 15 = .ok (.iload_n 1, 1) := by decide +kernel
theorem dX12_later_16 : decode cX12_later 16 = .ok (.iadd, 1) := by decide +kernel
theorem dX12_later_17 : decode cX12_later 17 = .ok (.ldc_w 475, 3) := by decide +kernel
theorem dX12_later_20 : decode cX12_later 20 = .ok (.if_icmp .le 5, 3) := by decide +kernel
theorem dX12_later_23 : decode cX12_later 23 = .ok (.iconst (-1), 1) := by decide +kernel
theorem dX12_later_24 : decode cX12_later 24 = .ok (.ireturn, 1) := by decide +kernel
theorem dX12_later_25 : decode cX12_later 25 = .ok (.aload_n 0, 1) := by decide +kernel
theorem dX12_later_26 : decode cX12_later 26 = .ok (.dup, 1) := by decide +kernel
theorem dX12_later_27 : decode cX12_later 27 = .ok (.getfield 472, 3) := by decide +kernel
theorem dX12_later_30 : decode cX12_later 30 = .ok (.iload_n 1, 1) := by decide +kernel
theorem dX12_later_31 : decode cX12_later 31 = .ok (.iadd, 1) := by decide +kernel
theorem dX12_later_32 : decode cX12_later 32 = .ok (.putfield 472, 3) := by decide +kernel
theorem dX12_later_35 : decode cX12_later 35 = .ok (.aload_n 0, 1) := by decide +kernel
theorem dX12_later_36 : decode cX12_later 36 = .ok (.getfield 472, 3) := by decide +kernel
theorem dX12_later_39 : decode cX12_later 39 = .ok (.ireturn, 1) := by decide +kernel
theorem dX12_isLeft_0 : decode cX12_isLeft 0 = .ok (.aload_n 0, 1) := by decide +kernel
theorem dX12_isLeft_1 : decode cX12_isLeft 1 = .ok (.iload_n 1, 1) := by decide +kernel
theorem dX12_isLeft_2 : decode cX12_isLeft 2 = .ok (.invokevirtual 408, 3) := by decide +kernel
theorem dX12_isLeft_5 : decode cX12_isLeft 5 = .ok (.ifCond .ne 5, 3) := by decide +kernel
theorem dX12_isLeft_8 : decode cX12_isLeft 8 = .ok (.iconst 0, 1) := by decide +kernel
theorem dX12_isLeft_9 : decode cX12_isLeft 9 = .ok (.ireturn, 1) := by decide +kernel
theorem dX12_isLeft_10 : decode cX12_isLeft 10 = .ok (.aload_n 0, 1) := by decide +kernel
theorem dX12_isLeft_11 : decode cX12_isLeft 11 = .ok (.iload_n 1, 1) := by decide +kernel
theorem dX12_isLeft_12 : decode cX12_isLeft 12 = .ok (.invokevirtual 398, 3) := by decide +kernel
theorem dX12_isLeft_15 : decode cX12_isLeft 15 = .ok (.iconst 0, 1) := by decide +kernel
theorem dX12_isLeft_16 : decode cX12_isLeft 16 = .ok (.istore_n 3, 1) := by decide +kernel
theorem dX12_isLeft_17 : decode cX12_isLeft 17 = .ok (.iload_n 3, 1) := by decide +kernel
theorem dX12_isLeft_18 : decode cX12_isLeft 18 = .ok (.aload_n 0, 1) := by decide +kernel
theorem dX12_isLeft_19 : decode cX12_isLeft 19 = .ok (.getfield 259, 3) := by decide +kernel
theorem dX12_isLeft_22 : decode cX12_isLeft 22 = .ok (.if_icmp .ge 60, 3) := by decide +kernel
theorem dX12_isLeft_25 : decode cX12_isLeft 25 = .ok (.aload_n 0, 1) := by decide +kernel
theorem dX12_isLeft_26 : decode cX12_isLeft 26 = .ok (.getfield 120, 3) := by decide +kernel
theorem dX12_isLeft_29 : decode cX12_isLeft 29 = .ok (.iload_n 3, 1) := by decide +kernel
theorem dX12_isLeft_30 : decode cX12_isLeft 30 = .ok (.iaload, 1) := by decide +kernel
theorem dX12_isLeft_31 : decode cX12_isLeft 31 = .ok (.iload_n 2, 1) := by decide +kernel
theorem dX12_isLeft_32 : decode cX12_isLeft 32 = .ok (.if_icmp .gt 44, 3) := by decide +kernel
theorem dX12_isLeft_35 : decode cX12_isLeft 35 = .ok (.aload_n 0, 1) := by decide +kernel
theorem dX12_isLeft_36 : decode cX12_isLeft 36 = .ok (.getfield 123, 3) := by decide +kernel
theorem dX12_isLeft_39 : decode cX12_isLeft 39 = .ok (.iload_n 3, 1) := by decide +kernel
theorem dX12_isLeft_40 : decode cX12_isLeft 40 = .ok (.iaload, 1) := by decide +kernel
theorem dX12_isLeft_41 : decode cX12_isLeft 41 = .ok (.ifCond .lt 13, 3) := by decide +kernel
theorem dX12_isLeft_44 : decode cX12_isLeft 44 = .ok (.aload_n 0, 1) := by decide +kernel
theorem dX12_isLeft_45 : decode cX12_isLeft 45 = .ok (.getfield 123, 3) := by decide +kernel
theorem dX12_isLeft_48 : decode cX12_isLeft 48 = .ok (.iload_n 3, 1) := by decide +kernel
theorem dX12_isLeft_49 : decode cX12_isLeft 49 = .ok (.iaload, 1) := by decide +kernel
theorem dX12_isLeft_50 : decode cX12_isLeft 50 = .ok (.iload_n 2, 1) := by decide +kernel
theorem dX12_isLeft_51 : decode cX12_isLeft 51 = .ok (.if_icmp .le 25, 3) := by decide +kernel
theorem dX12_isLeft_54 : decode cX12_isLeft 54 = .ok (.aload_n 0, 1) := by decide +kernel
theorem dX12_isLeft_55 : decode cX12_isLeft 55 = .ok (.getfield 80, 3) := by decide +kernel
theorem dX12_isLeft_58 : decode cX12_isLeft 58 = .ok (.aload_n 0, 1) := by decide +kernel
theorem dX12_isLeft_59 : decode cX12_isLeft 59 = .ok (.getfield 114, 3) := by decide +kernel
theorem dX12_isLeft_62 : decode cX12_isLeft 62 = .ok (.iload_n 3, 1) := by decide +kernel
theorem dX12_isLeft_63 : decode cX12_isLeft 63 = .ok (.iaload, 1) := by decide +kernel
theorem dX12_isLeft_64 : decode cX12_isLeft 64 = .ok (.iaload, 1) := by decide +kernel
theorem dX12_isLeft_65 : decode cX12_isLeft 65 = .ok (.aload_n 0, 1) := by decide +kernel
theorem dX12_isLeft_66 : decode cX12_isLeft 66 = .ok (.getfield 117, 3) := by decide +kernel
theorem dX12_isLeft_69 : decode cX12_isLeft 69 = .ok (.iload_n 3, 1) := by decide +kernel
theorem dX12_isLeft_70 : decode cX12_isLeft 70 = .ok (.iaload, 1) := by decide +kernel
theorem dX12_isLeft_71 : decode cX12_isLeft 71 = .ok (.if_icmp .eq 5, 3) := by decide +kernel
theorem dX12_isLeft_74 : decode cX12_isLeft 74 = .ok (.iconst 0, 1) := by decide +kernel
theorem dX12_isLeft_75 : decode cX12_isLeft 75 = .ok (.ireturn, 1) := by decide +kernel
theorem dX12_isLeft_76 : decode cX12_isLeft 76 = .ok (.iinc 3 1, 3) := by decide +kernel
theorem dX12_isLeft_79 : decode cX12_isLeft 79 = .ok (.goto (-62), 3) := by decide +kernel
theorem dX12_isLeft_82 : decode cX12_isLeft 82 = .ok (.iconst 1, 1) := by decide +kernel
theorem dX12_isLeft_83 : decode cX12_isLeft 83 = .ok (.ireturn, 1) := by decide +kernel
theorem dX12_left_0 : decode cX12_left 0 = .ok (.iconst 0, 1) := by decide +kernel
theorem dX12_left_1 : decode cX12_left 1 = .ok (.istore_n 2, 1) := by decide +kernel
theorem dX12_left_2 : decode cX12_left 2 = .ok (.iconst 0, 1) := by decide +kernel
theorem dX12_left_3 : decode cX12_left 3 = .ok (.istore_n 3, 1) := by decide +kernel
theorem dX12_left_4 : decode cX12_left 4 = .ok (.iload_n 3, 1) := by decide +kernel
theorem dX12_left_5 : decode cX12_left 5 = .ok (.aload_n 0, 1) := by decide +kernel
theorem dX12_left_6 : decode cX12_left 6 = .ok (.getfield 395, 3) := by decide +kernel
theorem dX12_left_9 : decode cX12_left 9 = .ok (.if_icmp .ge 26, 3) := by decide +kernel
theorem dX12_left_12 : decode cX12_left 12 = .ok (.iload_n 2, 1) := by decide +kernel
theorem dX12_left_13 : decode cX12_left 13 = .ok (.aload_n 0, 1) := by decide +kernel
theorem dX12_left_14 : decode cX12_left 14 = .ok (.iload_n 3, 1) := by decide +kernel
theorem dX12_left_15 : decode cX12_left 15 = .ok (.iload_n 1, 1) := by decide +kernel
theorem dX12_left_16 : decode cX12_left 16 = .ok (.invokevirtual 476, 3) := by decide +kernel
theorem dX12_left_19 : decode cX12_left 19 = .ok (.ifCond .eq 7, 3) := by decide +kernel
theorem dX12_left_22 : decode cX12_left 22 = .ok (.iconst 1, 1) := by decide +kernel
theorem dX12_left_23 : decode cX12_left 23 = .ok (.goto 4, 3) := by decide +kernel
theorem dX12_left_26 : decode cX12_left 26 = .ok (.iconst 0, 1) := by decide +kernel
theorem dX12_left_27 : decode cX12_left 27 = .ok (.iadd, 1) := by decide +kernel
theorem dX12_left_28 : decode cX12_left 28 = .ok (.istore_n 2, 1) := by decide +kernel
theorem dX12_left_29 : decode cX12_left 29 = .ok (.iinc 3 1, 3) := by decide +kernel
theorem dX12_left_32 : decode cX12_left 32 = .ok (.goto (-28), 3) := by decide +kernel
theorem dX12_left_35 : decode cX12_left 35 = .ok (.iload_n 2, 1) := by decide +kernel
theorem dX12_left_36 : decode cX12_left 36 = .ok (.ireturn, 1) := by decide +kernel
theorem dX12_sure_0 : decode cX12_sure 0 = .ok (.aload_n 0, 1) := by decide +kernel
theorem dX12_sure_1 : decode cX12_sure 1 = .ok (.iload_n 1, 1) := by decide +kernel
theorem dX12_sure_2 : decode cX12_sure 2 = .ok (.invokevirtual 311, 3) := by decide +kernel
theorem dX12_sure_5 : decode cX12_sure 5 = .ok (.ifCond .ne 5, 3) := by decide +kernel
theorem dX12_sure_8 : decode cX12_sure 8 = .ok (.iconst (-1), 1) := by decide +kernel
theorem dX12_sure_9 : decode cX12_sure 9 = .ok (.ireturn, 1) := by decide +kernel
theorem dX12_sure_10 : decode cX12_sure 10 = .ok (.iconst (-1), 1) := by decide +kernel
theorem dX12_sure_11 : decode cX12_sure 11 = .ok (.istore_n 3, 1) := by decide +kernel
theorem dX12_sure_12 : decode cX12_sure 12 = .ok (.iconst 0, 1) := by decide +kernel
theorem dX12_sure_13 : decode cX12_sure 13 = .ok (.istore 4, 2) := by decide +kernel
theorem dX12_sure_15 : decode cX12_sure 15 = .ok (.iload 4, 2) := by decide +kernel
theorem dX12_sure_17 : decode cX12_sure 17 = .ok (.aload_n 0, 1) := by decide +kernel
theorem dX12_sure_18 : decode cX12_sure 18 = .ok (.getfield 395, 3) := by decide +kernel
theorem dX12_sure_21 : decode cX12_sure 21 = .ok (.if_icmp .ge 46, 3) := by decide +kernel
theorem dX12_sure_24 : decode cX12_sure 24 = .ok (.aload_n 0, 1) := by decide +kernel
theorem dX12_sure_25 : decode cX12_sure 25 = .ok (.iload 4, 2) := by decide +kernel
theorem dX12_sure_27 : decode cX12_sure 27 = .ok (.iload_n 2, 1) := by decide +kernel
theorem dX12_sure_28 : decode cX12_sure 28 = .ok (.invokevirtual 476, 3) := by decide +kernel
theorem dX12_sure_31 : decode cX12_sure 31 = .ok (.ifCond .ne 6, 3) := by decide +kernel
theorem dX12_sure_34 : decode cX12_sure 34 = .ok (.goto 27, 3) := by decide +kernel
theorem dX12_sure_37 : decode cX12_sure 37 = .ok (.iload_n 3, 1) := by decide +kernel
theorem dX12_sure_38 : decode cX12_sure 38 = .ok (.ifCond .lt 16, 3) := by decide +kernel
theorem dX12_sure_41 : decode cX12_sure 41 = .ok (.iload_n 3, 1) := by decide +kernel
theorem dX12_sure_42 : decode cX12_sure 42 = .ok (.aload_n 0, 1) := by decide +kernel
theorem dX12_sure_43 : decode cX12_sure 43 = .ok (.getfield 80, 3) := by decide +kernel
theorem dX12_sure_46 : decode cX12_sure 46 = .ok (.iload_n 1, 1) := by decide +kernel
theorem dX12_sure_47 : decode cX12_sure 47 = .ok (.iaload, 1) := by decide +kernel
theorem dX12_sure_48 : decode cX12_sure 48 = .ok (.if_icmp .eq 6, 3) := by decide +kernel
theorem dX12_sure_51 : decode cX12_sure 51 = .ok (.bipush (-2), 2) := by decide +kernel
theorem dX12_sure_53 : decode cX12_sure 53 = .ok (.ireturn, 1) := by decide +kernel
theorem dX12_sure_54 : decode cX12_sure 54 = .ok (.aload_n 0, 1) := by decide +kernel
theorem dX12_sure_55 : decode cX12_sure 55 = .ok (.getfield 80, 3) := by decide +kernel
theorem dX12_sure_58 : decode cX12_sure 58 = .ok (.iload_n 1, 1) := by decide +kernel
theorem dX12_sure_59 : decode cX12_sure 59 = .ok (.iaload, 1) := by decide +kernel
theorem dX12_sure_60 : decode cX12_sure 60 = .ok (.istore_n 3, 1) := by decide +kernel
theorem dX12_sure_61 : decode cX12_sure 61 = .ok (.iinc 4 1, 3) := by decide +kernel
theorem dX12_sure_64 : decode cX12_sure 64 = .ok (.goto (-49), 3) := by decide +kernel
theorem dX12_sure_67 : decode cX12_sure 67 = .ok (.iload_n 3, 1) := by decide +kernel
theorem dX12_sure_68 : decode cX12_sure 68 = .ok (.ireturn, 1) := by decide +kernel
theorem dX12_image_0 : decode cX12_image 0 = .ok (.iload_n 1, 1) := by decide +kernel
theorem dX12_image_1 : decode cX12_image 1 = .ok (.iconst 0, 1) := by decide +kernel
theorem dX12_image_2 : decode cX12_image 2 = .ok (.iconst 2, 1) := by decide +kernel
theorem dX12_image_3 : decode cX12_image 3 = .ok (.invokestatic 374, 3) := by decide +kernel
theorem dX12_image_6 : decode cX12_image 6 = .ok (.ifCond .ne 5, 3) := by decide +kernel
theorem dX12_image_9 : decode cX12_image 9 = .ok (.iconst (-1), 1) := by decide +kernel
theorem dX12_image_10 : decode cX12_image 10 = .ok (.ireturn, 1) := by decide +kernel
theorem dX12_image_11 : decode cX12_image 11 = .ok (.aload_n 0, 1) := by decide +kernel
theorem dX12_image_12 : decode cX12_image 12 = .ok (.getfield 126, 3) := by decide +kernel
theorem dX12_image_15 : decode cX12_image 15 = .ok (.iload_n 1, 1) := by decide +kernel
theorem dX12_image_16 : decode cX12_image 16 = .ok (.aload_n 0, 1) := by decide +kernel
theorem dX12_image_17 : decode cX12_image 17 = .ok (.getfield 259, 3) := by decide +kernel
theorem dX12_image_20 : decode cX12_image 20 = .ok (.iastore, 1) := by decide +kernel
theorem dX12_image_21 : decode cX12_image 21 = .ok (.iconst 0, 1) := by decide +kernel
theorem dX12_image_22 : decode cX12_image 22 = .ok (.istore_n 2, 1) := by decide +kernel
theorem dX12_image_23 : decode cX12_image 23 = .ok (.iload_n 2, 1) := by decide +kernel
theorem dX12_image_24 : decode cX12_image 24 = .ok (.bipush 8, 2) := by decide +kernel
theorem dX12_image_26 : decode cX12_image 26 = .ok (.if_icmp .ge 47, 3) := by decide +kernel
theorem dX12_image_29 : decode cX12_image 29 = .ok (.aload_n 0, 1) := by decide +kernel
theorem dX12_image_30 : decode cX12_image 30 = .ok (.getfield 129, 3) := by decide +kernel
theorem dX12_image_33 : decode cX12_image 33 = .ok (.bipush 8, 2) := by decide +kernel
theorem dX12_image_35 : decode cX12_image 35 = .ok (.iload_n 1, 1) := by decide +kernel
theorem dX12_image_36 : decode cX12_image 36 = .ok (.imul, 1) := by decide +kernel
theorem dX12_image_37 : decode cX12_image 37 = .ok (.iload_n 2, 1) := by decide +kernel
theorem dX12_image_38 : decode cX12_image 38 = .ok (.iadd, 1) := by decide +kernel
theorem dX12_image_39 : decode cX12_image 39 = .ok (.aload_n 0, 1) := by decide +kernel
theorem dX12_image_40 : decode cX12_image 40 = .ok (.getfield 99, 3) := by decide +kernel
theorem dX12_image_43 : decode cX12_image 43 = .ok (.iload_n 2, 1) := by decide +kernel
theorem dX12_image_44 : decode cX12_image 44 = .ok (.iaload, 1) := by decide +kernel
theorem dX12_image_45 : decode cX12_image 45 = .ok (.iastore, 1) := by decide +kernel
theorem dX12_image_46 : decode cX12_image 46 = .ok (.aload_n 0, 1) := by decide +kernel
theorem dX12_image_47 : decode cX12_image 47 = .ok (.bipush 8, 2) := by decide +kernel
theorem dX12_image_49 : decode cX12_image 49 = .ok (.aload_n 0, 1) := by decide +kernel
theorem dX12_image_50 : decode cX12_image 50 = .ok (.getfield 253, 3) := by decide +kernel
theorem dX12_image_53 : decode cX12_image 53 = .ok (.imul, 1) := by decide +kernel
theorem dX12_image_54 : decode cX12_image 54 = .ok (.iload_n 2, 1) := by decide +kernel
theorem dX12_image_55 : decode cX12_image 55 = .ok (.iadd, 1) := by decide +kernel
theorem dX12_image_56 : decode cX12_image 56 = .ok (.bipush 8, 2) := by decide +kernel
theorem dX12_image_58 : decode cX12_image 58 = .ok (.iconst 2, 1) := by decide +kernel
theorem dX12_image_59 : decode cX12_image 59 = .ok (.iload_n 1, 1) := by decide +kernel
theorem dX12_image_60 : decode cX12_image 60 = .ok (.iadd, 1) := by decide +kernel
theorem dX12_image_61 : decode cX12_image 61 = .ok (.imul, 1) := by decide +kernel
theorem dX12_image_62 : decode cX12_image 62 = .ok (.iload_n 2, 1) := by decide +kernel
theorem dX12_image_63 : decode cX12_image 63 = .ok (.iadd, 1) := by decide +kernel
theorem dX12_image_64 : decode cX12_image 64 = .ok (.invokevirtual 314, 3) := by decide +kernel
theorem dX12_image_67 : decode cX12_image 67 = .ok (.iinc 2 1, 3) := by decide +kernel
theorem dX12_image_70 : decode cX12_image 70 = .ok (.goto (-47), 3) := by decide +kernel
theorem dX12_image_73 : decode cX12_image 73 = .ok (.iconst 0, 1) := by decide +kernel
theorem dX12_image_74 : decode cX12_image 74 = .ok (.istore_n 2, 1) := by decide +kernel
theorem dX12_image_75 : decode cX12_image 75 = .ok (.iload_n 2, 1) := by decide +kernel
theorem dX12_image_76 : decode cX12_image 76 = .ok (.aload_n 0, 1) := by decide +kernel
theorem dX12_image_77 : decode cX12_image 77 = .ok (.getfield 259, 3) := by decide +kernel
theorem dX12_image_80 : decode cX12_image 80 = .ok (.if_icmp .ge 77, 3) := by decide +kernel
theorem dX12_image_83 : decode cX12_image 83 = .ok (.aload_n 0, 1) := by decide +kernel
theorem dX12_image_84 : decode cX12_image 84 = .ok (.getfield 132, 3) := by decide +kernel
theorem dX12_image_87 : decode cX12_image 87 = .ok (.bipush 20, 2) := by decide +kernel
theorem dX12_image_89 : decode cX12_image 89 = .ok (.iload_n 1, 1) := by decide +kernel
theorem dX12_image_90 : decode cX12_image 90 = .ok (.imul, 1) := by decide +kernel
theorem dX12_image_91 : decode cX12_image 91 = .ok (.iload_n 2, 1) := by decide +kernel
theorem dX12_image_92 : decode cX12_image 92 = .ok (.iadd, 1) := by decide +kernel
theorem dX12_image_93 : decode cX12_image 93 = .ok (.aload_n 0, 1) := by decide +kernel
theorem dX12_image_94 : decode cX12_image 94 = .ok (.getfield 114, 3) := by decide +kernel
theorem dX12_image_97 : decode cX12_image 97 = .ok (.iload_n 2, 1) := by decide +kernel
theorem dX12_image_98 : decode cX12_image 98 = .ok (.iaload, 1) := by decide +kernel
theorem dX12_image_99 : decode cX12_image 99 = .ok (.iastore, 1) := by decide +kernel
theorem dX12_image_100 : decode cX12_image 100 = .ok (.aload_n 0, 1) := by decide +kernel
theorem dX12_image_101 : decode cX12_image 101 = .ok (.getfield 135, 3) := by decide +kernel
theorem dX12_image_104 : decode cX12_image 104 = .ok (.bipush 20, 2) := by decide +kernel
theorem dX12_image_106 : decode cX12_image 106 = .ok (.iload_n 1, 1) := by decide +kernel
theorem dX12_image_107 : decode cX12_image 107 = .ok (.imul, 1) := by decide +kernel
theorem dX12_image_108 : decode cX12_image 108 = .ok (.iload_n 2, 1) := by decide +kernel
theorem dX12_image_109 : decode cX12_image 109 = .ok (.iadd, 1) := by decide +kernel
theorem dX12_image_110 : decode cX12_image 110 = .ok (.aload_n 0, 1) := by decide +kernel
theorem dX12_image_111 : decode cX12_image 111 = .ok (.getfield 117, 3) := by decide +kernel
theorem dX12_image_114 : decode cX12_image 114 = .ok (.iload_n 2, 1) := by decide +kernel
theorem dX12_image_115 : decode cX12_image 115 = .ok (.iaload, 1) := by decide +kernel
theorem dX12_image_116 : decode cX12_image 116 = .ok (.iastore, 1) := by decide +kernel
theorem dX12_image_117 : decode cX12_image 117 = .ok (.aload_n 0, 1) := by decide +kernel
theorem dX12_image_118 : decode cX12_image 118 = .ok (.getfield 138, 3) := by decide +kernel
theorem dX12_image_121 : decode cX12_image 121 = .ok (.bipush 20, 2) := by decide +kernel
theorem dX12_image_123 : decode cX12_image 123 = .ok (.iload_n 1, 1) := by decide +kernel
theorem dX12_image_124 : decode cX12_image 124 = .ok (.imul, 1) := by decide +kernel
theorem dX12_image_125 : decode cX12_image 125 = .ok (.iload_n 2, 1) := by decide +kernel
theorem dX12_image_126 : decode cX12_image 126 = .ok (.iadd, 1) := by decide +kernel
theorem dX12_image_127 : decode cX12_image 127 = .ok (.aload_n 0, 1) := by decide +kernel
theorem dX12_image_128 : decode cX12_image 128 = .ok (.getfield 120, 3) := by decide +kernel
theorem dX12_image_131 : decode cX12_image 131 = .ok (.iload_n 2, 1) := by decide +kernel
theorem dX12_image_132 : decode cX12_image 132 = .ok (.iaload, 1) := by decide +kernel
theorem dX12_image_133 : decode cX12_image 133 = .ok (.iastore, 1) := by decide +kernel
theorem dX12_image_134 : decode cX12_image 134 = .ok (.aload_n 0, 1) := by decide +kernel
theorem dX12_image_135 : decode cX12_image 135 = .ok (.getfield 141, 3) := by decide +kernel
theorem dX12_image_138 : decode cX12_image 138 = .ok (.bipush 20, 2) := by decide +kernel
theorem dX12_image_140 : decode cX12_image 140 = .ok (.iload_n 1, 1) := by decide +kernel
theorem dX12_image_141 : decode cX12_image 141 = .ok (.imul, 1) := by decide +kernel
theorem dX12_image_142 : decode cX12_image 142 = .ok (.iload_n 2, 1) := by decide +kernel
theorem dX12_image_143 : decode cX12_image 143 = .ok (.iadd, 1) := by decide +kernel
theorem dX12_image_144 : decode cX12_image 144 = .ok (.aload_n 0, 1) := by decide +kernel
theorem dX12_image_145 : decode cX12_image 145 = .ok (.getfield 123, 3) := by decide +kernel
theorem dX12_image_148 : decode cX12_image 148 = .ok (.iload_n 2, 1) := by decide +kernel
theorem dX12_image_149 : decode cX12_image 149 = .ok (.iaload, 1) := by decide +kernel
theorem dX12_image_150 : decode cX12_image 150 = .ok (.iastore, 1) := by decide +kernel
theorem dX12_image_151 : decode cX12_image 151 = .ok (.iinc 2 1, 3) := by decide +kernel
theorem dX12_image_154 : decode cX12_image 154 = .ok (.goto (-79), 3) := by decide +kernel
theorem dX12_image_157 : decode cX12_image 157 = .ok (.aload_n 0, 1) := by decide +kernel
theorem dX12_image_158 : decode cX12_image 158 = .ok (.getfield 259, 3) := by decide +kernel
theorem dX12_image_161 : decode cX12_image 161 = .ok (.ireturn, 1) := by decide +kernel
theorem dX12_back_0 : decode cX12_back 0 = .ok (.iload_n 1, 1) := by decide +kernel
theorem dX12_back_1 : decode cX12_back 1 = .ok (.iconst 0, 1) := by decide +kernel
theorem dX12_back_2 : decode cX12_back 2 = .ok (.iconst 2, 1) := by decide +kernel
theorem dX12_back_3 : decode cX12_back 3 = .ok (.invokestatic 374, 3) := by decide +kernel
theorem dX12_back_6 : decode cX12_back 6 = .ok (.ifCond .eq 12, 3) := by decide +kernel
theorem dX12_back_9 : decode cX12_back 9 = .ok (.aload_n 0, 1) := by decide +kernel
theorem dX12_back_10 : decode cX12_back 10 = .ok (.getfield 126, 3) := by decide +kernel
theorem dX12_back_13 : decode cX12_back 13 = .ok (.iload_n 1, 1) := by decide +kernel
theorem dX12_back_14 : decode cX12_back 14 = .ok (.iaload, 1) := by decide +kernel
theorem dX12_back_15 : decode cX12_back 15 = .ok (.ifCond .ge 5, 3) := by decide +kernel
theorem dX12_back_18 : decode cX12_back 18 = .ok (.iconst (-1), 1) := by decide +kernel
theorem dX12_back_19 : decode cX12_back 19 = .ok (.ireturn, 1) := by decide +kernel
theorem dX12_back_20 : decode cX12_back 20 = .ok (.aload_n 0, 1) := by decide +kernel
theorem dX12_back_21 : decode cX12_back 21 = .ok (.aload_n 0, 1) := by decide +kernel
theorem dX12_back_22 : decode cX12_back 22 = .ok (.getfield 126, 3) := by decide +kernel
theorem dX12_back_25 : decode cX12_back 25 = .ok (.iload_n 1, 1) := by decide +kernel
theorem dX12_back_26 : decode cX12_back 26 = .ok (.iaload, 1) := by decide +kernel
theorem dX12_back_27 : decode cX12_back 27 = .ok (.putfield 259, 3) := by decide +kernel
theorem dX12_back_30 : decode cX12_back 30 = .ok (.iconst 0, 1) := by decide +kernel
theorem dX12_back_31 : decode cX12_back 31 = .ok (.istore_n 2, 1) := by decide +kernel
theorem dX12_back_32 : decode cX12_back 32 = .ok (.iload_n 2, 1) := by decide +kernel
theorem dX12_back_33 : decode cX12_back 33 = .ok (.bipush 8, 2) := by decide +kernel
theorem dX12_back_35 : decode cX12_back 35 = .ok (.if_icmp .ge 47, 3) := by decide +kernel
theorem dX12_back_38 : decode cX12_back 38 = .ok (.aload_n 0, 1) := by decide +kernel
theorem dX12_back_39 : decode cX12_back 39 = .ok (.getfield 99, 3) := by decide +kernel
theorem dX12_back_42 : decode cX12_back 42 = .ok (.iload_n 2, 1) := by decide +kernel
theorem dX12_back_43 : decode cX12_back 43 = .ok (.aload_n 0, 1) := by decide +kernel
theorem dX12_back_44 : decode cX12_back 44 = .ok (.getfield 129, 3) := by decide +kernel
theorem dX12_back_47 : decode cX12_back 47 = .ok (.bipush 8, 2) := by decide +kernel
theorem dX12_back_49 : decode cX12_back 49 = .ok (.iload_n 1, 1) := by decide +kernel
theorem dX12_back_50 : decode cX12_back 50 = .ok (.imul, 1) := by decide +kernel
theorem dX12_back_51 : decode cX12_back 51 = .ok (.iload_n 2, 1) := by decide +kernel
theorem dX12_back_52 : decode cX12_back 52 = .ok (.iadd, 1) := by decide +kernel
theorem dX12_back_53 : decode cX12_back 53 = .ok (.iaload, 1) := by decide +kernel
theorem dX12_back_54 : decode cX12_back 54 = .ok (.iastore, 1) := by decide +kernel
theorem dX12_back_55 : decode cX12_back 55 = .ok (.aload_n 0, 1) := by decide +kernel
theorem dX12_back_56 : decode cX12_back 56 = .ok (.bipush 8, 2) := by decide +kernel
theorem dX12_back_58 : decode cX12_back 58 = .ok (.iconst 2, 1) := by decide +kernel
theorem dX12_back_59 : decode cX12_back 59 = .ok (.iload_n 1, 1) := by decide +kernel
theorem dX12_back_60 : decode cX12_back 60 = .ok (.iadd, 1) := by decide +kernel
theorem dX12_back_61 : decode cX12_back 61 = .ok (.imul, 1) := by decide +kernel
theorem dX12_back_62 : decode cX12_back 62 = .ok (.iload_n 2, 1) := by decide +kernel
theorem dX12_back_63 : decode cX12_back 63 = .ok (.iadd, 1) := by decide +kernel
theorem dX12_back_64 : decode cX12_back 64 = .ok (.bipush 8, 2) := by decide +kernel
theorem dX12_back_66 : decode cX12_back 66 = .ok (.aload_n 0, 1) := by decide +kernel
theorem dX12_back_67 : decode cX12_back 67 = .ok (.getfield 253, 3) := by decide +kernel
theorem dX12_back_70 : decode cX12_back 70 = .ok (.imul, 1) := by decide +kernel
theorem dX12_back_71 : decode cX12_back 71 = .ok (.iload_n 2, 1) := by decide +kernel
theorem dX12_back_72 : decode cX12_back 72 = .ok (.iadd, 1) := by decide +kernel
theorem dX12_back_73 : decode cX12_back 73 = .ok (.invokevirtual 314, 3) := by decide +kernel
theorem dX12_back_76 : decode cX12_back 76 = .ok (.iinc 2 1, 3) := by decide +kernel
theorem dX12_back_79 : decode cX12_back 79 = .ok (.goto (-47), 3) := by decide +kernel
theorem dX12_back_82 : decode cX12_back 82 = .ok (.iconst 0, 1) := by decide +kernel
theorem dX12_back_83 : decode cX12_back 83 = .ok (.istore_n 2, 1) := by decide +kernel
theorem dX12_back_84 : decode cX12_back 84 = .ok (.iload_n 2, 1) := by decide +kernel
theorem dX12_back_85 : decode cX12_back 85 = .ok (.aload_n 0, 1) := by decide +kernel
theorem dX12_back_86 : decode cX12_back 86 = .ok (.getfield 259, 3) := by decide +kernel
theorem dX12_back_89 : decode cX12_back 89 = .ok (.if_icmp .ge 77, 3) := by decide +kernel
theorem dX12_back_92 : decode cX12_back 92 = .ok (.aload_n 0, 1) := by decide +kernel
theorem dX12_back_93 : decode cX12_back 93 = .ok (.getfield 114, 3) := by decide +kernel
theorem dX12_back_96 : decode cX12_back 96 = .ok (.iload_n 2, 1) := by decide +kernel
theorem dX12_back_97 : decode cX12_back 97 = .ok (.aload_n 0, 1) := by decide +kernel
theorem dX12_back_98 : decode cX12_back 98 = .ok (.getfield 132, 3) := by decide +kernel
theorem dX12_back_101 : decode cX12_back 101 = .ok (.bipush 20, 2) := by decide +kernel
theorem dX12_back_103 : decode cX12_back 103 = .ok (.iload_n 1, 1) := by decide +kernel
theorem dX12_back_104 : decode cX12_back 104 = .ok (.imul, 1) := by decide +kernel
theorem dX12_back_105 : decode cX12_back 105 = .ok (.iload_n 2, 1) := by decide +kernel
theorem dX12_back_106 : decode cX12_back 106 = .ok (.iadd, 1) := by decide +kernel
theorem dX12_back_107 : decode cX12_back 107 = .ok (.iaload, 1) := by decide +kernel
theorem dX12_back_108 : decode cX12_back 108 = .ok (.iastore, 1) := by decide +kernel
theorem dX12_back_109 : decode cX12_back 109 = .ok (.aload_n 0, 1) := by decide +kernel
theorem dX12_back_110 : decode cX12_back 110 = .ok (.getfield 117, 3) := by decide +kernel
theorem dX12_back_113 : decode cX12_back 113 = .ok (.iload_n 2, 1) := by decide +kernel
theorem dX12_back_114 : decode cX12_back 114 = .ok (.aload_n 0, 1) := by decide +kernel
theorem dX12_back_115 : decode cX12_back 115 = .ok (.getfield 135, 3) := by decide +kernel
theorem dX12_back_118 : decode cX12_back 118 = .ok (.bipush 20, 2) := by decide +kernel
theorem dX12_back_120 : decode cX12_back 120 = .ok (.iload_n 1, 1) := by decide +kernel
theorem dX12_back_121 : decode cX12_back 121 = .ok (.imul, 1) := by decide +kernel
theorem dX12_back_122 : decode cX12_back 122 = .ok (.iload_n 2, 1) := by decide +kernel
theorem dX12_back_123 : decode cX12_back 123 = .ok (.iadd, 1) := by decide +kernel
theorem dX12_back_124 : decode cX12_back 124 = .ok (.iaload, 1) := by decide +kernel
theorem dX12_back_125 : decode cX12_back 125 = .ok (.iastore, 1) := by decide +kernel
theorem dX12_back_126 : decode cX12_back 126 = .ok (.aload_n 0, 1) := by decide +kernel
theorem dX12_back_127 : decode cX12_back 127 = .ok (.getfield 120, 3) := by decide +kernel
theorem dX12_back_130 : decode cX12_back 130 = .ok (.iload_n 2, 1) := by decide +kernel
theorem dX12_back_131 : decode cX12_back 131 = .ok (.aload_n 0, 1) := by decide +kernel
theorem dX12_back_132 : decode cX12_back 132 = .ok (.getfield 138, 3) := by decide +kernel
theorem dX12_back_135 : decode cX12_back 135 = .ok (.bipush 20, 2) := by decide +kernel
theorem dX12_back_137 : decode cX12_back 137 = .ok (.iload_n 1, 1) := by decide +kernel
theorem dX12_back_138 : decode cX12_back 138 = .ok (.imul, 1) := by decide +kernel
theorem dX12_back_139 : decode cX12_back 139 = .ok (.iload_n 2, 1) := by decide +kernel
theorem dX12_back_140 : decode cX12_back 140 = .ok (.iadd, 1) := by decide +kernel
theorem dX12_back_141 : decode cX12_back 141 = .ok (.iaload, 1) := by decide +kernel
theorem dX12_back_142 : decode cX12_back 142 = .ok (.iastore, 1) := by decide +kernel
theorem dX12_back_143 : decode cX12_back 143 = .ok (.aload_n 0, 1) := by decide +kernel
theorem dX12_back_144 : decode cX12_back 144 = .ok (.getfield 123, 3) := by decide +kernel
theorem dX12_back_147 : decode cX12_back 147 = .ok (.iload_n 2, 1) := by decide +kernel
theorem dX12_back_148 : decode cX12_back 148 = .ok (.aload_n 0, 1) := by decide +kernel
theorem dX12_back_149 : decode cX12_back 149 = .ok (.getfield 141, 3) := by decide +kernel
theorem dX12_back_152 : decode cX12_back 152 = .ok (.bipush 20, 2) := by decide +kernel
theorem dX12_back_154 : decode cX12_back 154 = .ok (.iload_n 1, 1) := by decide +kernel
theorem dX12_back_155 : decode cX12_back 155 = .ok (.imul, 1) := by decide +kernel
theorem dX12_back_156 : decode cX12_back 156 = .ok (.iload_n 2, 1) := by decide +kernel
theorem dX12_back_157 : decode cX12_back 157 = .ok (.iadd, 1) := by decide +kernel
theorem dX12_back_158 : decode cX12_back 158 = .ok (.iaload, 1) := by decide +kernel
theorem dX12_back_159 : decode cX12_back 159 = .ok (.iastore, 1) := by decide +kernel
theorem dX12_back_160 : decode cX12_back 160 = .ok (.iinc 2 1, 3) := by decide +kernel
theorem dX12_back_163 : decode cX12_back 163 = .ok (.goto (-79), 3) := by decide +kernel
theorem dX12_back_166 : decode cX12_back 166 = .ok (.aload_n 0, 1) := by decide +kernel
theorem dX12_back_167 : decode cX12_back 167 = .ok (.invokevirtual 147, 3) := by decide +kernel
theorem dX12_back_170 : decode cX12_back 170 = .ok (.aload_n 0, 1) := by decide +kernel
theorem dX12_back_171 : decode cX12_back 171 = .ok (.getfield 259, 3) := by decide +kernel
theorem dX12_back_174 : decode cX12_back 174 = .ok (.ireturn, 1) := by decide +kernel
theorem dX12_about_0 : decode cX12_about 0 = .ok (.iload_n 1, 1) := by decide +kernel
theorem dX12_about_1 : decode cX12_about 1 = .ok (.tableswitch 102 0 7 #[47, 52, 62, 67, 77, 82, 87, 92], 47) := by decide +kernel
theorem dX12_about_48 : decode cX12_about 48 = .ok (.aload_n 0, 1) := by decide +kernel
theorem dX12_about_49 : decode cX12_about 49 = .ok (.invokevirtual 378, 3) := by decide +kernel
theorem dX12_about_52 : decode cX12_about 52 = .ok (.ireturn, 1) := by decide +kernel
theorem dX12_about_53 : decode cX12_about 53 = .ok (.aload_n 0, 1) := by decide +kernel
theorem dX12_about_54 : decode cX12_about 54 = .ok (.getfield 24, 3) := by decide +kernel
theorem dX12_about_57 : decode cX12_about 57 = .ok (.aload_n 0, 1) := by decide +kernel
theorem dX12_about_58 : decode cX12_about 58 = .ok (.getfield 253, 3) := by decide +kernel
theorem dX12_about_61 : decode cX12_about 61 = .ok (.iaload, 1) := by decide +kernel
theorem dX12_about_62 : decode cX12_about 62 = .ok (.ireturn, 1) := by decide +kernel
theorem dX12_about_63 : decode cX12_about 63 = .ok (.aload_n 0, 1) := by decide +kernel
theorem dX12_about_64 : decode cX12_about 64 = .ok (.invokevirtual 371, 3) := by decide +kernel
theorem dX12_about_67 : decode cX12_about 67 = .ok (.ireturn, 1) := by decide +kernel
theorem dX12_about_68 : decode cX12_about 68 = .ok (.aload_n 0, 1) := by decide +kernel
theorem dX12_about_69 : decode cX12_about 69 = .ok (.getfield 30, 3) := by decide +kernel
theorem dX12_about_72 : decode cX12_about 72 = .ok (.aload_n 0, 1) := by decide +kernel
theorem dX12_about_73 : decode cX12_about 73 = .ok (.getfield 253, 3) := by decide +kernel
theorem dX12_about_76 : decode cX12_about 76 = .ok (.iaload, 1) := by decide +kernel
theorem dX12_about_77 : decode cX12_about 77 = .ok (.ireturn, 1) := by decide +kernel
theorem dX12_about_78 : decode cX12_about 78 = .ok (.aload_n 0, 1) := by decide +kernel
theorem dX12_about_79 : decode cX12_about 79 = .ok (.getfield 259, 3) := by decide +kernel
theorem dX12_about_82 : decode cX12_about 82 = .ok (.ireturn, 1) := by decide +kernel
theorem dX12_about_83 : decode cX12_about 83 = .ok (.aload_n 0, 1) := by decide +kernel
theorem dX12_about_84 : decode cX12_about 84 = .ok (.getfield 472, 3) := by decide +kernel
theorem dX12_about_87 : decode cX12_about 87 = .ok (.ireturn, 1) := by decide +kernel
theorem dX12_about_88 : decode cX12_about 88 = .ok (.aload_n 0, 1) := by decide +kernel
theorem dX12_about_89 : decode cX12_about 89 = .ok (.getfield 244, 3) := by decide +kernel
theorem dX12_about_92 : decode cX12_about 92 = .ok (.ireturn, 1) := by decide +kernel
theorem dX12_about_93 : decode cX12_about 93 = .ok (.aload_n 0, 1) := by decide +kernel
theorem dX12_about_94 : decode cX12_about 94 = .ok (.aload_n 0, 1) := by decide +kernel
theorem dX12_about_95 : decode cX12_about 95 = .ok (.getfield 253, 3) := by decide +kernel
theorem dX12_about_98 : decode cX12_about 98 = .ok (.iconst (-1), 1) := by decide +kernel
theorem dX12_about_99 : decode cX12_about 99 = .ok (.invokevirtual 301, 3) := by decide +kernel
theorem dX12_about_102 : decode cX12_about 102 = .ok (.ireturn, 1) := by decide +kernel
theorem dX12_about_103 : decode cX12_about 103 = .ok (.iconst (-1), 1) := by decide +kernel
theorem dX12_about_104 : decode cX12_about 104 = .ok (.ireturn, 1) := by decide +kernel
theorem dX12_feed_0 : decode cX12_feed 0 = .ok (.aload_n 0, 1) := by decide +kernel
theorem dX12_feed_1 : decode cX12_feed 1 = .ok (.getfield 244, 3) := by decide +kernel
theorem dX12_feed_4 : decode cX12_feed 4 = .ok (.bipush 20, 2) := by decide +kernel
theorem dX12_feed_6 : decode cX12_feed 6 = .ok (.iadd, 1) := by decide +kernel
theorem dX12_feed_7 : decode cX12_feed 7 = .ok (.sipush 1600, 3) := by decide +kernel
theorem dX12_feed_10 : decode cX12_feed 10 = .ok (.if_icmp .le 5, 3) := by decide +kernel
theorem dX12_feed_13 : decode cX12_feed 13 = .ok (.iconst (-1), 1) := by decide +kernel
theorem dX12_feed_14 : decode cX12_feed 14 = .ok (.ireturn, 1) := by decide +kernel
theorem dX12_feed_15 : decode cX12_feed 15 = .ok (.iconst 0, 1) := by decide +kernel
theorem dX12_feed_16 : decode cX12_feed 16 = .ok (.istore 6, 2) := by decide +kernel
theorem dX12_feed_18 : decode cX12_feed 18 = .ok (.iload 6, 2) := by decide +kernel
theorem dX12_feed_20 : decode cX12_feed 20 = .ok (.bipush 20, 2) := by decide +kernel
theorem dX12_feed_22 : decode cX12_feed 22 = .ok (.if_icmp .ge 83, 3) := by decide +kernel
theorem dX12_feed_25 : decode cX12_feed 25 = .ok (.iload 6, 2) := by decide +kernel
theorem dX12_feed_27 : decode cX12_feed 27 = .ok (.iconst 4, 1) := by decide +kernel
theorem dX12_feed_28 : decode cX12_feed 28 = .ok (.if_icmp .ge 7, 3) := by decide +kernel
theorem dX12_feed_31 : decode cX12_feed 31 = .ok (.iload_n 1, 1) := by decide +kernel
theorem dX12_feed_32 : decode cX12_feed 32 = .ok (.goto 39, 3) := by decide +kernel
theorem dX12_feed_35 : decode cX12_feed 35 = .ok (.iload 6, 2) := by decide +kernel
theorem dX12_feed_37 : decode cX12_feed 37 = .ok (.bipush 8, 2) := by decide +kernel
theorem dX12_feed_39 : decode cX12_feed 39 = .ok (.if_icmp .ge 7, 3) := by decide +kernel
theorem dX12_feed_42 : decode cX12_feed 42 = .ok (.iload_n 2, 1) := by decide +kernel
theorem dX12_feed_43 : decode cX12_feed 43 = .ok (.goto 28, 3) := by decide +kernel
theorem dX12_feed_46 : decode cX12_feed 46 = .ok (.iload 6, 2) := by decide +kernel
theorem dX12_feed_48 : decode cX12_feed 48 = .ok (.bipush 12, 2) := by decide +kernel
theorem dX12_feed_50 : decode cX12_feed 50 = .ok (.if_icmp .ge 7, 3) := by decide +kernel
theorem dX12_feed_53 : decode cX12_feed 53 = .ok (.iload_n 3, 1) := by decide +kernel
theorem dX12_feed_54 : decode cX12_feed 54 = .ok (.goto 17, 3) := by decide +kernel
theorem dX12_feed_57 : decode cX12_feed 57 = .ok (.iload 6, 2) := by decide +kernel
theorem dX12_feed_59 : decode cX12_feed 59 = .ok (.bipush 16, 2) := by decide +kernel
theorem dX12_feed_61 : decode cX12_feed 61 = .ok (.if_icmp .ge 8, 3) := by decide +kernel
theorem dX12_feed_64 : decode cX12_feed 64 = .ok (.iload 4, 2) := by decide +kernel
theorem dX12_feed_66 : decode cX12_feed 66 = .ok (.goto 5, 3) := by decide +kernel
theorem dX12_feed_69 : decode cX12_feed 69 = .ok (.iload 5, 2) := by decide +kernel
theorem dX12_feed_71 : decode cX12_feed 71 = .ok (.istore 7, 2) := by decide +kernel
theorem dX12_feed_73 : decode cX12_feed 73 = .ok (.aload_n 0, 1) := by decide +kernel
theorem dX12_feed_74 : decode cX12_feed 74 = .ok (.getfield 7, 3) := by decide +kernel
theorem dX12_feed_77 : decode cX12_feed 77 = .ok (.aload_n 0, 1) := by decide +kernel
theorem dX12_feed_78 : decode cX12_feed 78 = .ok (.getfield 244, 3) := by decide +kernel
theorem dX12_feed_81 : decode cX12_feed 81 = .ok (.iload 6, 2) := by decide +kernel
theorem dX12_feed_83 : decode cX12_feed 83 = .ok (.iadd, 1) := by decide +kernel
theorem dX12_feed_84 : decode cX12_feed 84 = .ok (.iload 7, 2) := by decide +kernel
theorem dX12_feed_86 : decode cX12_feed 86 = .ok (.bipush 24, 2) := by decide +kernel
theorem dX12_feed_88 : decode cX12_feed 88 = .ok (.bipush 8, 2) := by decide +kernel
theorem dX12_feed_90 : decode cX12_feed 90 = .ok (.iload 6, 2) := by decide +kernel
theorem dX12_feed_92 : decode cX12_feed 92 = .ok (.iconst 3, 1) := by decide +kernel
theorem dX12_feed_93 : decode cX12_feed 93 = .ok (.iand, 1) := by decide +kernel
theorem dX12_feed_94 : decode cX12_feed 94 = .ok (.imul, 1) := by decide +kernel
theorem dX12_feed_95 : decode cX12_feed 95 = .ok (.isub, 1) := by decide +kernel
theorem dX12_feed_96 : decode cX12_feed 96 = .ok (.ishr, 1) := by decide +kernel
theorem dX12_feed_97 : decode cX12_feed 97 = .ok (.i2b, 1) := by decide +kernel
theorem dX12_feed_98 : decode cX12_feed 98 = .ok (.bastore, 1) := by decide +kernel
theorem dX12_feed_99 : decode cX12_feed 99 = .ok (.iinc 6 1, 3) := by decide +kernel
theorem dX12_feed_102 : decode cX12_feed 102 = .ok (.goto (-84), 3) := by decide +kernel
theorem dX12_feed_105 : decode cX12_feed 105 = .ok (.aload_n 0, 1) := by decide +kernel
theorem dX12_feed_106 : decode cX12_feed 106 = .ok (.dup, 1) := by decide +kernel
theorem dX12_feed_107 : decode cX12_feed 107 = .ok (.getfield 244, 3) := by decide +kernel
theorem dX12_feed_110 : decode cX12_feed 110 = .ok (.bipush 20, 2) := by decide +kernel
theorem dX12_feed_112 : decode cX12_feed 112 = .ok (.iadd, 1) := by decide +kernel
theorem dX12_feed_113 : decode cX12_feed 113 = .ok (.putfield 244, 3) := by decide +kernel
theorem dX12_feed_116 : decode cX12_feed 116 = .ok (.aload_n 0, 1) := by decide +kernel
theorem dX12_feed_117 : decode cX12_feed 117 = .ok (.getfield 244, 3) := by decide +kernel
theorem dX12_feed_120 : decode cX12_feed 120 = .ok (.ireturn, 1) := by decide +kernel
theorem dX12_end_0 : decode cX12_end 0 = .ok (.iload_n 1, 1) := by decide +kernel
theorem dX12_end_1 : decode cX12_end 1 = .ok (.ifCond .lt 11, 3) := by decide +kernel
theorem dX12_end_4 : decode cX12_end 4 = .ok (.iload_n 1, 1) := by decide +kernel
theorem dX12_end_5 : decode cX12_end 5 = .ok (.aload_n 0, 1) := by decide +kernel
theorem dX12_end_6 : decode cX12_end 6 = .ok (.getfield 244, 3) := by decide +kernel
theorem dX12_end_9 : decode cX12_end 9 = .ok (.if_icmp .le 5, 3) := by decide +kernel
theorem dX12_end_12 : decode cX12_end 12 = .ok (.iconst (-1), 1) := by decide +kernel
theorem dX12_end_13 : decode cX12_end 13 = .ok (.ireturn, 1) := by decide +kernel
theorem dX12_end_14 : decode cX12_end 14 = .ok (.aload_n 0, 1) := by decide +kernel
theorem dX12_end_15 : decode cX12_end 15 = .ok (.iload_n 1, 1) := by decide +kernel
theorem dX12_end_16 : decode cX12_end 16 = .ok (.putfield 244, 3) := by decide +kernel
theorem dX12_end_19 : decode cX12_end 19 = .ok (.iload_n 1, 1) := by decide +kernel
theorem dX12_end_20 : decode cX12_end 20 = .ok (.ireturn, 1) := by decide +kernel
