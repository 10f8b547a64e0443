theorem dX12_init_0 : decode cX12_init 0 = .ok (.aload_n 0, 1) := by decide +kernel
theorem dX12_init_1 : decode cX12_init 1 = .ok (.invokespecial 1, 3) := by decide +kernel
theorem dX12_init_4 : decode cX12_init 4 = .ok (.aload_n 0, 1) := by decide +kernel
theorem dX12_init_5 : decode cX12_init 5 = .ok (.bipush 21, 2) := by decide +kernel
theorem dX12_init_7 : decode cX12_init 7 = .ok (.newarray .int, 2) := by decide +kernel
theorem dX12_init_9 : decode cX12_init 9 = .ok (.putfield 7, 3) := by decide +kernel
theorem dX12_init_12 : decode cX12_init 12 = .ok (.aload_n 0, 1) := by decide +kernel
theorem dX12_init_13 : decode cX12_init 13 = .ok (.bipush 21, 2) := by decide +kernel
theorem dX12_init_15 : decode cX12_init 15 = .ok (.newarray .int, 2) := by decide +kernel
theorem dX12_init_17 : decode cX12_init 17 = .ok (.putfield 13, 3) := by decide +kernel
theorem dX12_init_20 : decode cX12_init 20 = .ok (.aload_n 0, 1) := by decide +kernel
theorem dX12_init_21 : decode cX12_init 21 = .ok (.bipush 21, 2) := by decide +kernel
theorem dX12_init_23 : decode cX12_init 23 = .ok (.newarray .int, 2) := by decide +kernel
theorem dX12_init_25 : decode cX12_init 25 = .ok (.putfield 16, 3) := by decide +kernel
theorem dX12_init_28 : decode cX12_init 28 = .ok (.aload_n 0, 1) := by decide +kernel
theorem dX12_init_29 : decode cX12_init 29 = .ok (.bipush 12, 2) := by decide +kernel
theorem dX12_init_31 : decode cX12_init 31 = .ok (.newarray .int, 2) := by decide +kernel
theorem dX12_init_33 : decode cX12_init 33 = .ok (.putfield 19, 3) := by decide +kernel
theorem dX12_init_36 : decode cX12_init 36 = .ok (.aload_n 0, 1) := by decide +kernel
theorem dX12_init_37 : decode cX12_init 37 = .ok (.bipush 16, 2) := by decide +kernel
theorem dX12_init_39 : decode cX12_init 39 = .ok (.newarray .int, 2) := by decide +kernel
theorem dX12_init_41 : decode cX12_init 41 = .ok (.putfield 22, 3) := by decide +kernel
theorem dX12_init_44 : decode cX12_init 44 = .ok (.aload_n 0, 1) := by decide +kernel
theorem dX12_init_45 : decode cX12_init 45 = .ok (.bipush 16, 2) := by decide +kernel
theorem dX12_init_47 : decode cX12_init 47 = .ok (.newarray .int, 2) := by decide +kernel
theorem dX12_init_49 : decode cX12_init 49 = .ok (.putfield 25, 3) := by decide +kernel
theorem dX12_init_52 : decode cX12_init 52 = .ok (.aload_n 0, 1) := by decide +kernel
theorem dX12_init_53 : decode cX12_init 53 = .ok (.bipush 16, 2) := by decide +kernel
theorem dX12_init_55 : decode cX12_init 55 = .ok (.newarray .int, 2) := by decide +kernel
theorem dX12_init_57 : decode cX12_init 57 = .ok (.putfield 28, 3) := by decide +kernel
theorem dX12_init_60 : decode cX12_init 60 = .ok (.aload_n 0, 1) := by decide +kernel
theorem dX12_init_61 : decode cX12_init 61 = .ok (.bipush 16, 2) := by decide +kernel
theorem dX12_init_63 : decode cX12_init 63 = .ok (.newarray .int, 2) := by decide +kernel
theorem dX12_init_65 : decode cX12_init 65 = .ok (.putfield 31, 3) := by decide +kernel
theorem dX12_init_68 : decode cX12_init 68 = .ok (.aload_n 0, 1) := by decide +kernel
theorem dX12_init_69 : decode cX12_init 69 = .ok (.sipush 260, 3) := by decide +kernel
theorem dX12_init_72 : decode cX12_init 72 = .ok (.newarray .byte, 2) := by decide +kernel
theorem dX12_init_74 : decode cX12_init 74 = .ok (.putfield 34, 3) := by decide +kernel
theorem dX12_init_77 : decode cX12_init 77 = .ok (.aload_n 0, 1) := by decide +kernel
theorem dX12_init_78 : decode cX12_init 78 = .ok (.sipush 260, 3) := by decide +kernel
theorem dX12_init_81 : decode cX12_init 81 = .ok (.newarray .int, 2) := by decide +kernel
theorem dX12_init_83 : decode cX12_init 83 = .ok (.putfield 38, 3) := by decide +kernel
theorem dX12_init_86 : decode cX12_init 86 = .ok (.aload_n 0, 1) := by decide +kernel
theorem dX12_init_87 : decode cX12_init 87 = .ok (.sipush 260, 3) := by decide +kernel
theorem dX12_init_90 : decode cX12_init 90 = .ok (.newarray .int, 2) := by decide +kernel
theorem dX12_init_92 : decode cX12_init 92 = .ok (.putfield 41, 3) := by decide +kernel
theorem dX12_init_95 : decode cX12_init 95 = .ok (.aload_n 0, 1) := by decide +kernel
theorem dX12_init_96 : decode cX12_init 96 = .ok (.bipush 16, 2) := by decide +kernel
theorem dX12_init_98 : decode cX12_init 98 = .ok (.newarray .int, 2) := by decide +kernel
theorem dX12_init_100 : decode cX12_init 100 = .ok (.putfield 44, 3) := by decide +kernel
theorem dX12_init_103 : decode cX12_init 103 = .ok (.aload_n 0, 1) := by decide +kernel
theorem dX12_init_104 : decode cX12_init 104 = .ok (.bipush 16, 2) := by decide +kernel
theorem dX12_init_106 : decode cX12_init 106 = .ok (.newarray .int, 2) := by decide +kernel
theorem dX12_init_108 : decode cX12_init 108 = .ok (.putfield 47, 3) := by decide +kernel
theorem dX12_init_111 : decode cX12_init 111 = .ok (.aload_n 0, 1) := by decide +kernel
theorem dX12_init_112 : decode cX12_init 112 = .ok (.bipush 16, 2) := by decide +kernel
theorem dX12_init_114 : decode cX12_init 114 = .ok (.newarray .int, 2) := by decide +kernel
theorem dX12_init_116 : decode cX12_init 116 = .ok (.putfield 50, 3) := by decide +kernel
theorem dX12_init_119 : decode cX12_init 119 = .ok (.aload_n 0, 1) := by decide +kernel
theorem dX12_init_120 : decode cX12_init 120 = .ok (.bipush 16, 2) := by decide +kernel
theorem dX12_init_122 : decode cX12_init 122 = .ok (.newarray .int, 2) := by decide +kernel
theorem dX12_init_124 : decode cX12_init 124 = .ok (.putfield 53, 3) := by decide +kernel
theorem dX12_init_127 : decode cX12_init 127 = .ok (.aload_n 0, 1) := by decide +kernel
theorem dX12_init_128 : decode cX12_init 128 = .ok (.sipush 260, 3) := by decide +kernel
theorem dX12_init_131 : decode cX12_init 131 = .ok (.newarray .int, 2) := by decide +kernel
theorem dX12_init_133 : decode cX12_init 133 = .ok (.putfield 56, 3) := by decide +kernel
theorem dX12_init_136 : decode cX12_init 136 = .ok (.aload_n 0, 1) := by decide +kernel
theorem dX12_init_137 : decode cX12_init 137 = .ok (.bipush 16, 2) := by decide +kernel
theorem dX12_init_139 : decode cX12_init 139 = .ok (.newarray .int, 2) := by decide +kernel
theorem dX12_init_141 : decode cX12_init 141 = .ok (.putfield 59, 3) := by decide +kernel
theorem dX12_init_144 : decode cX12_init 144 = .ok (.aload_n 0, 1) := by decide +kernel
theorem dX12_init_145 : decode cX12_init 145 = .ok (.bipush 16, 2) := by decide +kernel
theorem dX12_init_147 : decode cX12_init 147 = .ok (.newarray .int, 2) := by decide +kernel
theorem dX12_init_149 : decode cX12_init 149 = .ok (.putfield 62, 3) := by decide +kernel
theorem dX12_init_152 : decode cX12_init 152 = .ok (.aload_n 0, 1) := by decide +kernel
theorem dX12_init_153 : decode cX12_init 153 = .ok (.bipush 16, 2) := by decide +kernel
theorem dX12_init_155 : decode cX12_init 155 = .ok (.newarray .int, 2) := by decide +kernel
theorem dX12_init_157 : decode cX12_init 157 = .ok (.putfield 65, 3) := by decide +kernel
theorem dX12_init_160 : decode cX12_init 160 = .ok (.aload_n 0, 1) := by decide +kernel
theorem dX12_init_161 : decode cX12_init 161 = .ok (.bipush 16, 2) := by decide +kernel
theorem dX12_init_163 : decode cX12_init 163 = .ok (.newarray .int, 2) := by decide +kernel
theorem dX12_init_165 : decode cX12_init 165 = .ok (.putfield 68, 3) := by decide +kernel
theorem dX12_init_168 : decode cX12_init 168 = .ok (.aload_n 0, 1) := by decide +kernel
theorem dX12_init_169 : decode cX12_init 169 = .ok (.sipush 260, 3) := by decide +kernel
theorem dX12_init_172 : decode cX12_init 172 = .ok (.newarray .int, 2) := by decide +kernel
theorem dX12_init_174 : decode cX12_init 174 = .ok (.putfield 71, 3) := by decide +kernel
theorem dX12_init_177 : decode cX12_init 177 = .ok (.aload_n 0, 1) := by decide +kernel
theorem dX12_init_178 : decode cX12_init 178 = .ok (.bipush 9, 2) := by decide +kernel
theorem dX12_init_180 : decode cX12_init 180 = .ok (.newarray .int, 2) := by decide +kernel
theorem dX12_init_182 : decode cX12_init 182 = .ok (.putfield 74, 3) := by decide +kernel
theorem dX12_init_185 : decode cX12_init 185 = .ok (.aload_n 0, 1) := by decide +kernel
theorem dX12_init_186 : decode cX12_init 186 = .ok (.bipush 16, 2) := by decide +kernel
theorem dX12_init_188 : decode cX12_init 188 = .ok (.newarray .int, 2) := by decide +kernel
theorem dX12_init_190 : decode cX12_init 190 = .ok (.putfield 77, 3) := by decide +kernel
theorem dX12_init_193 : decode cX12_init 193 = .ok (.aload_n 0, 1) := by decide +kernel
theorem dX12_init_194 : decode cX12_init 194 = .ok (.bipush 16, 2) := by decide +kernel
theorem dX12_init_196 : decode cX12_init 196 = .ok (.newarray .int, 2) := by decide +kernel
theorem dX12_init_198 : decode cX12_init 198 = .ok (.putfield 80, 3) := by decide +kernel
theorem dX12_init_201 : decode cX12_init 201 = .ok (.aload_n 0, 1) := by decide +kernel
theorem dX12_init_202 : decode cX12_init 202 = .ok (.bipush 16, 2) := by decide +kernel
theorem dX12_init_204 : decode cX12_init 204 = .ok (.newarray .int, 2) := by decide +kernel
theorem dX12_init_206 : decode cX12_init 206 = .ok (.putfield 83, 3) := by decide +kernel
theorem dX12_init_209 : decode cX12_init 209 = .ok (.aload_n 0, 1) := by decide +kernel
theorem dX12_init_210 : decode cX12_init 210 = .ok (.bipush 16, 2) := by decide +kernel
theorem dX12_init_212 : decode cX12_init 212 = .ok (.newarray .int, 2) := by decide +kernel
theorem dX12_init_214 : decode cX12_init 214 = .ok (.putfield 86, 3) := by decide +kernel
theorem dX12_init_217 : decode cX12_init 217 = .ok (.aload_n 0, 1) := by decide +kernel
theorem dX12_init_218 : decode cX12_init 218 = .ok (.bipush 12, 2) := by decide +kernel
theorem dX12_init_220 : decode cX12_init 220 = .ok (.newarray .int, 2) := by decide +kernel
theorem dX12_init_222 : decode cX12_init 222 = .ok (.putfield 89, 3) := by decide +kernel
theorem dX12_init_225 : decode cX12_init 225 = .ok (.aload_n 0, 1) := by decide +kernel
theorem dX12_init_226 : decode cX12_init 226 = .ok (.bipush 12, 2) := by decide +kernel
theorem dX12_init_228 : decode cX12_init 228 = .ok (.newarray .int, 2) := by decide +kernel
theorem dX12_init_230 : decode cX12_init 230 = .ok (.putfield 92, 3) := by decide +kernel
theorem dX12_init_233 : decode cX12_init 233 = .ok (.aload_n 0, 1) := by decide +kernel
theorem dX12_init_234 : decode cX12_init 234 = .ok (.iconst 2, 1) := by decide +kernel
theorem dX12_init_235 : decode cX12_init 235 = .ok (.newarray .int, 2) := by decide +kernel
theorem dX12_init_237 : decode cX12_init 237 = .ok (.putfield 95, 3) := by decide +kernel
theorem dX12_init_240 : decode cX12_init 240 = .ok (.aload_n 0, 1) := by decide +kernel
theorem dX12_init_241 : decode cX12_init 241 = .ok (.iconst 2, 1) := by decide +kernel
theorem dX12_init_242 : decode cX12_init 242 = .ok (.newarray .int, 2) := by decide +kernel
theorem dX12_init_244 : decode cX12_init 244 = .ok (.putfield 98, 3) := by decide +kernel
theorem dX12_init_247 : decode cX12_init 247 = .ok (.aload_n 0, 1) := by decide +kernel
theorem dX12_init_248 : decode cX12_init 248 = .ok (.iconst 2, 1) := by decide +kernel
theorem dX12_init_249 : decode cX12_init 249 = .ok (.newarray .int, 2) := by decide +kernel
theorem dX12_init_251 : decode cX12_init 251 = .ok (.putfield 101, 3) := by decide +kernel
theorem dX12_init_254 : decode cX12_init 254 = .ok (.aload_n 0, 1) := by decide +kernel
theorem dX12_init_255 : decode cX12_init 255 = .ok (.sipush 1088, 3) := by decide +kernel
theorem dX12_init_258 : decode cX12_init 258 = .ok (.newarray .int, 2) := by decide +kernel
theorem dX12_init_260 : decode cX12_init 260 = .ok (.putfield 104, 3) := by decide +kernel
theorem dX12_init_263 : decode cX12_init 263 = .ok (.aload_n 0, 1) := by decide +kernel
theorem dX12_init_264 : decode cX12_init 264 = .ok (.sipush 1088, 3) := by decide +kernel
theorem dX12_init_267 : decode cX12_init 267 = .ok (.newarray .int, 2) := by decide +kernel
theorem dX12_init_269 : decode cX12_init 269 = .ok (.putfield 107, 3) := by decide +kernel
theorem dX12_init_272 : decode cX12_init 272 = .ok (.aload_n 0, 1) := by decide +kernel
theorem dX12_init_273 : decode cX12_init 273 = .ok (.bipush 16, 2) := by decide +kernel
theorem dX12_init_275 : decode cX12_init 275 = .ok (.newarray .int, 2) := by decide +kernel
theorem dX12_init_277 : decode cX12_init 277 = .ok (.putfield 110, 3) := by decide +kernel
theorem dX12_init_280 : decode cX12_init 280 = .ok (.aload_n 0, 1) := by decide +kernel
theorem dX12_init_281 : decode cX12_init 281 = .ok (.ldc 113, 2) := by decide +kernel
theorem dX12_init_283 : decode cX12_init 283 = .ok (.newarray .int, 2) := by decide +kernel
theorem dX12_init_285 : decode cX12_init 285 = .ok (.putfield 114, 3) := by decide +kernel
theorem dX12_init_288 : decode cX12_init 288 = .ok (.aload_n 0, 1) := by decide +kernel
theorem dX12_init_289 : decode cX12_init 289 = .ok (.sipush 144, 3) := by decide +kernel
theorem dX12_init_292 : decode cX12_init 292 = .ok (.newarray .int, 2) := by decide +kernel
theorem dX12_init_294 : decode cX12_init 294 = .ok (.putfield 117, 3) := by decide +kernel
theorem dX12_init_297 : decode cX12_init 297 = .ok (.aload_n 0, 1) := by decide +kernel
theorem dX12_init_298 : decode cX12_init 298 = .ok (.sipush 256, 3) := by decide +kernel
theorem dX12_init_301 : decode cX12_init 301 = .ok (.newarray .int, 2) := by decide +kernel
theorem dX12_init_303 : decode cX12_init 303 = .ok (.putfield 120, 3) := by decide +kernel
theorem dX12_init_306 : decode cX12_init 306 = .ok (.aload_n 0, 1) := by decide +kernel
theorem dX12_init_307 : decode cX12_init 307 = .ok (.bipush 13, 2) := by decide +kernel
theorem dX12_init_309 : decode cX12_init 309 = .ok (.newarray .long, 2) := by decide +kernel
theorem dX12_init_311 : decode cX12_init 311 = .ok (.putfield 123, 3) := by decide +kernel
theorem dX12_init_314 : decode cX12_init 314 = .ok (.aload_n 0, 1) := by decide +kernel
theorem dX12_init_315 : decode cX12_init 315 = .ok (.bipush 13, 2) := by decide +kernel
theorem dX12_init_317 : decode cX12_init 317 = .ok (.newarray .long, 2) := by decide +kernel
theorem dX12_init_319 : decode cX12_init 319 = .ok (.putfield 127, 3) := by decide +kernel
theorem dX12_init_322 : decode cX12_init 322 = .ok (.aload_n 0, 1) := by decide +kernel
theorem dX12_init_323 : decode cX12_init 323 = .ok (.getfield 7, 3) := by decide +kernel
theorem dX12_init_326 : decode cX12_init 326 = .ok (.bipush 20, 2) := by decide +kernel
theorem dX12_init_328 : decode cX12_init 328 = .ok (.iconst 1, 1) := by decide +kernel
theorem dX12_init_329 : decode cX12_init 329 = .ok (.iastore, 1) := by decide +kernel
theorem dX12_init_330 : decode cX12_init 330 = .ok (.aload_n 0, 1) := by decide +kernel
theorem dX12_init_331 : decode cX12_init 331 = .ok (.getfield 7, 3) := by decide +kernel
theorem dX12_init_334 : decode cX12_init 334 = .ok (.bipush 16, 2) := by decide +kernel
theorem dX12_init_336 : decode cX12_init 336 = .ok (.iconst (-1), 1) := by decide +kernel
theorem dX12_init_337 : decode cX12_init 337 = .ok (.iastore, 1) := by decide +kernel
theorem dX12_init_338 : decode cX12_init 338 = .ok (.iconst 0, 1) := by decide +kernel
theorem dX12_init_339 : decode cX12_init 339 = .ok (.istore_n 1, 1) := by decide +kernel
theorem dX12_init_340 : decode cX12_init 340 = .ok (.iload_n 1, 1) := by decide +kernel
theorem dX12_init_341 : decode cX12_init 341 = .ok (.bipush 12, 2) := by decide +kernel
theorem dX12_init_343 : decode cX12_init 343 = .ok (.if_icmp .ge 16, 3) := by decide +kernel
theorem dX12_init_346 : decode cX12_init 346 = .ok (.aload_n 0, 1) := by decide +kernel
theorem dX12_init_347 : decode cX12_init 347 = .ok (.getfield 19, 3) := by decide +kernel
theorem dX12_init_350 : decode cX12_init 350 = .ok (.iload_n 1, 1) := by decide +kernel
theorem dX12_init_351 : decode cX12_init 351 = .ok (.iconst (-1), 1) := by decide +kernel
theorem dX12_init_352 : decode cX12_init 352 = .ok (.iastore, 1) := by decide +kernel
theorem dX12_init_353 : decode cX12_init 353 = .ok (.iinc 1 1, 3) := by decide +kernel
theorem dX12_init_356 : decode cX12_init 356 = .ok (.goto (-16), 3) := by decide +kernel
theorem dX12_init_359 : decode cX12_init 359 = .ok (.return_, 1) := by decide +kernel
theorem dX12_in_0 : decode cX12_in 0 = .ok (.iload_n 0, 1) := by decide +kernel
theorem dX12_in_1 : decode cX12_in 1 = .ok (.iload_n 1, 1) := by decide +kernel
theorem dX12_in_2 : decode cX12_in 2 = .ok (.if_icmp .lt 12, 3) := by decide +kernel
theorem dX12_in_5 : decode cX12_in 5 = .ok (.iload_n 0, 1) := by decide +kernel
theorem dX12_in_6 : decode cX12_in 6 = .ok (.iload_n 2, 1) := by decide +kernel
theorem dX12_in_7 : decode cX12_in 7 = .ok (.if_icmp .gt 7, 3) := by decide +kernel
theorem dX12_in_10 : decode cX12_in 10 = .ok (.iconst 1, 1) := by decide +kernel
theorem dX12_in_11 : decode cX12_in 11 = .ok (.goto 4, 3) := by decide +kernel
theorem dX12_in_14 : decode cX12_in 14 = .ok (.iconst 0, 1) := by decide +kernel
theorem dX12_in_15 : decode cX12_in 15 = .ok (.ireturn, 1) := by decide +kernel
theorem dX12_min_0 : decode cX12_min 0 = .ok (.iload_n 0, 1) := by decide +kernel
theorem dX12_min_1 : decode cX12_min 1 = .ok (.iload_n 1, 1) := by decide +kernel
theorem dX12_min_2 : decode cX12_min 2 = .ok (.if_icmp .ge 7, 3) := by decide +kernel
theorem dX12_min_5 : decode cX12_min 5 = .ok (.iload_n 0, 1) := by decide +kernel
theorem dX12_min_6 : decode cX12_min 6 = .ok (.goto 4, 3) := by decide +kernel
theorem dX12_min_9 : decode cX12_min 9 = .ok (.iload_n 1, 1) := by decide +kernel
theorem dX12_min_10 : decode cX12_min 10 = .ok (.ireturn, 1) := by decide +kernel
theorem dX12_max_0 : decode cX12_max 0 = .ok (.iload_n 0, 1) := by decide +kernel
theorem dX12_max_1 : decode cX12_max 1 = .ok (.iload_n 1, 1) := by decide +kernel
theorem dX12_max_2 : decode cX12_max 2 = .ok (.if_icmp .le 7, 3) := by decide +kernel
theorem dX12_max_5 : decode cX12_max 5 = .ok (.iload_n 0, 1) := by decide +kernel
theorem dX12_max_6 : decode cX12_max 6 = .ok (.goto 4, 3) := by decide +kernel
theorem dX12_max_9 : decode cX12_max 9 = .ok (.iload_n 1, 1) := by decide +kernel
theorem dX12_max_10 : decode cX12_max 10 = .ok (.ireturn, 1) := by decide +kernel
theorem dX12_size_0 : decode cX12_size 0 = .ok (.iload_n 0, 1) := by decide +kernel
theorem dX12_size_1 : decode cX12_size 1 = .ok (.ifCond .ge 8, 3) := by decide +kernel
theorem dX12_size_4 : decode cX12_size 4 = .ok (.iload_n 0, 1) := by decide +kernel
theorem dX12_size_5 : decode cX12_size 5 = .ok (.ineg, 1) := by decide +kernel
theorem dX12_size_6 : decode cX12_size 6 = .ok (.goto 4, 3) := by decide +kernel
theorem dX12_size_9 : decode cX12_size 9 = .ok (.iload_n 0, 1) := by decide +kernel
theorem dX12_size_10 : decode cX12_size 10 = .ok (.ireturn, 1) := by decide +kernel
theorem dX12_has_0 : decode cX12_has 0 = .ok (.iload_n 0, 1) := by decide +kernel
theorem dX12_has_1 : decode cX12_has 1 = .ok (.iload_n 1, 1) := by decide +kernel
theorem dX12_has_2 : decode cX12_has 2 = .ok (.ishr, 1) := by decide +kernel
theorem dX12_has_3 : decode cX12_has 3 = .ok (.iconst 1, 1) := by decide +kernel
theorem dX12_has_4 : decode cX12_has 4 = .ok (.iand, 1) := by decide +kernel
theorem dX12_has_5 : decode cX12_has 5 = .ok (.iconst 1, 1) := by decide +kernel
theorem dX12_has_6 : decode cX12_has 6 = .ok (.if_icmp .ne 7, 3) := by decide +kernel
theorem dX12_has_9 : decode cX12_has 9 = .ok (.iconst 1, 1) := by decide +kernel
theorem dX12_has_10 : decode cX12_has 10 = .ok (.goto 4, 3) := by decide +kernel
theorem dX12_has_13 : decode cX12_has 13 = .ok (.iconst 0, 1) := by decide +kernel
theorem dX12_has_14 : decode cX12_has 14 = .ok (.ireturn, 1) := by decide +kernel
theorem dX12_bits_0 : decode cX12_bits 0 = .ok (.iconst 0, 1) := by decide +kernel
theorem dX12_bits_1 : decode cX12_bits 1 = .ok (.istore_n 1, 1) := by decide +kernel
theorem dX12_bits_2 : decode cX12_bits 2 = .ok (.iconst 0, 1) := by decide +kernel
theorem dX12_bits_3 : decode cX12_bits 3 = .ok (.istore_n 2, 1) := by decide +kernel
theorem dX12_bits_4 : decode cX12_bits 4 = .ok (.iload_n 2, 1) := by decide +kernel
theorem dX12_bits_5 : decode cX12_bits 5 = .ok (.bipush 16, 2) := by decide +kernel
theorem dX12_bits_7 : decode cX12_bits 7 = .ok (.if_icmp .ge 17, 3) := by decide +kernel
theorem dX12_bits_10 : decode cX12_bits 10 = .ok (.iload_n 1, 1) := by decide +kernel
theorem dX12_bits_11 : decode cX12_bits 11 = .ok (.iload_n 0, 1) := by decide +kernel
theorem dX12_bits_12 : decode cX12_bits 12 = .ok (.iload_n 2, 1) := by decide +kernel
theorem dX12_bits_13 : decode cX12_bits 13 = .ok (.ishr, 1) := by decide +kernel
theorem dX12_bits_14 : decode cX12_bits 14 = .ok (.iconst 1, 1) := by decide +kernel
theorem dX12_bits_15 : decode cX12_bits 15 = .ok (.iand, 1) := by decide +kernel
theorem dX12_bits_16 : decode cX12_bits 16 = .ok (.iadd, 1) := by decide +kernel
theorem dX12_bits_17 : decode cX12_bits 17 = .ok (.istore_n 1, 1) := by decide +kernel
theorem dX12_bits_18 : decode cX12_bits 18 = .ok (.iinc 2 1, 3) := by decide +kernel
theorem dX12_bits_21 : decode cX12_bits 21 = .ok (.goto (-17), 3) := by decide +kernel
theorem dX12_bits_24 : decode cX12_bits 24 = .ok (.iload_n 1, 1) := by decide +kernel
theorem dX12_bits_25 : decode cX12_bits 25 = .ok (.ireturn, 1) := by decide +kernel
theorem dX12_lowest_0 : decode cX12_lowest 0 = .ok (.iconst 0, 1) := by decide +kernel
theorem dX12_lowest_1 : decode cX12_lowest 1 = .ok (.istore_n 1, 1) := by decide +kernel
theorem dX12_lowest_2 : decode cX12_lowest 2 = .ok (.iload_n 0, 1) := by decide +kernel
theorem dX12_lowest_3 : decode cX12_lowest 3 = .ok (.iload_n 1, 1) := by decide +kernel
theorem dX12_lowest_4 : decode cX12_lowest 4 = .ok (.invokestatic 130, 3) := by decide +kernel
theorem dX12_lowest_7 : decode cX12_lowest 7 = .ok (.ifCond .ne 10, 3) := by decide +kernel
theorem dX12_lowest_10 : decode cX12_lowest 10 = .ok (.iload_n 1, 1) := by decide +kernel
theorem dX12_lowest_11 : decode cX12_lowest 11 = .ok (.iconst 1, 1) := by decide +kernel
theorem dX12_lowest_12 : decode cX12_lowest 12 = .ok (.iadd, 1) := by decide +kernel
theorem dX12_lowest_13 : decode cX12_lowest 13 = .ok (.istore_n 1, 1) := by decide +kernel
theorem dX12_lowest_14 : decode cX12_lowest 14 = .ok (.goto (-12), 3) := by decide +kernel
theorem dX12_lowest_17 : decode cX12_lowest 17 = .ok (.iload_n 1, 1) := by decide +kernel
theorem dX12_lowest_18 : decode cX12_lowest 18 = .ok (.ireturn, 1) := by decide +kernel
theorem dX12_copies_0 : decode cX12_copies 0 = .ok (.iconst 0, 1) := by decide +kernel
theorem dX12_copies_1 : decode cX12_copies 1 = .ok (.istore_n 2, 1) := by decide +kernel
theorem dX12_copies_2 : decode cX12_copies 2 = .ok (.iload_n 2, 1) := by decide +kernel
theorem dX12_copies_3 : decode cX12_copies 3 = .ok (.bipush 21, 2) := by decide +kernel
theorem dX12_copies_5 : decode cX12_copies 5 = .ok (.if_icmp .ge 15, 3) := by decide +kernel
theorem dX12_copies_8 : decode cX12_copies 8 = .ok (.aload_n 1, 1) := by decide +kernel
theorem dX12_copies_9 : decode cX12_copies 9 = .ok (.iload_n 2, 1) := by decide +kernel
theorem dX12_copies_10 : decode cX12_copies 10 = .ok (.aload_n 0, 1) := by decide +kernel
theorem dX12_copies_11 : decode cX12_copies 11 = .ok (.iload_n 2, 1) := by decide +kernel
theorem dX12_copies_12 : decode cX12_copies 12 = .ok (.iaload, 1) := by decide +kernel
theorem dX12_copies_13 : decode cX12_copies 13 = .ok (.iastore, 1) := by decide +kernel
theorem dX12_copies_14 : decode cX12_copies 14 = .ok (.iinc 2 1, 3) := by decide +kernel
theorem dX12_copies_17 : decode cX12_copies 17 = .ok (.goto (-15), 3) := by decide +kernel
theorem dX12_copies_20 : decode cX12_copies 20 = .ok (.return_, 1) := by decide +kernel
theorem dX12_isHouse_0 : decode cX12_isHouse 0 = .ok (.iload_n 1, 1) := by decide +kernel
theorem dX12_isHouse_1 : decode cX12_isHouse 1 = .ok (.iconst 0, 1) := by decide +kernel
theorem dX12_isHouse_2 : decode cX12_isHouse 2 = .ok (.bipush 15, 2) := by decide +kernel
theorem dX12_isHouse_4 : decode cX12_isHouse 4 = .ok (.invokestatic 134, 3) := by decide +kernel
theorem dX12_isHouse_7 : decode cX12_isHouse 7 = .ok (.ifCond .eq 18, 3) := by decide +kernel
theorem dX12_isHouse_10 : decode cX12_isHouse 10 = .ok (.aload_n 0, 1) := by decide +kernel
theorem dX12_isHouse_11 : decode cX12_isHouse 11 = .ok (.getfield 138, 3) := by decide +kernel
theorem dX12_isHouse_14 : decode cX12_isHouse 14 = .ok (.iload_n 1, 1) := by decide +kernel
theorem dX12_isHouse_15 : decode cX12_isHouse 15 = .ok (.invokestatic 130, 3) := by decide +kernel
theorem dX12_isHouse_18 : decode cX12_isHouse 18 = .ok (.ifCond .eq 7, 3) := by decide +kernel
theorem dX12_isHouse_21 : decode cX12_isHouse 21 = .ok (.iconst 1, 1) := by decide +kernel
theorem dX12_isHouse_22 : decode cX12_isHouse 22 = .ok (.goto 4, 3) := by decide +kernel
theorem dX12_isHouse_25 : decode cX12_isHouse 25 = .ok (.iconst 0, 1) := by decide +kernel
theorem dX12_isHouse_26 : decode cX12_isHouse 26 = .ok (.ireturn, 1) := by decide +kernel
theorem dX12_isThing_0 : decode cX12_isThing 0 = .ok (.iload_n 1, 1) := by decide +kernel
theorem dX12_isThing_1 : decode cX12_isThing 1 = .ok (.iconst 0, 1) := by decide +kernel
theorem dX12_isThing_2 : decode cX12_isThing 2 = .ok (.bipush 15, 2) := by decide +kernel
theorem dX12_isThing_4 : decode cX12_isThing 4 = .ok (.invokestatic 134, 3) := by decide +kernel
theorem dX12_isThing_7 : decode cX12_isThing 7 = .ok (.ifCond .eq 18, 3) := by decide +kernel
theorem dX12_isThing_10 : decode cX12_isThing 10 = .ok (.aload_n 0, 1) := by decide +kernel
theorem dX12_isThing_11 : decode cX12_isThing 11 = .ok (.getfield 142, 3) := by decide +kernel
theorem dX12_isThing_14 : decode cX12_isThing 14 = .ok (.iload_n 1, 1) := by decide +kernel
theorem dX12_isThing_15 : decode cX12_isThing 15 = .ok (.invokestatic 130, 3) := by decide +kernel
theorem dX12_isThing_18 : decode cX12_isThing 18 = .ok (.ifCond .eq 7, 3) := by decide +kernel
theorem dX12_isThing_21 : decode cX12_isThing 21 = .ok (.iconst 1, 1) := by decide +kernel
theorem dX12_isThing_22 : decode cX12_isThing 22 = .ok (.goto 4, 3) := by decide +kernel
theorem dX12_isThing_25 : decode cX12_isThing 25 = .ok (.iconst 0, 1) := by decide +kernel
theorem dX12_isThing_26 : decode cX12_isThing 26 = .ok (.ireturn, 1) := by decide +kernel
theorem dX12_isTurn_0 : decode cX12_isTurn 0 = .ok (.iload_n 0, 1) := by decide +kernel
theorem dX12_isTurn_1 : decode cX12_isTurn 1 = .ok (.iconst 0, 1) := by decide +kernel
theorem dX12_isTurn_2 : decode cX12_isTurn 2 = .ok (.bipush 11, 2) := by decide +kernel
theorem dX12_isTurn_4 : decode cX12_isTurn 4 = .ok (.invokestatic 134, 3) := by decide +kernel
theorem dX12_isTurn_7 : decode cX12_isTurn 7 = .ok (.ireturn, 1) := by decide +kernel
theorem dX12_isSeen_0 : decode cX12_isSeen 0 = .ok (.aload_n 0, 1) := by decide +kernel
theorem dX12_isSeen_1 : decode cX12_isSeen 1 = .ok (.getfield 25, 3) := by decide +kernel
theorem dX12_isSeen_4 : decode cX12_isSeen 4 = .ok (.iload_n 2, 1) := by decide +kernel
theorem dX12_isSeen_5 : decode cX12_isSeen 5 = .ok (.iaload, 1) := by decide +kernel
theorem dX12_isSeen_6 : decode cX12_isSeen 6 = .ok (.aload_n 0, 1) := by decide +kernel
theorem dX12_isSeen_7 : decode cX12_isSeen 7 = .ok (.getfield 22, 3) := by decide +kernel
theorem dX12_isSeen_10 : decode cX12_isSeen 10 = .ok (.iload_n 1, 1) := by decide +kernel
theorem dX12_isSeen_11 : decode cX12_isSeen 11 = .ok (.iaload, 1) := by decide +kernel
theorem dX12_isSeen_12 : decode cX12_isSeen 12 = .ok (.isub, 1) := by decide +kernel
theorem dX12_isSeen_13 : decode cX12_isSeen 13 = .ok (.bipush 12, 2) := by decide +kernel
theorem dX12_isSeen_15 : decode cX12_isSeen 15 = .ok (.iadd, 1) := by decide +kernel
theorem dX12_isSeen_16 : decode cX12_isSeen 16 = .ok (.bipush 12, 2) := by decide +kernel
theorem dX12_isSeen_18 : decode cX12_isSeen 18 = .ok (.irem, 1) := by decide +kernel
theorem dX12_isSeen_19 : decode cX12_isSeen 19 = .ok (.istore 4, 2) := by decide +kernel
theorem dX12_isSeen_21 : decode cX12_isSeen 21 = .ok (.iload 4, 2) := by decide +kernel
theorem dX12_isSeen_23 : decode cX12_isSeen 23 = .ok (.iconst 2, 1) := by decide +kernel
theorem dX12_isSeen_24 : decode cX12_isSeen 24 = .ok (.if_icmp .lt 10, 3) := by decide +kernel
theorem dX12_isSeen_27 : decode cX12_isSeen 27 = .ok (.iload 4, 2) := by decide +kernel
theorem dX12_isSeen_29 : decode cX12_isSeen 29 = .ok (.bipush 11, 2) := by decide +kernel
theorem dX12_isSeen_31 : decode cX12_isSeen 31 = .ok (.if_icmp .ne 7, 3) := by decide +kernel
theorem dX12_isSeen_34 : decode cX12_isSeen 34 = .ok (.iconst 1, 1) := by decide +kernel
theorem dX12_isSeen_35 : decode cX12_isSeen 35 = .ok (.goto 4, 3) := by decide +kernel
theorem dX12_isSeen_38 : decode cX12_isSeen 38 = .ok (.iconst 0, 1) := by decide +kernel
theorem dX12_isSeen_39 : decode cX12_isSeen 39 = .ok (.istore 5, 2) := by decide +kernel
theorem dX12_isSeen_41 : decode cX12_isSeen 41 = .ok (.aload_n 0, 1) := by decide +kernel
theorem dX12_isSeen_42 : decode cX12_isSeen 42 = .ok (.getfield 28, 3) := by decide +kernel
theorem dX12_isSeen_45 : decode cX12_isSeen 45 = .ok (.iload_n 2, 1) := by decide +kernel
theorem dX12_isSeen_46 : decode cX12_isSeen 46 = .ok (.iaload, 1) := by decide +kernel
theorem dX12_isSeen_47 : decode cX12_isSeen 47 = .ok (.aload_n 0, 1) := by decide +kernel
theorem dX12_isSeen_48 : decode cX12_isSeen 48 = .ok (.getfield 31, 3) := by decide +kernel
theorem dX12_isSeen_51 : decode cX12_isSeen 51 = .ok (.iload_n 2, 1) := by decide +kernel
theorem dX12_isSeen_52 : decode cX12_isSeen 52 = .ok (.iaload, 1) := by decide +kernel
theorem dX12_isSeen_53 : decode cX12_isSeen 53 = .ok (.if_icmp .gt 22, 3) := by decide +kernel
theorem dX12_isSeen_56 : decode cX12_isSeen 56 = .ok (.iload_n 3, 1) := by decide +kernel
theorem dX12_isSeen_57 : decode cX12_isSeen 57 = .ok (.aload_n 0, 1) := by decide +kernel
theorem dX12_isSeen_58 : decode cX12_isSeen 58 = .ok (.getfield 28, 3) := by decide +kernel
theorem dX12_isSeen_61 : decode cX12_isSeen 61 = .ok (.iload_n 2, 1) := by decide +kernel
theorem dX12_isSeen_62 : decode cX12_isSeen 62 = .ok (.iaload, 1) := by decide +kernel
theorem dX12_isSeen_63 : decode cX12_isSeen 63 = .ok (.aload_n 0, 1) := by decide +kernel
theorem dX12_isSeen_64 : decode cX12_isSeen 64 = .ok (.getfield 31, 3) := by decide +kernel
theorem dX12_isSeen_67 : decode cX12_isSeen 67 = .ok (.iload_n 2, 1) := by decide +kernel
theorem dX12_isSeen_68 : decode cX12_isSeen 68 = .ok (.iaload, 1) := by decide +kernel
theorem dX12_isSeen_69 : decode cX12_isSeen 69 = .ok (.invokestatic 134, 3) := by decide +kernel
theorem dX12_isSeen_72 : decode cX12_isSeen 72 = .ok (.goto 28, 3) := by decide +kernel
theorem dX12_isSeen_75 : decode cX12_isSeen 75 = .ok (.iload_n 3, 1) := by decide +kernel
theorem dX12_isSeen_76 : decode cX12_isSeen 76 = .ok (.aload_n 0, 1) := by decide +kernel
theorem dX12_isSeen_77 : decode cX12_isSeen 77 = .ok (.getfield 28, 3) := by decide +kernel
theorem dX12_isSeen_80 : decode cX12_isSeen 80 = .ok (.iload_n 2, 1) := by decide +kernel
theorem dX12_isSeen_81 : decode cX12_isSeen 81 = .ok (.iaload, 1) := by decide +kernel
theorem dX12_isSeen_82 : decode cX12_isSeen 82 = .ok (.if_icmp .ge 13, 3) := by decide +kernel
theorem dX12_isSeen_85 : decode cX12_isSeen 85 = .ok (.iload_n 3, 1) := by decide +kernel
theorem dX12_isSeen_86 : decode cX12_isSeen 86 = .ok (.aload_n 0, 1) := by decide +kernel
theorem dX12_isSeen_87 : decode cX12_isSeen 87 = .ok (.getfield 31, 3) := by decide +kernel
theorem dX12_isSeen_90 : decode cX12_isSeen 90 = .ok (.iload_n 2, 1) := by decide +kernel
theorem dX12_isSeen_91 : decode cX12_isSeen 91 = .ok (.iaload, 1) := by decide +kernel
theorem dX12_isSeen_92 : decode cX12_isSeen 92 = .ok (.if_icmp .gt 7, 3) := by decide +kernel
theorem dX12_isSeen_95 : decode cX12_isSeen 95 = .ok (.iconst 1, 1) := by decide +kernel
theorem dX12_isSeen_96 : decode cX12_isSeen 96 = .ok (.goto 4, 3) := by decide +kernel
theorem dX12_isSeen_99 : decode cX12_isSeen 99 = .ok (.iconst 0, 1) := by decide +kernel
theorem dX12_isSeen_100 : decode cX12_isSeen 100 = .ok (.istore 6, 2) := by decide +kernel
theorem dX12_isSeen_102 : decode cX12_isSeen 102 = .ok (.iload 5, 2) := by decide +kernel
theorem dX12_isSeen_104 : decode cX12_isSeen 104 = .ok (.ifCond .eq 12, 3) := by decide +kernel
theorem dX12_isSeen_107 : decode cX12_isSeen 107 = .ok (.iload 6, 2) := by decide +kernel
theorem dX12_isSeen_109 : decode cX12_isSeen 109 = .ok (.ifCond .eq 7, 3) := by decide +kernel
theorem dX12_isSeen_112 : decode cX12_isSeen 112 = .ok (.iconst 1, 1) := by decide +kernel
theorem dX12_isSeen_113 : decode cX12_isSeen 113 = .ok (.goto 4, 3) := by decide +kernel
theorem dX12_isSeen_116 : decode cX12_isSeen 116 = .ok (.iconst 0, 1) := by decide +kernel
theorem dX12_isSeen_117 : decode cX12_isSeen 117 = .ok (.ireturn, 1) := by decide +kernel
theorem dX12_seenBy_0 : decode cX12_seenBy 0 = .ok (.iconst 0, 1) := by decide +kernel
theorem dX12_seenBy_1 : decode cX12_seenBy 1 = .ok (.istore_n 3, 1) := by decide +kernel
theorem dX12_seenBy_2 : decode cX12_seenBy 2 = .ok (.iconst 0, 1) := by decide +kernel
theorem dX12_seenBy_3 : decode cX12_seenBy 3 = .ok (.istore 4, 2) := by decide +kernel
theorem dX12_seenBy_5 : decode cX12_seenBy 5 = .ok (.iload 4, 2) := by decide +kernel
theorem dX12_seenBy_7 : decode cX12_seenBy 7 = .ok (.bipush 16, 2) := by decide +kernel
theorem dX12_seenBy_9 : decode cX12_seenBy 9 = .ok (.if_icmp .ge 36, 3) := by decide +kernel
theorem dX12_seenBy_12 : decode cX12_seenBy 12 = .ok (.aload_n 0, 1) := by decide +kernel
theorem dX12_seenBy_13 : decode cX12_seenBy 13 = .ok (.iload 4, 2) := by decide +kernel
theorem dX12_seenBy_15 : decode cX12_seenBy 15 = .ok (.invokevirtual 145, 3) := by decide +kernel
theorem dX12_seenBy_18 : decode cX12_seenBy 18 = .ok (.ifCond .eq 21, 3) := by decide +kernel
theorem dX12_seenBy_21 : decode cX12_seenBy 21 = .ok (.aload_n 0, 1) := by decide +kernel
theorem dX12_seenBy_22 : decode cX12_seenBy 22 = .ok (.iload_n 1, 1) := by decide +kernel
theorem dX12_seenBy_23 : decode cX12_seenBy 23 = .ok (.iload 4, 2) := by decide +kernel
theorem dX12_seenBy_25 : decode cX12_seenBy 25 = .ok (.iload_n 2, 1) := by decide +kernel
theorem dX12_seenBy_26 : decode cX12_seenBy 26 = .ok (.invokevirtual 149, 3) := by decide +kernel
theorem dX12_seenBy_29 : decode cX12_seenBy 29 = .ok (.ifCond .eq 10, 3) := by decide +kernel
theorem dX12_seenBy_32 : decode cX12_seenBy 32 = .ok (.iload_n 3, 1) := by decide +kernel
theorem dX12_seenBy_33 : decode cX12_seenBy 33 = .ok (.iconst 1, 1) := by decide +kernel
theorem dX12_seenBy_34 : decode cX12_seenBy 34 = .ok (.iload 4, 2) := by decide +kernel
theorem dX12_seenBy_36 : decode cX12_seenBy 36 = .ok (.ishl, 1) := by decide +kernel
theorem dX12_seenBy_37 : decode cX12_seenBy 37 = .ok (.ior, 1) := by decide +kernel
theorem dX12_seenBy_38 : decode cX12_seenBy 38 = .ok (.istore_n 3, 1) := by decide +kernel
theorem dX12_seenBy_39 : decode cX12_seenBy 39 = .ok (.iinc 4 1, 3) := by decide +kernel
theorem dX12_seenBy_42 : decode cX12_seenBy 42 = .ok (.goto (-37), 3) := by decide +kernel
theorem dX12_seenBy_45 : decode cX12_seenBy 45 = .ok (.iload_n 3, 1) := by decide +kernel
theorem dX12_seenBy_46 : decode cX12_seenBy 46 = .ok (.ireturn, 1) := by decide +kernel
theorem dX12_everSeenBy_0 : decode cX12_everSeenBy 0 = .ok (.iconst 0, 1) := by decide +kernel
theorem dX12_everSeenBy_1 : decode cX12_everSeenBy 1 = .ok (.istore_n 2, 1) := by decide +kernel
theorem dX12_everSeenBy_2 : decode cX12_everSeenBy 2 = .ok (.iconst 0, 1) := by decide +kernel
theorem dX12_everSeenBy_3 : decode cX12_everSeenBy 3 = .ok (.istore_n 3, 1) := by decide +kernel
theorem dX12_everSeenBy_4 : decode cX12_everSeenBy 4 = .ok (.iload_n 3, 1) := by decide +kernel
theorem dX12_everSeenBy_5 : decode cX12_everSeenBy 5 = .ok (.bipush 12, 2) := by decide +kernel
theorem dX12_everSeenBy_7 : decode cX12_everSeenBy 7 = .ok (.if_icmp .ge 18, 3) := by decide +kernel
theorem dX12_everSeenBy_10 : decode cX12_everSeenBy 10 = .ok (.iload_n 2, 1) := by decide +kernel
theorem dX12_everSeenBy_11 : decode cX12_everSeenBy 11 = .ok (.aload_n 0, 1) := by decide +kernel
theorem dX12_everSeenBy_12 : decode cX12_everSeenBy 12 = .ok (.iload_n 1, 1) := by decide +kernel
theorem dX12_everSeenBy_13 : decode cX12_everSeenBy 13 = .ok (.iload_n 3, 1) := by decide +kernel
theorem dX12_everSeenBy_14 : decode cX12_everSeenBy 14 = .ok (.invokevirtual 152, 3) := by decide +kernel
theorem dX12_everSeenBy_17 : decode cX12_everSeenBy 17 = .ok (.ior, 1) := by decide +kernel
theorem dX12_everSeenBy_18 : decode cX12_everSeenBy 18 = .ok (.istore_n 2, 1) := by decide +kernel
theorem dX12_everSeenBy_19 : decode cX12_everSeenBy 19 = .ok (.iinc 3 1, 3) := by decide +kernel
theorem dX12_everSeenBy_22 : decode cX12_everSeenBy 22 = .ok (.goto (-18), 3) := by decide +kernel
theorem dX12_everSeenBy_25 : decode cX12_everSeenBy 25 = .ok (.iload_n 2, 1) := by decide +kernel
theorem dX12_everSeenBy_26 : decode cX12_everSeenBy 26 = .ok (.ireturn, 1) := by decide +kernel
theorem dX12_turn_0 : decode cX12_turn 0 = .ok (.iload_n 1, 1) := by decide +kernel
theorem dX12_turn_1 : decode cX12_turn 1 = .ok (.invokestatic 156, 3) := by decide +kernel
theorem dX12_turn_4 : decode cX12_turn 4 = .ok (.ifCond .eq 16, 3) := by decide +kernel
theorem dX12_turn_7 : decode cX12_turn 7 = .ok (.iload_n 2, 1) := by decide +kernel
theorem dX12_turn_8 : decode cX12_turn 8 = .ok (.iconst (-1), 1) := by decide +kernel
theorem dX12_turn_9 : decode cX12_turn 9 = .ok (.if_icmp .eq 13, 3) := by decide +kernel
theorem dX12_turn_12 : decode cX12_turn 12 = .ok (.aload_n 0, 1) := by decide +kernel
theorem dX12_turn_13 : decode cX12_turn 13 = .ok (.iload_n 2, 1) := by decide +kernel
theorem dX12_turn_14 : decode cX12_turn 14 = .ok (.invokevirtual 159, 3) := by decide +kernel
theorem dX12_turn_17 : decode cX12_turn 17 = .ok (.ifCond .ne 5, 3) := by decide +kernel
theorem dX12_turn_20 : decode cX12_turn 20 = .ok (.iconst 0, 1) := by decide +kernel
theorem dX12_turn_21 : decode cX12_turn 21 = .ok (.ireturn, 1) := by decide +kernel
theorem dX12_turn_22 : decode cX12_turn 22 = .ok (.aload_n 0, 1) := by decide +kernel
theorem dX12_turn_23 : decode cX12_turn 23 = .ok (.getfield 19, 3) := by decide +kernel
theorem dX12_turn_26 : decode cX12_turn 26 = .ok (.iload_n 1, 1) := by decide +kernel
theorem dX12_turn_27 : decode cX12_turn 27 = .ok (.iload_n 2, 1) := by decide +kernel
theorem dX12_turn_28 : decode cX12_turn 28 = .ok (.iastore, 1) := by decide +kernel
theorem dX12_turn_29 : decode cX12_turn 29 = .ok (.iconst 1, 1) := by decide +kernel
theorem dX12_turn_30 : decode cX12_turn 30 = .ok (.ireturn, 1) := by decide +kernel
theorem dX12_sees_0 : decode cX12_sees 0 = .ok (.aload_n 0, 1) := by decide +kernel
theorem dX12_sees_1 : decode cX12_sees 1 = .ok (.iload_n 1, 1) := by decide +kernel
theorem dX12_sees_2 : decode cX12_sees 2 = .ok (.invokevirtual 159, 3) := by decide +kernel
theorem dX12_sees_5 : decode cX12_sees 5 = .ok (.ifCond .eq 19, 3) := by decide +kernel
theorem dX12_sees_8 : decode cX12_sees 8 = .ok (.iload_n 2, 1) := by decide +kernel
theorem dX12_sees_9 : decode cX12_sees 9 = .ok (.invokestatic 156, 3) := by decide +kernel
theorem dX12_sees_12 : decode cX12_sees 12 = .ok (.ifCond .eq 12, 3) := by decide +kernel
theorem dX12_sees_15 : decode cX12_sees 15 = .ok (.aload_n 0, 1) := by decide +kernel
theorem dX12_sees_16 : decode cX12_sees 16 = .ok (.iload_n 1, 1) := by decide +kernel
theorem dX12_sees_17 : decode cX12_sees 17 = .ok (.iload_n 2, 1) := by decide +kernel
theorem dX12_sees_18 : decode cX12_sees 18 = .ok (.invokevirtual 152, 3) := by decide +kernel
theorem dX12_sees_21 : decode cX12_sees 21 = .ok (.goto 4, 3) := by decide +kernel
theorem dX12_sees_24 : decode cX12_sees 24 = .ok (.iconst (-1), 1) := by decide +kernel
theorem dX12_sees_25 : decode cX12_sees 25 = .ok (.ireturn, 1) := by decide +kernel
theorem dX12_types_0 : decode cX12_types 0 = .ok (.iconst 3, 1) := by decide +kernel
theorem dX12_types_1 : decode cX12_types 1 = .ok (.istore_n 2, 1) := by decide +kernel
theorem dX12_types_2 : decode cX12_types 2 = .ok (.iload_n 2, 1) := by decide +kernel
theorem dX12_types_3 : decode cX12_types 3 = .ok (.ifCond .lt 35, 3) := by decide +kernel
theorem dX12_types_6 : decode cX12_types 6 = .ok (.aload_n 0, 1) := by decide +kernel
theorem dX12_types_7 : decode cX12_types 7 = .ok (.getfield 34, 3) := by decide +kernel
theorem dX12_types_10 : decode cX12_types 10 = .ok (.aload_n 0, 1) := by decide +kernel
theorem dX12_types_11 : decode cX12_types 11 = .ok (.getfield 162, 3) := by decide +kernel
theorem dX12_types_14 : decode cX12_types 14 = .ok (.iload_n 1, 1) := by decide +kernel
theorem dX12_types_15 : decode cX12_types 15 = .ok (.bipush 8, 2) := by decide +kernel
theorem dX12_types_17 : decode cX12_types 17 = .ok (.iload_n 2, 1) := by decide +kernel
theorem dX12_types_18 : decode cX12_types 18 = .ok (.imul, 1) := by decide +kernel
theorem dX12_types_19 : decode cX12_types 19 = .ok (.ishr, 1) := by decide +kernel
theorem dX12_types_20 : decode cX12_types 20 = .ok (.i2b, 1) := by decide +kernel
theorem dX12_types_21 : decode cX12_types 21 = .ok (.bastore, 1) := by decide +kernel
theorem dX12_types_22 : decode cX12_types 22 = .ok (.aload_n 0, 1) := by decide +kernel
theorem dX12_types_23 : decode cX12_types 23 = .ok (.aload_n 0, 1) := by decide +kernel
theorem dX12_types_24 : decode cX12_types 24 = .ok (.getfield 162, 3) := by decide +kernel
theorem dX12_types_27 : decode cX12_types 27 = .ok (.iconst 1, 1) := by decide +kernel
theorem dX12_types_28 : decode cX12_types 28 = .ok (.iadd, 1) := by decide +kernel
theorem dX12_types_29 : decode cX12_types 29 = .ok (.putfield 162, 3) := by decide +kernel
theorem dX12_types_32 : decode cX12_types 32 = .ok (.iinc 2 (-1), 3) := by decide +kernel
theorem dX12_types_35 : decode cX12_types 35 = .ok (.goto (-33), 3) := by decide +kernel
theorem dX12_types_38 : decode cX12_types 38 = .ok (.return_, 1) := by decide +kernel
theorem dX12_feed_0 : decode cX12_feed 0 = .ok (.aload_n 0, 1) := by decide +kernel
theorem dX12_feed_1 : decode cX12_feed 1 = .ok (.getfield 162, 3) := by decide +kernel
theorem dX12_feed_4 : decode cX12_feed 4 = .ok (.bipush 20, 2) := by decide +kernel
theorem dX12_feed_6 : decode cX12_feed 6 = .ok (.iadd, 1) := by decide +kernel
theorem dX12_feed_7 : decode cX12_feed 7 = .ok (.sipush 260, 3) := by decide +kernel
theorem dX12_feed_10 : decode cX12_feed 10 = .ok (.if_icmp .le 5, 3) := by decide +kernel
theorem dX12_feed_13 : decode cX12_feed 13 = .ok (.iconst (-1), 1) := by decide +kernel
theorem dX12_feed_14 : decode cX12_feed 14 = .ok (.ireturn, 1) := by decide +kernel
theorem dX12_feed_15 : decode cX12_feed 15 = .ok (.aload_n 0, 1) := by decide +kernel
theorem dX12_feed_16 : decode cX12_feed 16 = .ok (.iload_n 1, 1) := by decide +kernel
theorem dX12_feed_17 : decode cX12_feed 17 = .ok (.invokevirtual 165, 3) := by decide +kernel
theorem dX12_feed_20 : decode cX12_feed 20 = .ok (.aload_n 0, 1) := by decide +kernel
theorem dX12_feed_21 : decode cX12_feed 21 = .ok (.iload_n 2, 1) := by decide +kernel
theorem dX12_feed_22 : decode cX12_feed 22 = .ok (.invokevirtual 165, 3) := by decide +kernel
theorem dX12_feed_25 : decode cX12_feed 25 = .ok (.aload_n 0, 1) := by decide +kernel
theorem dX12_feed_26 : decode cX12_feed 26 = .ok (.iload_n 3, 1) := by decide +kernel
theorem dX12_feed_27 : decode cX12_feed 27 = .ok (.invokevirtual 165, 3) := by decide +kernel
theorem dX12_feed_30 : decode cX12_feed 30 = .ok (.aload_n 0, 1) := by decide +kernel
theorem dX12_feed_31 : decode cX12_feed 31 = .ok (.iload 4, 2) := by decide +kernel
theorem dX12_feed_33 : decode cX12_feed 33 = .ok (.invokevirtual 165, 3) := by decide +kernel
theorem dX12_feed_36 : decode cX12_feed 36 = .ok (.aload_n 0, 1) := by decide +kernel
theorem dX12_feed_37 : decode cX12_feed 37 = .ok (.iload 5, 2) := by decide +kernel
theorem dX12_feed_39 : decode cX12_feed 39 = .ok (.invokevirtual 165, 3) := by decide +kernel
theorem dX12_feed_42 : decode cX12_feed 42 = .ok (.aload_n 0, 1) := by decide +kernel
theorem dX12_feed_43 : decode cX12_feed 43 = .ok (.getfield 162, 3) := by decide +kernel
theorem dX12_feed_46 : decode cX12_feed 46 = .ok (.ireturn, 1) := by decide +kernel
theorem dX12_octet_0 : decode cX12_octet 0 = .ok (.aload_n 0, 1) := by decide +kernel
theorem dX12_octet_1 : decode cX12_octet 1 = .ok (.getfield 34, 3) := by decide +kernel
theorem dX12_octet_4 : decode cX12_octet 4 = .ok (.iload_n 1, 1) := by decide +kernel
theorem dX12_octet_5 : decode cX12_octet 5 = .ok (.baload, 1) := by decide +kernel
theorem dX12_octet_6 : decode cX12_octet 6 = .ok (.sipush 255, 3) := by decide +kernel
theorem dX12_octet_9 : decode cX12_octet 9 = .ok (.iand, 1) := by decide +kernel
theorem dX12_octet_10 : decode cX12_octet 10 = .ok (.ireturn, 1) := by decide +kernel
theorem dX12_here_0 : decode cX12_here 0 = .ok (.aload_n 0, 1) := by decide +kernel
theorem dX12_here_1 : decode cX12_here 1 = .ok (.getfield 169, 3) := by decide +kernel
theorem dX12_here_4 : decode cX12_here 4 = .ok (.aload_n 0, 1) := by decide +kernel
theorem dX12_here_5 : decode cX12_here 5 = .ok (.getfield 172, 3) := by decide +kernel
theorem dX12_here_8 : decode cX12_here 8 = .ok (.if_icmp .ge 19, 3) := by decide +kernel
theorem dX12_here_11 : decode cX12_here 11 = .ok (.aload_n 0, 1) := by decide +kernel
theorem dX12_here_12 : decode cX12_here 12 = .ok (.getfield 34, 3) := by decide +kernel
theorem dX12_here_15 : decode cX12_here 15 = .ok (.aload_n 0, 1) := by decide +kernel
theorem dX12_here_16 : decode cX12_here 16 = .ok (.getfield 169, 3) := by decide +kernel
theorem dX12_here_19 : decode cX12_here 19 = .ok (.baload, 1) := by decide +kernel
theorem dX12_here_20 : decode cX12_here 20 = .ok (.sipush 255, 3) := by decide +kernel
theorem dX12_here_23 : decode cX12_here 23 = .ok (.iand, 1) := by decide +kernel
theorem dX12_here_24 : decode cX12_here 24 = .ok (.goto 4, 3) := by decide +kernel
theorem dX12_here_27 : decode cX12_here 27 = .ok (.iconst (-1), 1) := by decide +kernel
theorem dX12_here_28 : decode cX12_here 28 = .ok (.ireturn, 1) := by decide +kernel
theorem dX12_isDigit_0 : decode cX12_isDigit 0 = .ok (.aload_n 0, 1) := by decide +kernel
theorem dX12_isDigit_1 : decode cX12_isDigit 1 = .ok (.invokevirtual 175, 3) := by decide +kernel
theorem dX12_isDigit_4 : decode cX12_isDigit 4 = .ok (.bipush 48, 2) := by decide +kernel
theorem dX12_isDigit_6 : decode cX12_isDigit 6 = .ok (.if_icmp .lt 16, 3) := by decide +kernel
theorem dX12_isDigit_9 : decode cX12_isDigit 9 = .ok (.aload_n 0, 1) := by decide +kernel
theorem dX12_isDigit_10 : decode cX12_isDigit 10 = .ok (.invokevirtual 175, 3) := by decide +kernel
theorem dX12_isDigit_13 : decode cX12_isDigit 13 = .ok (.bipush 57, 2) := by decide +kernel
theorem dX12_isDigit_15 : decode cX12_isDigit 15 = .ok (.if_icmp .gt 7, 3) := by decide +kernel
theorem dX12_isDigit_18 : decode cX12_isDigit 18 = .ok (.iconst 1, 1) := by decide +kernel
theorem dX12_isDigit_19 : decode cX12_isDigit 19 = .ok (.goto 4, 3) := by decide +kernel
theorem dX12_isDigit_22 : decode cX12_isDigit 22 = .ok (.iconst 0, 1) := by decide +kernel
theorem dX12_isDigit_23 : decode cX12_isDigit 23 = .ok (.ireturn, 1) := by decide +kernel
theorem dX12_wrongAt_0 : decode cX12_wrongAt 0 = .ok (.aload_n 0, 1) := by decide +kernel
theorem dX12_wrongAt_1 : decode cX12_wrongAt 1 = .ok (.sipush (-1000), 3) := by decide +kernel
theorem dX12_wrongAt_4 : decode cX12_wrongAt 4 = .ok (.iload_n 1, 1) := by decide +kernel
theorem dX12_wrongAt_5 : decode cX12_wrongAt 5 = .ok (.imul, 1) := by decide +kernel
theorem dX12_wrongAt_6 : decode cX12_wrongAt 6 = .ok (.iload_n 2, 1) := by decide +kernel
theorem dX12_wrongAt_7 : decode cX12_wrongAt 7 = .ok (.isub, 1) := by decide +kernel
theorem dX12_wrongAt_8 : decode cX12_wrongAt 8 = .ok (.putfield 179, 3) := by decide +kernel
theorem dX12_wrongAt_11 : decode cX12_wrongAt 11 = .ok (.iconst 0, 1) := by decide +kernel
theorem dX12_wrongAt_12 : decode cX12_wrongAt 12 = .ok (.ireturn, 1) := by decide +kernel
theorem dX12_takes_0 : decode cX12_takes 0 = .ok (.aload_n 0, 1) := by decide +kernel
theorem dX12_takes_1 : decode cX12_takes 1 = .ok (.invokevirtual 175, 3) := by decide +kernel
theorem dX12_takes_4 : decode cX12_takes 4 = .ok (.iload_n 1, 1) := by decide +kernel
theorem dX12_takes_5 : decode cX12_takes 5 = .ok (.if_icmp .eq 13, 3) := by decide +kernel
theorem dX12_takes_8 : decode cX12_takes 8 = .ok (.aload_n 0, 1) := by decide +kernel
theorem dX12_takes_9 : decode cX12_takes 9 = .ok (.iconst 1, 1) := by decide +kernel
theorem dX12_takes_10 : decode cX12_takes 10 = .ok (.aload_n 0, 1) := by decide +kernel
theorem dX12_takes_11 : decode cX12_takes 11 = .ok (.getfield 169, 3) := by decide +kernel
theorem dX12_takes_14 : decode cX12_takes 14 = .ok (.invokevirtual 182, 3) := by decide +kernel
theorem dX12_takes_17 : decode cX12_takes 17 = .ok (.ireturn, 1) := by decide +kernel
theorem dX12_takes_18 : decode cX12_takes 18 = .ok (.aload_n 0, 1) := by decide +kernel
theorem dX12_takes_19 : decode cX12_takes 19 = .ok (.aload_n 0, 1) := by decide +kernel
theorem dX12_takes_20 : decode cX12_takes 20 = .ok (.getfield 169, 3) := by decide +kernel
theorem dX12_takes_23 : decode cX12_takes 23 = .ok (.iconst 1, 1) := by decide +kernel
theorem dX12_takes_24 : decode cX12_takes 24 = .ok (.iadd, 1) := by decide +kernel
theorem dX12_takes_25 : decode cX12_takes 25 = .ok (.putfield 169, 3) := by decide +kernel
theorem dX12_takes_28 : decode cX12_takes 28 = .ok (.iconst 1, 1) := by decide +kernel
theorem dX12_takes_29 : decode cX12_takes 29 = .ok (.ireturn, 1) := by decide +kernel
theorem dX12_readsNumber_0 : decode cX12_readsNumber 0 = .ok (.aload_n 0, 1) := by decide +kernel
theorem dX12_readsNumber_1 : decode cX12_readsNumber 1 = .ok (.getfield 169, 3) := by decide +kernel
theorem dX12_readsNumber_4 : decode cX12_readsNumber 4 = .ok (.istore_n 1, 1) := by decide +kernel
theorem dX12_readsNumber_5 : decode cX12_readsNumber 5 = .ok (.aload_n 0, 1) := by decide +kernel
theorem dX12_readsNumber_6 : decode cX12_readsNumber 6 = .ok (.iconst 0, 1) := by decide +kernel
theorem dX12_readsNumber_7 : decode cX12_readsNumber 7 = .ok (.putfield 185, 3) := by decide +kernel
theorem dX12_readsNumber_10 : decode cX12_readsNumber 10 = .ok (.aload_n 0, 1) := by decide +kernel
theorem dX12_readsNumber_11 : decode cX12_readsNumber 11 = .ok (.invokevirtual 188, 3) := by decide +kernel
theorem dX12_readsNumber_14 : decode cX12_readsNumber 14 = .ok (.ifCond .eq 55, 3) := by decide +kernel
theorem dX12_readsNumber_17 : decode cX12_readsNumber 17 = .ok (.aload_n 0, 1) := by decide +kernel
theorem dX12_readsNumber_18 : decode cX12_readsNumber 18 = .ok (.getfield 169, 3) := by decide +kernel
theorem dX12_readsNumber_21 : decode cX12_readsNumber 21 = .ok (.iload_n 1, 1) := by decide +kernel
theorem dX12_readsNumber_22 : decode cX12_readsNumber 22 = .ok (.iconst 5, 1) := by decide +kernel
theorem dX12_readsNumber_23 : decode cX12_readsNumber 23 = .ok (.iadd, 1) := by decide +kernel
theorem dX12_readsNumber_24 : decode cX12_readsNumber 24 = .ok (.if_icmp .ne 13, 3) := by decide +kernel
theorem dX12_readsNumber_27 : decode cX12_readsNumber 27 = .ok (.aload_n 0, 1) := by decide +kernel
theorem dX12_readsNumber_28 : decode cX12_readsNumber 28 = .ok (.iconst 2, 1) := by decide +kernel
theorem dX12_readsNumber_29 : decode cX12_readsNumber 29 = .ok (.aload_n 0, 1) := by decide +kernel
theorem dX12_readsNumber_30 : decode cX12_readsNumber 30 = .ok (.getfield 169, 3) := by decide +kernel
theorem dX12_readsNumber_33 : decode cX12_readsNumber 33 = .ok (.invokevirtual 182, 3) := by decide +kernel
theorem dX12_readsNumber_36 : decode cX12_readsNumber 36 = .ok (.ireturn, 1) := by decide +kernel
theorem dX12_readsNumber_37 : decode cX12_readsNumber 37 = .ok (.aload_n 0, 1) := by decide +kernel
theorem dX12_readsNumber_38 : decode cX12_readsNumber 38 = .ok (.bipush 10, 2) := by decide +kernel
theorem dX12_readsNumber_40 : decode cX12_readsNumber 40 = .ok (.aload_n 0, 1) := by decide +kernel
theorem dX12_readsNumber_41 : decode cX12_readsNumber 41 = .ok (.getfield 185, 3) := by decide +kernel
theorem dX12_readsNumber_44 : decode cX12_readsNumber 44 = .ok (.imul, 1) := by decide +kernel
theorem dX12_readsNumber_45 : decode cX12_readsNumber 45 = .ok (.aload_n 0, 1) := by decide +kernel
theorem dX12_readsNumber_46 : decode cX12_readsNumber 46 = .ok (.invokevirtual 175, 3) := by decide +kernel
theorem dX12_readsNumber_49 : decode cX12_readsNumber 49 = .ok (.iadd, 1) := by decide +kernel
theorem dX12_readsNumber_50 : decode cX12_readsNumber 50 = .ok (.bipush 48, 2) := by decide +kernel
theorem dX12_readsNumber_52 : decode cX12_readsNumber 52 = .ok (.isub, 1) := by decide +kernel
theorem dX12_readsNumber_53 : decode cX12_readsNumber 53 = .ok (.putfield 185, 3) := by decide +kernel
theorem dX12_readsNumber_56 : decode cX12_readsNumber 56 = .ok (.aload_n 0, 1) := by decide +kernel
theorem dX12_readsNumber_57 : decode cX12_readsNumber 57 = .ok (.aload_n 0, 1) := by decide +kernel
theorem dX12_readsNumber_58 : decode cX12_readsNumber 58 = .ok (.getfield 169, 3) := by decide +kernel
theorem dX12_readsNumber_61 : decode cX12_readsNumber 61 = .ok (.iconst 1, 1) := by decide +kernel
theorem dX12_readsNumber_62 : decode cX12_readsNumber 62 = .ok (.iadd, 1) := by decide +kernel
theorem dX12_readsNumber_63 : decode cX12_readsNumber 63 = .ok (.putfield 169, 3) := by decide +kernel
theorem dX12_readsNumber_66 : decode cX12_readsNumber 66 = .ok (.goto (-56), 3) := by decide +kernel
theorem dX12_readsNumber_69 : decode cX12_readsNumber 69 = .ok (.iconst 1, 1) := by decide +kernel
theorem dX12_readsNumber_70 : decode cX12_readsNumber 70 = .ok (.ireturn, 1) := by decide +kernel
theorem dX12_notes_0 : decode cX12_notes 0 = .ok (.aload_n 0, 1) := by decide +kernel
theorem dX12_notes_1 : decode cX12_notes 1 = .ok (.getfield 38, 3) := by decide +kernel
theorem dX12_notes_4 : decode cX12_notes 4 = .ok (.aload_n 0, 1) := by decide +kernel
theorem dX12_notes_5 : decode cX12_notes 5 = .ok (.getfield 192, 3) := by decide +kernel
theorem dX12_notes_8 : decode cX12_notes 8 = .ok (.ldc 195, 2) := by decide +kernel
theorem dX12_notes_10 : decode cX12_notes 10 = .ok (.iload_n 1, 1) := by decide +kernel
theorem dX12_notes_11 : decode cX12_notes 11 = .ok (.imul, 1) := by decide +kernel
theorem dX12_notes_12 : decode cX12_notes 12 = .ok (.iload_n 2, 1) := by decide +kernel
theorem dX12_notes_13 : decode cX12_notes 13 = .ok (.iadd, 1) := by decide +kernel
theorem dX12_notes_14 : decode cX12_notes 14 = .ok (.iastore, 1) := by decide +kernel
theorem dX12_notes_15 : decode cX12_notes 15 = .ok (.aload_n 0, 1) := by decide +kernel
theorem dX12_notes_16 : decode cX12_notes 16 = .ok (.aload_n 0, 1) := by decide +kernel
theorem dX12_notes_17 : decode cX12_notes 17 = .ok (.getfield 192, 3) := by decide +kernel
theorem dX12_notes_20 : decode cX12_notes 20 = .ok (.iconst 1, 1) := by decide +kernel
theorem dX12_notes_21 : decode cX12_notes 21 = .ok (.iadd, 1) := by decide +kernel
theorem dX12_notes_22 : decode cX12_notes 22 = .ok (.putfield 192, 3) := by decide +kernel
theorem dX12_notes_25 : decode cX12_notes 25 = .ok (.return_, 1) := by decide +kernel
theorem dX12_opens_0 : decode cX12_opens 0 = .ok (.aload_n 0, 1) := by decide +kernel
theorem dX12_opens_1 : decode cX12_opens 1 = .ok (.getfield 196, 3) := by decide +kernel
theorem dX12_opens_4 : decode cX12_opens 4 = .ok (.bipush 6, 2) := by decide +kernel
theorem dX12_opens_6 : decode cX12_opens 6 = .ok (.if_icmp .ne 13, 3) := by decide +kernel
theorem dX12_opens_9 : decode cX12_opens 9 = .ok (.aload_n 0, 1) := by decide +kernel
theorem dX12_opens_10 : decode cX12_opens 10 = .ok (.iconst 5, 1) := by decide +kernel
theorem dX12_opens_11 : decode cX12_opens 11 = .ok (.aload_n 0, 1) := by decide +kernel
theorem dX12_opens_12 : decode cX12_opens 12 = .ok (.getfield 169, 3) := by decide +kernel
theorem dX12_opens_15 : decode cX12_opens 15 = .ok (.invokevirtual 182, 3) := by decide +kernel
theorem dX12_opens_18 : decode cX12_opens 18 = .ok (.ireturn, 1) := by decide +kernel
theorem dX12_opens_19 : decode cX12_opens 19 = .ok (.aload_n 0, 1) := by decide +kernel
theorem dX12_opens_20 : decode cX12_opens 20 = .ok (.aload_n 0, 1) := by decide +kernel
theorem dX12_opens_21 : decode cX12_opens 21 = .ok (.getfield 196, 3) := by decide +kernel
theorem dX12_opens_24 : decode cX12_opens 24 = .ok (.iconst 1, 1) := by decide +kernel
theorem dX12_opens_25 : decode cX12_opens 25 = .ok (.iadd, 1) := by decide +kernel
theorem dX12_opens_26 : decode cX12_opens 26 = .ok (.putfield 196, 3) := by decide +kernel
theorem dX12_opens_29 : decode cX12_opens 29 = .ok (.aload_n 0, 1) := by decide +kernel
theorem dX12_opens_30 : decode cX12_opens 30 = .ok (.getfield 41, 3) := by decide +kernel
theorem dX12_opens_33 : decode cX12_opens 33 = .ok (.aload_n 0, 1) := by decide +kernel
theorem dX12_opens_34 : decode cX12_opens 34 = .ok (.getfield 199, 3) := by decide +kernel
theorem dX12_opens_37 : decode cX12_opens 37 = .ok (.ldc 195, 2) := by decide +kernel
theorem dX12_opens_39 : decode cX12_opens 39 = .ok (.iload_n 1, 1) := by decide +kernel
theorem dX12_opens_40 : decode cX12_opens 40 = .ok (.imul, 1) := by decide +kernel
theorem dX12_opens_41 : decode cX12_opens 41 = .ok (.iastore, 1) := by decide +kernel
theorem dX12_opens_42 : decode cX12_opens 42 = .ok (.aload_n 0, 1) := by decide +kernel
theorem dX12_opens_43 : decode cX12_opens 43 = .ok (.aload_n 0, 1) := by decide +kernel
theorem dX12_opens_44 : decode cX12_opens 44 = .ok (.getfield 199, 3) := by decide +kernel
theorem dX12_opens_47 : decode cX12_opens 47 = .ok (.iconst 1, 1) := by decide +kernel
theorem dX12_opens_48 : decode cX12_opens 48 = .ok (.iadd, 1) := by decide +kernel
theorem dX12_opens_49 : decode cX12_opens 49 = .ok (.putfield 199, 3) := by decide +kernel
theorem dX12_opens_52 : decode cX12_opens 52 = .ok (.aload_n 0, 1) := by decide +kernel
theorem dX12_opens_53 : decode cX12_opens 53 = .ok (.aload_n 0, 1) := by decide +kernel
theorem dX12_opens_54 : decode cX12_opens 54 = .ok (.getfield 169, 3) := by decide +kernel
theorem dX12_opens_57 : decode cX12_opens 57 = .ok (.iconst 1, 1) := by decide +kernel
theorem dX12_opens_58 : decode cX12_opens 58 = .ok (.iadd, 1) := by decide +kernel
theorem dX12_opens_59 : decode cX12_opens 59 = .ok (.putfield 169, 3) := by decide +kernel
theorem dX12_opens_62 : decode cX12_opens 62 = .ok (.iconst 1, 1) := by decide +kernel
theorem dX12_opens_63 : decode cX12_opens 63 = .ok (.ireturn, 1) := by decide +kernel
theorem dX12_waitTop_0 : decode cX12_waitTop 0 = .ok (.aload_n 0, 1) := by decide +kernel
theorem dX12_waitTop_1 : decode cX12_waitTop 1 = .ok (.getfield 199, 3) := by decide +kernel
theorem dX12_waitTop_4 : decode cX12_waitTop 4 = .ok (.ifCond .ne 7, 3) := by decide +kernel
theorem dX12_waitTop_7 : decode cX12_waitTop 7 = .ok (.iconst (-1), 1) := by decide +kernel
theorem dX12_waitTop_8 : decode cX12_waitTop 8 = .ok (.goto 17, 3) := by decide +kernel
theorem dX12_waitTop_11 : decode cX12_waitTop 11 = .ok (.aload_n 0, 1) := by decide +kernel
theorem dX12_waitTop_12 : decode cX12_waitTop 12 = .ok (.getfield 41, 3) := by decide +kernel
theorem dX12_waitTop_15 : decode cX12_waitTop 15 = .ok (.aload_n 0, 1) := by decide +kernel
theorem dX12_waitTop_16 : decode cX12_waitTop 16 = .ok (.getfield 199, 3) := by decide +kernel
theorem dX12_waitTop_19 : decode cX12_waitTop 19 = .ok (.iconst 1, 1) := by decide +kernel
theorem dX12_waitTop_20 : decode cX12_waitTop 20 = .ok (.isub, 1) := by decide +kernel
theorem dX12_waitTop_21 : decode cX12_waitTop 21 = .ok (.iaload, 1) := by decide +kernel
theorem dX12_waitTop_22 : decode cX12_waitTop 22 = .ok (.ldc 195, 2) := by decide +kernel
theorem dX12_waitTop_24 : decode cX12_waitTop 24 = .ok (.idiv, 1) := by decide +kernel
theorem dX12_waitTop_25 : decode cX12_waitTop 25 = .ok (.ireturn, 1) := by decide +kernel
theorem dX12_factOf_0 : decode cX12_factOf 0 = .ok (.iload_n 0, 1) := by decide +kernel
theorem dX12_factOf_1 : decode cX12_factOf 1 = .ok (.tableswitch 124 98 119 #[113, 124, 109, 124, 124, 105, 103, 124, 124, 115, 124, 124, 111, 124, 124, 124, 124, 107, 118, 124, 124, 121], 103) := by decide +kernel
theorem dX12_factOf_104 : decode cX12_factOf 104 = .ok (.iconst 0, 1) := by decide +kernel
theorem dX12_factOf_105 : decode cX12_factOf 105 = .ok (.ireturn, 1) := by decide +kernel
theorem dX12_factOf_106 : decode cX12_factOf 106 = .ok (.iconst 1, 1) := by decide +kernel
theorem dX12_factOf_107 : decode cX12_factOf 107 = .ok (.ireturn, 1) := by decide +kernel
theorem dX12_factOf_108 : decode cX12_factOf 108 = .ok (.iconst 2, 1) := by decide +kernel
theorem dX12_factOf_109 : decode cX12_factOf 109 = .ok (.ireturn, 1) := by decide +kernel
theorem dX12_factOf_110 : decode cX12_factOf 110 = .ok (.iconst 3, 1) := by decide +kernel
theorem dX12_factOf_111 : decode cX12_factOf 111 = .ok (.ireturn, 1) := by decide +kernel
theorem dX12_factOf_112 : decode cX12_factOf 112 = .ok (.iconst 4, 1) := by decide +kernel
theorem dX12_factOf_113 : decode cX12_factOf 113 = .ok (.ireturn, 1) := by decide +kernel
theorem dX12_factOf_114 : decode cX12_factOf 114 = .ok (.iconst 5, 1) := by decide +kernel
theorem dX12_factOf_115 : decode cX12_factOf 115 = .ok (.ireturn, 1) := by decide +kernel
theorem dX12_factOf_116 : decode cX12_factOf 116 = .ok (.bipush 6, 2) := by decide +kernel
theorem dX12_factOf_118 : decode cX12_factOf 118 = .ok (.ireturn, 1) := by decide +kernel
theorem dX12_factOf_119 : decode cX12_factOf 119 = .ok (.bipush 7, 2) := by decide +kernel
theorem dX12_factOf_121 : decode cX12_factOf 121 = .ok (.ireturn, 1) := by decide +kernel
theorem dX12_factOf_122 : decode cX12_factOf 122 = .ok (.bipush 8, 2) := by decide +kernel
theorem dX12_factOf_124 : decode cX12_factOf 124 = .ok (.ireturn, 1) := by decide +kernel
theorem dX12_factOf_125 : decode cX12_factOf 125 = .ok (.iconst (-1), 1) := by decide +kernel
theorem dX12_factOf_126 : decode cX12_factOf 126 = .ok (.ireturn, 1) := by decide +kernel
theorem dX12_sumSign_0 : decode cX12_sumSign 0 = .ok (.iload_n 0, 1) := by decide +kernel
theorem dX12_sumSign_1 : decode cX12_sumSign 1 = .ok (.bipush 43, 2) := by decide +kernel
theorem dX12_sumSign_3 : decode cX12_sumSign 3 = .ok (.if_icmp .ne 7, 3) := by decide +kernel
theorem dX12_sumSign_6 : decode cX12_sumSign 6 = .ok (.iconst 2, 1) := by decide +kernel
theorem dX12_sumSign_7 : decode cX12_sumSign 7 = .ok (.goto 45, 3) := by decide +kernel
theorem dX12_sumSign_10 : decode cX12_sumSign 10 = .ok (.iload_n 0, 1) := by decide +kernel
theorem dX12_sumSign_11 : decode cX12_sumSign 11 = .ok (.bipush 45, 2) := by decide +kernel
theorem dX12_sumSign_13 : decode cX12_sumSign 13 = .ok (.if_icmp .ne 7, 3) := by decide +kernel
theorem dX12_sumSign_16 : decode cX12_sumSign 16 = .ok (.iconst 3, 1) := by decide +kernel
theorem dX12_sumSign_17 : decode cX12_sumSign 17 = .ok (.goto 35, 3) := by decide +kernel
theorem dX12_sumSign_20 : decode cX12_sumSign 20 = .ok (.iload_n 0, 1) := by decide +kernel
theorem dX12_sumSign_21 : decode cX12_sumSign 21 = .ok (.bipush 42, 2) := by decide +kernel
theorem dX12_sumSign_23 : decode cX12_sumSign 23 = .ok (.if_icmp .ne 7, 3) := by decide +kernel
theorem dX12_sumSign_26 : decode cX12_sumSign 26 = .ok (.iconst 4, 1) := by decide +kernel
theorem dX12_sumSign_27 : decode cX12_sumSign 27 = .ok (.goto 25, 3) := by decide +kernel
theorem dX12_sumSign_30 : decode cX12_sumSign 30 = .ok (.iload_n 0, 1) := by decide +kernel
theorem dX12_sumSign_31 : decode cX12_sumSign 31 = .ok (.bipush 47, 2) := by decide +kernel
theorem dX12_sumSign_33 : decode cX12_sumSign 33 = .ok (.if_icmp .ne 7, 3) := by decide +kernel
theorem dX12_sumSign_36 : decode cX12_sumSign 36 = .ok (.iconst 5, 1) := by decide +kernel
theorem dX12_sumSign_37 : decode cX12_sumSign 37 = .ok (.goto 15, 3) := by decide +kernel
theorem dX12_sumSign_40 : decode cX12_sumSign 40 = .ok (.iload_n 0, 1) := by decide +kernel
theorem dX12_sumSign_41 : decode cX12_sumSign 41 = .ok (.bipush 37, 2) := by decide +kernel
theorem dX12_sumSign_43 : decode cX12_sumSign 43 = .ok (.if_icmp .ne 8, 3) := by decide +kernel
theorem dX12_sumSign_46 : decode cX12_sumSign 46 = .ok (.bipush 6, 2) := by decide +kernel
theorem dX12_sumSign_48 : decode cX12_sumSign 48 = .ok (.goto 4, 3) := by decide +kernel
theorem dX12_sumSign_51 : decode cX12_sumSign 51 = .ok (.iconst (-1), 1) := by decide +kernel
theorem dX12_sumSign_52 : decode cX12_sumSign 52 = .ok (.ireturn, 1) := by decide +kernel
theorem dX12_closesSums_0 : decode cX12_closesSums 0 = .ok (.aload_n 0, 1) := by decide +kernel
theorem dX12_closesSums_1 : decode cX12_closesSums 1 = .ok (.invokevirtual 202, 3) := by decide +kernel
theorem dX12_closesSums_4 : decode cX12_closesSums 4 = .ok (.iconst 4, 1) := by decide +kernel
theorem dX12_closesSums_5 : decode cX12_closesSums 5 = .ok (.if_icmp .lt 12, 3) := by decide +kernel
theorem dX12_closesSums_8 : decode cX12_closesSums 8 = .ok (.aload_n 0, 1) := by decide +kernel
theorem dX12_closesSums_9 : decode cX12_closesSums 9 = .ok (.invokevirtual 202, 3) := by decide +kernel
theorem dX12_closesSums_12 : decode cX12_closesSums 12 = .ok (.bipush 6, 2) := by decide +kernel
theorem dX12_closesSums_14 : decode cX12_closesSums 14 = .ok (.if_icmp .le 23, 3) := by decide +kernel
theorem dX12_closesSums_17 : decode cX12_closesSums 17 = .ok (.iload_n 1, 1) := by decide +kernel
theorem dX12_closesSums_18 : decode cX12_closesSums 18 = .ok (.ifCond .eq 41, 3) := by decide +kernel
theorem dX12_closesSums_21 : decode cX12_closesSums 21 = .ok (.aload_n 0, 1) := by decide +kernel
theorem dX12_closesSums_22 : decode cX12_closesSums 22 = .ok (.invokevirtual 202, 3) := by decide +kernel
theorem dX12_closesSums_25 : decode cX12_closesSums 25 = .ok (.iconst 2, 1) := by decide +kernel
theorem dX12_closesSums_26 : decode cX12_closesSums 26 = .ok (.if_icmp .eq 11, 3) := by decide +kernel
theorem dX12_closesSums_29 : decode cX12_closesSums 29 = .ok (.aload_n 0, 1) := by decide +kernel
theorem dX12_closesSums_30 : decode cX12_closesSums 30 = .ok (.invokevirtual 202, 3) := by decide +kernel
theorem dX12_closesSums_33 : decode cX12_closesSums 33 = .ok (.iconst 3, 1) := by decide +kernel
theorem dX12_closesSums_34 : decode cX12_closesSums 34 = .ok (.if_icmp .ne 25, 3) := by decide +kernel
theorem dX12_closesSums_37 : decode cX12_closesSums 37 = .ok (.aload_n 0, 1) := by decide +kernel
theorem dX12_closesSums_38 : decode cX12_closesSums 38 = .ok (.aload_n 0, 1) := by decide +kernel
theorem dX12_closesSums_39 : decode cX12_closesSums 39 = .ok (.invokevirtual 202, 3) := by decide +kernel
theorem dX12_closesSums_42 : decode cX12_closesSums 42 = .ok (.iconst 0, 1) := by decide +kernel
theorem dX12_closesSums_43 : decode cX12_closesSums 43 = .ok (.invokevirtual 205, 3) := by decide +kernel
theorem dX12_closesSums_46 : decode cX12_closesSums 46 = .ok (.aload_n 0, 1) := by decide +kernel
theorem dX12_closesSums_47 : decode cX12_closesSums 47 = .ok (.aload_n 0, 1) := by decide +kernel
theorem dX12_closesSums_48 : decode cX12_closesSums 48 = .ok (.getfield 199, 3) := by decide +kernel
theorem dX12_closesSums_51 : decode cX12_closesSums 51 = .ok (.iconst 1, 1) := by decide +kernel
theorem dX12_closesSums_52 : decode cX12_closesSums 52 = .ok (.isub, 1) := by decide +kernel
theorem dX12_closesSums_53 : decode cX12_closesSums 53 = .ok (.putfield 199, 3) := by decide +kernel
theorem dX12_closesSums_56 : decode cX12_closesSums 56 = .ok (.goto (-56), 3) := by decide +kernel
theorem dX12_closesSums_59 : decode cX12_closesSums 59 = .ok (.return_, 1) := by decide +kernel
theorem dX12_readsFactor_0 : decode cX12_readsFactor 0 = .ok (.aload_n 0, 1) := by decide +kernel
theorem dX12_readsFactor_1 : decode cX12_readsFactor 1 = .ok (.invokevirtual 175, 3) := by decide +kernel
theorem dX12_readsFactor_4 : decode cX12_readsFactor 4 = .ok (.bipush 91, 2) := by decide +kernel
theorem dX12_readsFactor_6 : decode cX12_readsFactor 6 = .ok (.if_icmp .ne 14, 3) := by decide +kernel
theorem dX12_readsFactor_9 : decode cX12_readsFactor 9 = .ok (.aload_n 0, 1) := by decide +kernel
theorem dX12_readsFactor_10 : decode cX12_readsFactor 10 = .ok (.bipush 14, 2) := by decide +kernel
theorem dX12_readsFactor_12 : decode cX12_readsFactor 12 = .ok (.invokevirtual 209, 3) := by decide +kernel
theorem dX12_readsFactor_15 : decode cX12_readsFactor 15 = .ok (.ifCond .ne (-15), 3) := by decide +kernel
theorem dX12_readsFactor_18 : decode cX12_readsFactor 18 = .ok (.iconst 0, 1) := by decide +kernel
theorem dX12_readsFactor_19 : decode cX12_readsFactor 19 = .ok (.ireturn, 1) := by decide +kernel
theorem dX12_readsFactor_20 : decode cX12_readsFactor 20 = .ok (.aload_n 0, 1) := by decide +kernel
theorem dX12_readsFactor_21 : decode cX12_readsFactor 21 = .ok (.invokevirtual 188, 3) := by decide +kernel
theorem dX12_readsFactor_24 : decode cX12_readsFactor 24 = .ok (.ifCond .eq 23, 3) := by decide +kernel
theorem dX12_readsFactor_27 : decode cX12_readsFactor 27 = .ok (.aload_n 0, 1) := by decide +kernel
theorem dX12_readsFactor_28 : decode cX12_readsFactor 28 = .ok (.invokevirtual 212, 3) := by decide +kernel
theorem dX12_readsFactor_31 : decode cX12_readsFactor 31 = .ok (.ifCond .ne 5, 3) := by decide +kernel
theorem dX12_readsFactor_34 : decode cX12_readsFactor 34 = .ok (.iconst 0, 1) := by decide +kernel
theorem dX12_readsFactor_35 : decode cX12_readsFactor 35 = .ok (.ireturn, 1) := by decide +kernel
theorem dX12_readsFactor_36 : decode cX12_readsFactor 36 = .ok (.aload_n 0, 1) := by decide +kernel
theorem dX12_readsFactor_37 : decode cX12_readsFactor 37 = .ok (.iconst 0, 1) := by decide +kernel
theorem dX12_readsFactor_38 : decode cX12_readsFactor 38 = .ok (.aload_n 0, 1) := by decide +kernel
theorem dX12_readsFactor_39 : decode cX12_readsFactor 39 = .ok (.getfield 185, 3) := by decide +kernel
theorem dX12_readsFactor_42 : decode cX12_readsFactor 42 = .ok (.invokevirtual 205, 3) := by decide +kernel
theorem dX12_readsFactor_45 : decode cX12_readsFactor 45 = .ok (.iconst 1, 1) := by decide +kernel
theorem dX12_readsFactor_46 : decode cX12_readsFactor 46 = .ok (.ireturn, 1) := by decide +kernel
theorem dX12_readsFactor_47 : decode cX12_readsFactor 47 = .ok (.aload_n 0, 1) := by decide +kernel
theorem dX12_readsFactor_48 : decode cX12_readsFactor 48 = .ok (.invokevirtual 175, 3) := by decide +kernel
theorem dX12_readsFactor_51 : decode cX12_readsFactor 51 = .ok (.invokestatic 215, 3) := by decide +kernel
theorem dX12_readsFactor_54 : decode cX12_readsFactor 54 = .ok (.istore_n 1, 1) := by decide +kernel
theorem dX12_readsFactor_55 : decode cX12_readsFactor 55 = .ok (.iload_n 1, 1) := by decide +kernel
theorem dX12_readsFactor_56 : decode cX12_readsFactor 56 = .ok (.iconst (-1), 1) := by decide +kernel
theorem dX12_readsFactor_57 : decode cX12_readsFactor 57 = .ok (.if_icmp .ne 13, 3) := by decide +kernel
theorem dX12_readsFactor_60 : decode cX12_readsFactor 60 = .ok (.aload_n 0, 1) := by decide +kernel
theorem dX12_readsFactor_61 : decode cX12_readsFactor 61 = .ok (.iconst 1, 1) := by decide +kernel
theorem dX12_readsFactor_62 : decode cX12_readsFactor 62 = .ok (.aload_n 0, 1) := by decide +kernel
theorem dX12_readsFactor_63 : decode cX12_readsFactor 63 = .ok (.getfield 169, 3) := by decide +kernel
theorem dX12_readsFactor_66 : decode cX12_readsFactor 66 = .ok (.invokevirtual 182, 3) := by decide +kernel
theorem dX12_readsFactor_69 : decode cX12_readsFactor 69 = .ok (.ireturn, 1) := by decide +kernel
theorem dX12_readsFactor_70 : decode cX12_readsFactor 70 = .ok (.aload_n 0, 1) := by decide +kernel
theorem dX12_readsFactor_71 : decode cX12_readsFactor 71 = .ok (.iconst 1, 1) := by decide +kernel
theorem dX12_readsFactor_72 : decode cX12_readsFactor 72 = .ok (.iload_n 1, 1) := by decide +kernel
theorem dX12_readsFactor_73 : decode cX12_readsFactor 73 = .ok (.invokevirtual 205, 3) := by decide +kernel
theorem dX12_readsFactor_76 : decode cX12_readsFactor 76 = .ok (.aload_n 0, 1) := by decide +kernel
theorem dX12_readsFactor_77 : decode cX12_readsFactor 77 = .ok (.aload_n 0, 1) := by decide +kernel
theorem dX12_readsFactor_78 : decode cX12_readsFactor 78 = .ok (.getfield 169, 3) := by decide +kernel
theorem dX12_readsFactor_81 : decode cX12_readsFactor 81 = .ok (.iconst 1, 1) := by decide +kernel
theorem dX12_readsFactor_82 : decode cX12_readsFactor 82 = .ok (.iadd, 1) := by decide +kernel
theorem dX12_readsFactor_83 : decode cX12_readsFactor 83 = .ok (.putfield 169, 3) := by decide +kernel
theorem dX12_readsFactor_86 : decode cX12_readsFactor 86 = .ok (.iconst 1, 1) := by decide +kernel
theorem dX12_readsFactor_87 : decode cX12_readsFactor 87 = .ok (.ireturn, 1) := by decide +kernel
theorem dX12_hasOpenSum_0 : decode cX12_hasOpenSum 0 = .ok (.iload_n 1, 1) := by decide +kernel
theorem dX12_hasOpenSum_1 : decode cX12_hasOpenSum 1 = .ok (.istore_n 2, 1) := by decide +kernel
theorem dX12_hasOpenSum_2 : decode cX12_hasOpenSum 2 = .ok (.iload_n 2, 1) := by decide +kernel
theorem dX12_hasOpenSum_3 : decode cX12_hasOpenSum 3 = .ok (.aload_n 0, 1) := by decide +kernel
theorem dX12_hasOpenSum_4 : decode cX12_hasOpenSum 4 = .ok (.getfield 199, 3) := by decide +kernel
theorem dX12_hasOpenSum_7 : decode cX12_hasOpenSum 7 = .ok (.if_icmp .ge 25, 3) := by decide +kernel
theorem dX12_hasOpenSum_10 : decode cX12_hasOpenSum 10 = .ok (.aload_n 0, 1) := by decide +kernel
theorem dX12_hasOpenSum_11 : decode cX12_hasOpenSum 11 = .ok (.getfield 41, 3) := by decide +kernel
theorem dX12_hasOpenSum_14 : decode cX12_hasOpenSum 14 = .ok (.iload_n 2, 1) := by decide +kernel
theorem dX12_hasOpenSum_15 : decode cX12_hasOpenSum 15 = .ok (.iaload, 1) := by decide +kernel
theorem dX12_hasOpenSum_16 : decode cX12_hasOpenSum 16 = .ok (.ldc 195, 2) := by decide +kernel
theorem dX12_hasOpenSum_18 : decode cX12_hasOpenSum 18 = .ok (.idiv, 1) := by decide +kernel
theorem dX12_hasOpenSum_19 : decode cX12_hasOpenSum 19 = .ok (.bipush 14, 2) := by decide +kernel
theorem dX12_hasOpenSum_21 : decode cX12_hasOpenSum 21 = .ok (.if_icmp .ne 5, 3) := by decide +kernel
theorem dX12_hasOpenSum_24 : decode cX12_hasOpenSum 24 = .ok (.iconst 1, 1) := by decide +kernel
theorem dX12_hasOpenSum_25 : decode cX12_hasOpenSum 25 = .ok (.ireturn, 1) := by decide +kernel
theorem dX12_hasOpenSum_26 : decode cX12_hasOpenSum 26 = .ok (.iinc 2 1, 3) := by decide +kernel
theorem dX12_hasOpenSum_29 : decode cX12_hasOpenSum 29 = .ok (.goto (-27), 3) := by decide +kernel
theorem dX12_hasOpenSum_32 : decode cX12_hasOpenSum 32 = .ok (.iconst 0, 1) := by decide +kernel
theorem dX12_hasOpenSum_33 : decode cX12_hasOpenSum 33 = .ok (.ireturn, 1) := by decide +kernel
theorem dX12_readsSum_0 : decode cX12_readsSum 0 = .ok (.aload_n 0, 1) := by decide +kernel
theorem dX12_readsSum_1 : decode cX12_readsSum 1 = .ok (.getfield 199, 3) := by decide +kernel
theorem dX12_readsSum_4 : decode cX12_readsSum 4 = .ok (.istore_n 1, 1) := by decide +kernel
theorem dX12_readsSum_5 : decode cX12_readsSum 5 = .ok (.aload_n 0, 1) := by decide +kernel
theorem dX12_readsSum_6 : decode cX12_readsSum 6 = .ok (.invokevirtual 219, 3) := by decide +kernel
theorem dX12_readsSum_9 : decode cX12_readsSum 9 = .ok (.ifCond .ne 5, 3) := by decide +kernel
theorem dX12_readsSum_12 : decode cX12_readsSum 12 = .ok (.iconst 0, 1) := by decide +kernel
theorem dX12_readsSum_13 : decode cX12_readsSum 13 = .ok (.ireturn, 1) := by decide +kernel
theorem dX12_readsSum_14 : decode cX12_readsSum 14 = .ok (.aload_n 0, 1) := by decide +kernel
theorem dX12_readsSum_15 : decode cX12_readsSum 15 = .ok (.invokevirtual 175, 3) := by decide +kernel
theorem dX12_readsSum_18 : decode cX12_readsSum 18 = .ok (.invokestatic 222, 3) := by decide +kernel
theorem dX12_readsSum_21 : decode cX12_readsSum 21 = .ok (.istore_n 2, 1) := by decide +kernel
theorem dX12_readsSum_22 : decode cX12_readsSum 22 = .ok (.iload_n 2, 1) := by decide +kernel
theorem dX12_readsSum_23 : decode cX12_readsSum 23 = .ok (.iconst (-1), 1) := by decide +kernel
theorem dX12_readsSum_24 : decode cX12_readsSum 24 = .ok (.if_icmp .eq 59, 3) := by decide +kernel
theorem dX12_readsSum_27 : decode cX12_readsSum 27 = .ok (.aload_n 0, 1) := by decide +kernel
theorem dX12_readsSum_28 : decode cX12_readsSum 28 = .ok (.iload_n 2, 1) := by decide +kernel
theorem dX12_readsSum_29 : decode cX12_readsSum 29 = .ok (.iconst 4, 1) := by decide +kernel
theorem dX12_readsSum_30 : decode cX12_readsSum 30 = .ok (.if_icmp .ge 7, 3) := by decide +kernel
theorem dX12_readsSum_33 : decode cX12_readsSum 33 = .ok (.iconst 1, 1) := by decide +kernel
theorem dX12_readsSum_34 : decode cX12_readsSum 34 = .ok (.goto 4, 3) := by decide +kernel
theorem dX12_readsSum_37 : decode cX12_readsSum 37 = .ok (.iconst 0, 1) := by decide +kernel
theorem dX12_readsSum_38 : decode cX12_readsSum 38 = .ok (.invokevirtual 225, 3) := by decide +kernel
theorem dX12_readsSum_41 : decode cX12_readsSum 41 = .ok (.aload_n 0, 1) := by decide +kernel
theorem dX12_readsSum_42 : decode cX12_readsSum 42 = .ok (.getfield 41, 3) := by decide +kernel
theorem dX12_readsSum_45 : decode cX12_readsSum 45 = .ok (.aload_n 0, 1) := by decide +kernel
theorem dX12_readsSum_46 : decode cX12_readsSum 46 = .ok (.getfield 199, 3) := by decide +kernel
theorem dX12_readsSum_49 : decode cX12_readsSum 49 = .ok (.ldc 195, 2) := by decide +kernel
theorem dX12_readsSum_51 : decode cX12_readsSum 51 = .ok (.iload_n 2, 1) := by decide +kernel
theorem dX12_readsSum_52 : decode cX12_readsSum 52 = .ok (.imul, 1) := by decide +kernel
theorem dX12_readsSum_53 : decode cX12_readsSum 53 = .ok (.iastore, 1) := by decide +kernel
theorem dX12_readsSum_54 : decode cX12_readsSum 54 = .ok (.aload_n 0, 1) := by decide +kernel
theorem dX12_readsSum_55 : decode cX12_readsSum 55 = .ok (.aload_n 0, 1) := by decide +kernel
theorem dX12_readsSum_56 : decode cX12_readsSum 56 = .ok (.getfield 199, 3) := by decide +kernel
theorem dX12_readsSum_59 : decode cX12_readsSum 59 = .ok (.iconst 1, 1) := by decide +kernel
theorem dX12_readsSum_60 : decode cX12_readsSum 60 = .ok (.iadd, 1) := by decide +kernel
theorem dX12_readsSum_61 : decode cX12_readsSum 61 = .ok (.putfield 199, 3) := by decide +kernel
theorem dX12_readsSum_64 : decode cX12_readsSum 64 = .ok (.aload_n 0, 1) := by decide +kernel
theorem dX12_readsSum_65 : decode cX12_readsSum 65 = .ok (.aload_n 0, 1) := by decide +kernel
theorem dX12_readsSum_66 : decode cX12_readsSum 66 = .ok (.getfield 169, 3) := by decide +kernel
theorem dX12_readsSum_69 : decode cX12_readsSum 69 = .ok (.iconst 1, 1) := by decide +kernel
theorem dX12_readsSum_70 : decode cX12_readsSum 70 = .ok (.iadd, 1) := by decide +kernel
theorem dX12_readsSum_71 : decode cX12_readsSum 71 = .ok (.putfield 169, 3) := by decide +kernel
theorem dX12_readsSum_74 : decode cX12_readsSum 74 = .ok (.aload_n 0, 1) := by decide +kernel
theorem dX12_readsSum_75 : decode cX12_readsSum 75 = .ok (.invokevirtual 219, 3) := by decide +kernel
theorem dX12_readsSum_78 : decode cX12_readsSum 78 = .ok (.ifCond .ne 85, 3) := by decide +kernel
theorem dX12_readsSum_81 : decode cX12_readsSum 81 = .ok (.iconst 0, 1) := by decide +kernel
theorem dX12_readsSum_82 : decode cX12_readsSum 82 = .ok (.ireturn, 1) := by decide +kernel
theorem dX12_readsSum_83 : decode cX12_readsSum 83 = .ok (.aload_n 0, 1) := by decide +kernel
theorem dX12_readsSum_84 : decode cX12_readsSum 84 = .ok (.invokevirtual 175, 3) := by decide +kernel
theorem dX12_readsSum_87 : decode cX12_readsSum 87 = .ok (.bipush 93, 2) := by decide +kernel
theorem dX12_readsSum_89 : decode cX12_readsSum 89 = .ok (.if_icmp .ne 49, 3) := by decide +kernel
theorem dX12_readsSum_92 : decode cX12_readsSum 92 = .ok (.aload_n 0, 1) := by decide +kernel
theorem dX12_readsSum_93 : decode cX12_readsSum 93 = .ok (.iload_n 1, 1) := by decide +kernel
theorem dX12_readsSum_94 : decode cX12_readsSum 94 = .ok (.invokevirtual 229, 3) := by decide +kernel
theorem dX12_readsSum_97 : decode cX12_readsSum 97 = .ok (.ifCond .eq 41, 3) := by decide +kernel
theorem dX12_readsSum_100 : decode cX12_readsSum 100 = .ok (.aload_n 0, 1) := by decide +kernel
theorem dX12_readsSum_101 : decode cX12_readsSum 101 = .ok (.iconst 1, 1) := by decide +kernel
theorem dX12_readsSum_102 : decode cX12_readsSum 102 = .ok (.invokevirtual 225, 3) := by decide +kernel
theorem dX12_readsSum_105 : decode cX12_readsSum 105 = .ok (.aload_n 0, 1) := by decide +kernel
theorem dX12_readsSum_106 : decode cX12_readsSum 106 = .ok (.aload_n 0, 1) := by decide +kernel
theorem dX12_readsSum_107 : decode cX12_readsSum 107 = .ok (.getfield 199, 3) := by decide +kernel
theorem dX12_readsSum_110 : decode cX12_readsSum 110 = .ok (.iconst 1, 1) := by decide +kernel
theorem dX12_readsSum_111 : decode cX12_readsSum 111 = .ok (.isub, 1) := by decide +kernel
theorem dX12_readsSum_112 : decode cX12_readsSum 112 = .ok (.putfield 199, 3) := by decide +kernel
theorem dX12_readsSum_115 : decode cX12_readsSum 115 = .ok (.aload_n 0, 1) := by decide +kernel
theorem dX12_readsSum_116 : decode cX12_readsSum 116 = .ok (.aload_n 0, 1) := by decide +kernel
theorem dX12_readsSum_117 : decode cX12_readsSum 117 = .ok (.getfield 196, 3) := by decide +kernel
theorem dX12_readsSum_120 : decode cX12_readsSum 120 = .ok (.iconst 1, 1) := by decide +kernel
theorem dX12_readsSum_121 : decode cX12_readsSum 121 = .ok (.isub, 1) := by decide +kernel
theorem dX12_readsSum_122 : decode cX12_readsSum 122 = .ok (.putfield 196, 3) := by decide +kernel
theorem dX12_readsSum_125 : decode cX12_readsSum 125 = .ok (.aload_n 0, 1) := by decide +kernel
theorem dX12_readsSum_126 : decode cX12_readsSum 126 = .ok (.aload_n 0, 1) := by decide +kernel
theorem dX12_readsSum_127 : decode cX12_readsSum 127 = .ok (.getfield 169, 3) := by decide +kernel
theorem dX12_readsSum_130 : decode cX12_readsSum 130 = .ok (.iconst 1, 1) := by decide +kernel
theorem dX12_readsSum_131 : decode cX12_readsSum 131 = .ok (.iadd, 1) := by decide +kernel
theorem dX12_readsSum_132 : decode cX12_readsSum 132 = .ok (.putfield 169, 3) := by decide +kernel
theorem dX12_readsSum_135 : decode cX12_readsSum 135 = .ok (.goto 28, 3) := by decide +kernel
theorem dX12_readsSum_138 : decode cX12_readsSum 138 = .ok (.aload_n 0, 1) := by decide +kernel
theorem dX12_readsSum_139 : decode cX12_readsSum 139 = .ok (.iload_n 1, 1) := by decide +kernel
theorem dX12_readsSum_140 : decode cX12_readsSum 140 = .ok (.invokevirtual 229, 3) := by decide +kernel
theorem dX12_readsSum_143 : decode cX12_readsSum 143 = .ok (.ifCond .eq 13, 3) := by decide +kernel
theorem dX12_readsSum_146 : decode cX12_readsSum 146 = .ok (.aload_n 0, 1) := by decide +kernel
theorem dX12_readsSum_147 : decode cX12_readsSum 147 = .ok (.iconst 1, 1) := by decide +kernel
theorem dX12_readsSum_148 : decode cX12_readsSum 148 = .ok (.aload_n 0, 1) := by decide +kernel
theorem dX12_readsSum_149 : decode cX12_readsSum 149 = .ok (.getfield 169, 3) := by decide +kernel
theorem dX12_readsSum_152 : decode cX12_readsSum 152 = .ok (.invokevirtual 182, 3) := by decide +kernel
theorem dX12_readsSum_155 : decode cX12_readsSum 155 = .ok (.ireturn, 1) := by decide +kernel
theorem dX12_readsSum_156 : decode cX12_readsSum 156 = .ok (.aload_n 0, 1) := by decide +kernel
theorem dX12_readsSum_157 : decode cX12_readsSum 157 = .ok (.iconst 1, 1) := by decide +kernel
theorem dX12_readsSum_158 : decode cX12_readsSum 158 = .ok (.invokevirtual 225, 3) := by decide +kernel
theorem dX12_readsSum_161 : decode cX12_readsSum 161 = .ok (.iconst 1, 1) := by decide +kernel
theorem dX12_readsSum_162 : decode cX12_readsSum 162 = .ok (.ireturn, 1) := by decide +kernel
theorem dX12_readsSum_163 : decode cX12_readsSum 163 = .ok (.goto (-149), 3) := by decide +kernel
theorem dX12_endsPiece_0 : decode cX12_endsPiece 0 = .ok (.aload_n 0, 1) := by decide +kernel
theorem dX12_endsPiece_1 : decode cX12_endsPiece 1 = .ok (.invokevirtual 202, 3) := by decide +kernel
theorem dX12_endsPiece_4 : decode cX12_endsPiece 4 = .ok (.bipush 10, 2) := by decide +kernel
theorem dX12_endsPiece_6 : decode cX12_endsPiece 6 = .ok (.if_icmp .ne 33, 3) := by decide +kernel
theorem dX12_endsPiece_9 : decode cX12_endsPiece 9 = .ok (.aload_n 0, 1) := by decide +kernel
theorem dX12_endsPiece_10 : decode cX12_endsPiece 10 = .ok (.bipush 10, 2) := by decide +kernel
theorem dX12_endsPiece_12 : decode cX12_endsPiece 12 = .ok (.iconst 0, 1) := by decide +kernel
theorem dX12_endsPiece_13 : decode cX12_endsPiece 13 = .ok (.invokevirtual 205, 3) := by decide +kernel
theorem dX12_endsPiece_16 : decode cX12_endsPiece 16 = .ok (.aload_n 0, 1) := by decide +kernel
theorem dX12_endsPiece_17 : decode cX12_endsPiece 17 = .ok (.aload_n 0, 1) := by decide +kernel
theorem dX12_endsPiece_18 : decode cX12_endsPiece 18 = .ok (.getfield 199, 3) := by decide +kernel
theorem dX12_endsPiece_21 : decode cX12_endsPiece 21 = .ok (.iconst 1, 1) := by decide +kernel
theorem dX12_endsPiece_22 : decode cX12_endsPiece 22 = .ok (.isub, 1) := by decide +kernel
theorem dX12_endsPiece_23 : decode cX12_endsPiece 23 = .ok (.putfield 199, 3) := by decide +kernel
theorem dX12_endsPiece_26 : decode cX12_endsPiece 26 = .ok (.aload_n 0, 1) := by decide +kernel
theorem dX12_endsPiece_27 : decode cX12_endsPiece 27 = .ok (.aload_n 0, 1) := by decide +kernel
theorem dX12_endsPiece_28 : decode cX12_endsPiece 28 = .ok (.getfield 196, 3) := by decide +kernel
theorem dX12_endsPiece_31 : decode cX12_endsPiece 31 = .ok (.iconst 1, 1) := by decide +kernel
theorem dX12_endsPiece_32 : decode cX12_endsPiece 32 = .ok (.isub, 1) := by decide +kernel
theorem dX12_endsPiece_33 : decode cX12_endsPiece 33 = .ok (.putfield 196, 3) := by decide +kernel
theorem dX12_endsPiece_36 : decode cX12_endsPiece 36 = .ok (.goto (-36), 3) := by decide +kernel
theorem dX12_endsPiece_39 : decode cX12_endsPiece 39 = .ok (.return_, 1) := by decide +kernel
theorem dX12_lands_0 : decode cX12_lands 0 = .ok (.aload_n 0, 1) := by decide +kernel
theorem dX12_lands_1 : decode cX12_lands 1 = .ok (.invokevirtual 202, 3) := by decide +kernel
theorem dX12_lands_4 : decode cX12_lands 4 = .ok (.bipush 11, 2) := by decide +kernel
theorem dX12_lands_6 : decode cX12_lands 6 = .ok (.if_icmp .eq 16, 3) := by decide +kernel
theorem dX12_lands_9 : decode cX12_lands 9 = .ok (.iload_n 1, 1) := by decide +kernel
theorem dX12_lands_10 : decode cX12_lands 10 = .ok (.ifCond .eq 63, 3) := by decide +kernel
theorem dX12_lands_13 : decode cX12_lands 13 = .ok (.aload_n 0, 1) := by decide +kernel
theorem dX12_lands_14 : decode cX12_lands 14 = .ok (.invokevirtual 202, 3) := by decide +kernel
theorem dX12_lands_17 : decode cX12_lands 17 = .ok (.bipush 12, 2) := by decide +kernel
theorem dX12_lands_19 : decode cX12_lands 19 = .ok (.if_icmp .ne 54, 3) := by decide +kernel
theorem dX12_lands_22 : decode cX12_lands 22 = .ok (.aload_n 0, 1) := by decide +kernel
theorem dX12_lands_23 : decode cX12_lands 23 = .ok (.getfield 41, 3) := by decide +kernel
theorem dX12_lands_26 : decode cX12_lands 26 = .ok (.aload_n 0, 1) := by decide +kernel
theorem dX12_lands_27 : decode cX12_lands 27 = .ok (.getfield 199, 3) := by decide +kernel
theorem dX12_lands_30 : decode cX12_lands 30 = .ok (.iconst 1, 1) := by decide +kernel
theorem dX12_lands_31 : decode cX12_lands 31 = .ok (.isub, 1) := by decide +kernel
theorem dX12_lands_32 : decode cX12_lands 32 = .ok (.iaload, 1) := by decide +kernel
theorem dX12_lands_33 : decode cX12_lands 33 = .ok (.ldc 195, 2) := by decide +kernel
theorem dX12_lands_35 : decode cX12_lands 35 = .ok (.irem, 1) := by decide +kernel
theorem dX12_lands_36 : decode cX12_lands 36 = .ok (.istore_n 2, 1) := by decide +kernel
theorem dX12_lands_37 : decode cX12_lands 37 = .ok (.aload_n 0, 1) := by decide +kernel
theorem dX12_lands_38 : decode cX12_lands 38 = .ok (.getfield 38, 3) := by decide +kernel
theorem dX12_lands_41 : decode cX12_lands 41 = .ok (.iload_n 2, 1) := by decide +kernel
theorem dX12_lands_42 : decode cX12_lands 42 = .ok (.ldc 195, 2) := by decide +kernel
theorem dX12_lands_44 : decode cX12_lands 44 = .ok (.aload_n 0, 1) := by decide +kernel
theorem dX12_lands_45 : decode cX12_lands 45 = .ok (.getfield 38, 3) := by decide +kernel
theorem dX12_lands_48 : decode cX12_lands 48 = .ok (.iload_n 2, 1) := by decide +kernel
theorem dX12_lands_49 : decode cX12_lands 49 = .ok (.iaload, 1) := by decide +kernel
theorem dX12_lands_50 : decode cX12_lands 50 = .ok (.ldc 195, 2) := by decide +kernel
theorem dX12_lands_52 : decode cX12_lands 52 = .ok (.idiv, 1) := by decide +kernel
theorem dX12_lands_53 : decode cX12_lands 53 = .ok (.imul, 1) := by decide +kernel
theorem dX12_lands_54 : decode cX12_lands 54 = .ok (.aload_n 0, 1) := by decide +kernel
theorem dX12_lands_55 : decode cX12_lands 55 = .ok (.getfield 192, 3) := by decide +kernel
theorem dX12_lands_58 : decode cX12_lands 58 = .ok (.iadd, 1) := by decide +kernel
theorem dX12_lands_59 : decode cX12_lands 59 = .ok (.iastore, 1) := by decide +kernel
theorem dX12_lands_60 : decode cX12_lands 60 = .ok (.aload_n 0, 1) := by decide +kernel
theorem dX12_lands_61 : decode cX12_lands 61 = .ok (.aload_n 0, 1) := by decide +kernel
theorem dX12_lands_62 : decode cX12_lands 62 = .ok (.getfield 199, 3) := by decide +kernel
theorem dX12_lands_65 : decode cX12_lands 65 = .ok (.iconst 1, 1) := by decide +kernel
theorem dX12_lands_66 : decode cX12_lands 66 = .ok (.isub, 1) := by decide +kernel
theorem dX12_lands_67 : decode cX12_lands 67 = .ok (.putfield 199, 3) := by decide +kernel
theorem dX12_lands_70 : decode cX12_lands 70 = .ok (.goto (-70), 3) := by decide +kernel
theorem dX12_lands_73 : decode cX12_lands 73 = .ok (.return_, 1) := by decide +kernel
theorem dX12_jumps_0 : decode cX12_jumps 0 = .ok (.aload_n 0, 1) := by decide +kernel
theorem dX12_jumps_1 : decode cX12_jumps 1 = .ok (.getfield 41, 3) := by decide +kernel
theorem dX12_jumps_4 : decode cX12_jumps 4 = .ok (.aload_n 0, 1) := by decide +kernel
theorem dX12_jumps_5 : decode cX12_jumps 5 = .ok (.getfield 199, 3) := by decide +kernel
theorem dX12_jumps_8 : decode cX12_jumps 8 = .ok (.ldc 195, 2) := by decide +kernel
theorem dX12_jumps_10 : decode cX12_jumps 10 = .ok (.iload_n 1, 1) := by decide +kernel
theorem dX12_jumps_11 : decode cX12_jumps 11 = .ok (.imul, 1) := by decide +kernel
theorem dX12_jumps_12 : decode cX12_jumps 12 = .ok (.aload_n 0, 1) := by decide +kernel
theorem dX12_jumps_13 : decode cX12_jumps 13 = .ok (.getfield 192, 3) := by decide +kernel
theorem dX12_jumps_16 : decode cX12_jumps 16 = .ok (.iadd, 1) := by decide +kernel
theorem dX12_jumps_17 : decode cX12_jumps 17 = .ok (.iastore, 1) := by decide +kernel
theorem dX12_jumps_18 : decode cX12_jumps 18 = .ok (.aload_n 0, 1) := by decide +kernel
theorem dX12_jumps_19 : decode cX12_jumps 19 = .ok (.aload_n 0, 1) := by decide +kernel
theorem dX12_jumps_20 : decode cX12_jumps 20 = .ok (.getfield 199, 3) := by decide +kernel
theorem dX12_jumps_23 : decode cX12_jumps 23 = .ok (.iconst 1, 1) := by decide +kernel
theorem dX12_jumps_24 : decode cX12_jumps 24 = .ok (.iadd, 1) := by decide +kernel
theorem dX12_jumps_25 : decode cX12_jumps 25 = .ok (.putfield 199, 3) := by decide +kernel
theorem dX12_jumps_28 : decode cX12_jumps 28 = .ok (.aload_n 0, 1) := by decide +kernel
theorem dX12_jumps_29 : decode cX12_jumps 29 = .ok (.iload_n 1, 1) := by decide +kernel
theorem dX12_jumps_30 : decode cX12_jumps 30 = .ok (.iconst 0, 1) := by decide +kernel
theorem dX12_jumps_31 : decode cX12_jumps 31 = .ok (.invokevirtual 205, 3) := by decide +kernel
theorem dX12_jumps_34 : decode cX12_jumps 34 = .ok (.aload_n 0, 1) := by decide +kernel
theorem dX12_jumps_35 : decode cX12_jumps 35 = .ok (.aload_n 0, 1) := by decide +kernel
theorem dX12_jumps_36 : decode cX12_jumps 36 = .ok (.getfield 169, 3) := by decide +kernel
theorem dX12_jumps_39 : decode cX12_jumps 39 = .ok (.iconst 1, 1) := by decide +kernel
theorem dX12_jumps_40 : decode cX12_jumps 40 = .ok (.iadd, 1) := by decide +kernel
theorem dX12_jumps_41 : decode cX12_jumps 41 = .ok (.putfield 169, 3) := by decide +kernel
theorem dX12_jumps_44 : decode cX12_jumps 44 = .ok (.return_, 1) := by decide +kernel
theorem dX12_readsCompared_0 : decode cX12_readsCompared 0 = .ok (.aload_n 0, 1) := by decide +kernel
theorem dX12_readsCompared_1 : decode cX12_readsCompared 1 = .ok (.invokevirtual 232, 3) := by decide +kernel
theorem dX12_readsCompared_4 : decode cX12_readsCompared 4 = .ok (.ifCond .ne 5, 3) := by decide +kernel
theorem dX12_readsCompared_7 : decode cX12_readsCompared 7 = .ok (.iconst 0, 1) := by decide +kernel
theorem dX12_readsCompared_8 : decode cX12_readsCompared 8 = .ok (.ireturn, 1) := by decide +kernel
theorem dX12_readsCompared_9 : decode cX12_readsCompared 9 = .ok (.aload_n 0, 1) := by decide +kernel
theorem dX12_readsCompared_10 : decode cX12_readsCompared 10 = .ok (.invokevirtual 175, 3) := by decide +kernel
theorem dX12_readsCompared_13 : decode cX12_readsCompared 13 = .ok (.bipush 60, 2) := by decide +kernel
theorem dX12_readsCompared_15 : decode cX12_readsCompared 15 = .ok (.if_icmp .ne 8, 3) := by decide +kernel
theorem dX12_readsCompared_18 : decode cX12_readsCompared 18 = .ok (.bipush 7, 2) := by decide +kernel
theorem dX12_readsCompared_20 : decode cX12_readsCompared 20 = .ok (.goto 32, 3) := by decide +kernel
theorem dX12_readsCompared_23 : decode cX12_readsCompared 23 = .ok (.aload_n 0, 1) := by decide +kernel
theorem dX12_readsCompared_24 : decode cX12_readsCompared 24 = .ok (.invokevirtual 175, 3) := by decide +kernel
theorem dX12_readsCompared_27 : decode cX12_readsCompared 27 = .ok (.bipush 62, 2) := by decide +kernel
theorem dX12_readsCompared_29 : decode cX12_readsCompared 29 = .ok (.if_icmp .ne 8, 3) := by decide +kernel
theorem dX12_readsCompared_32 : decode cX12_readsCompared 32 = .ok (.bipush 8, 2) := by decide +kernel
theorem dX12_readsCompared_34 : decode cX12_readsCompared 34 = .ok (.goto 18, 3) := by decide +kernel
theorem dX12_readsCompared_37 : decode cX12_readsCompared 37 = .ok (.aload_n 0, 1) := by decide +kernel
theorem dX12_readsCompared_38 : decode cX12_readsCompared 38 = .ok (.invokevirtual 175, 3) := by decide +kernel
theorem dX12_readsCompared_41 : decode cX12_readsCompared 41 = .ok (.bipush 61, 2) := by decide +kernel
theorem dX12_readsCompared_43 : decode cX12_readsCompared 43 = .ok (.if_icmp .ne 8, 3) := by decide +kernel
theorem dX12_readsCompared_46 : decode cX12_readsCompared 46 = .ok (.bipush 9, 2) := by decide +kernel
theorem dX12_readsCompared_48 : decode cX12_readsCompared 48 = .ok (.goto 4, 3) := by decide +kernel
theorem dX12_readsCompared_51 : decode cX12_readsCompared 51 = .ok (.iconst (-1), 1) := by decide +kernel
theorem dX12_readsCompared_52 : decode cX12_readsCompared 52 = .ok (.istore_n 1, 1) := by decide +kernel
theorem dX12_readsCompared_53 : decode cX12_readsCompared 53 = .ok (.iload_n 1, 1) := by decide +kernel
theorem dX12_readsCompared_54 : decode cX12_readsCompared 54 = .ok (.iconst (-1), 1) := by decide +kernel
theorem dX12_readsCompared_55 : decode cX12_readsCompared 55 = .ok (.if_icmp .ne 13, 3) := by decide +kernel
theorem dX12_readsCompared_58 : decode cX12_readsCompared 58 = .ok (.aload_n 0, 1) := by decide +kernel
theorem dX12_readsCompared_59 : decode cX12_readsCompared 59 = .ok (.iconst 1, 1) := by decide +kernel
theorem dX12_readsCompared_60 : decode cX12_readsCompared 60 = .ok (.aload_n 0, 1) := by decide +kernel
theorem dX12_readsCompared_61 : decode cX12_readsCompared 61 = .ok (.getfield 169, 3) := by decide +kernel
theorem dX12_readsCompared_64 : decode cX12_readsCompared 64 = .ok (.invokevirtual 182, 3) := by decide +kernel
theorem dX12_readsCompared_67 : decode cX12_readsCompared 67 = .ok (.ireturn, 1) := by decide +kernel
theorem dX12_readsCompared_68 : decode cX12_readsCompared 68 = .ok (.aload_n 0, 1) := by decide +kernel
theorem dX12_readsCompared_69 : decode cX12_readsCompared 69 = .ok (.aload_n 0, 1) := by decide +kernel
theorem dX12_readsCompared_70 : decode cX12_readsCompared 70 = .ok (.getfield 169, 3) := by decide +kernel
theorem dX12_readsCompared_73 : decode cX12_readsCompared 73 = .ok (.iconst 1, 1) := by decide +kernel
theorem dX12_readsCompared_74 : decode cX12_readsCompared 74 = .ok (.iadd, 1) := by decide +kernel
theorem dX12_readsCompared_75 : decode cX12_readsCompared 75 = .ok (.putfield 169, 3) := by decide +kernel
theorem dX12_readsCompared_78 : decode cX12_readsCompared 78 = .ok (.aload_n 0, 1) := by decide +kernel
theorem dX12_readsCompared_79 : decode cX12_readsCompared 79 = .ok (.invokevirtual 232, 3) := by decide +kernel
theorem dX12_readsCompared_82 : decode cX12_readsCompared 82 = .ok (.ifCond .ne 5, 3) := by decide +kernel
theorem dX12_readsCompared_85 : decode cX12_readsCompared 85 = .ok (.iconst 0, 1) := by decide +kernel
theorem dX12_readsCompared_86 : decode cX12_readsCompared 86 = .ok (.ireturn, 1) := by decide +kernel
theorem dX12_readsCompared_87 : decode cX12_readsCompared 87 = .ok (.aload_n 0, 1) := by decide +kernel
theorem dX12_readsCompared_88 : decode cX12_readsCompared 88 = .ok (.iload_n 1, 1) := by decide +kernel
theorem dX12_readsCompared_89 : decode cX12_readsCompared 89 = .ok (.iconst 0, 1) := by decide +kernel
theorem dX12_readsCompared_90 : decode cX12_readsCompared 90 = .ok (.invokevirtual 205, 3) := by decide +kernel
theorem dX12_readsCompared_93 : decode cX12_readsCompared 93 = .ok (.aload_n 0, 1) := by decide +kernel
theorem dX12_readsCompared_94 : decode cX12_readsCompared 94 = .ok (.invokevirtual 235, 3) := by decide +kernel
theorem dX12_readsCompared_97 : decode cX12_readsCompared 97 = .ok (.iconst 1, 1) := by decide +kernel
theorem dX12_readsCompared_98 : decode cX12_readsCompared 98 = .ok (.ireturn, 1) := by decide +kernel
theorem dX12_readsCondition_0 : decode cX12_readsCondition 0 = .ok (.aload_n 0, 1) := by decide +kernel
theorem dX12_readsCondition_1 : decode cX12_readsCondition 1 = .ok (.invokevirtual 175, 3) := by decide +kernel
theorem dX12_readsCondition_4 : decode cX12_readsCondition 4 = .ok (.bipush 40, 2) := by decide +kernel
theorem dX12_readsCondition_6 : decode cX12_readsCondition 6 = .ok (.if_icmp .eq 13, 3) := by decide +kernel
theorem dX12_readsCondition_9 : decode cX12_readsCondition 9 = .ok (.aload_n 0, 1) := by decide +kernel
theorem dX12_readsCondition_10 : decode cX12_readsCondition 10 = .ok (.iconst 1, 1) := by decide +kernel
theorem dX12_readsCondition_11 : decode cX12_readsCondition 11 = .ok (.aload_n 0, 1) := by decide +kernel
theorem dX12_readsCondition_12 : decode cX12_readsCondition 12 = .ok (.getfield 169, 3) := by decide +kernel
theorem dX12_readsCondition_15 : decode cX12_readsCondition 15 = .ok (.invokevirtual 182, 3) := by decide +kernel
theorem dX12_readsCondition_18 : decode cX12_readsCondition 18 = .ok (.ireturn, 1) := by decide +kernel
theorem dX12_readsCondition_19 : decode cX12_readsCondition 19 = .ok (.aload_n 0, 1) := by decide +kernel
theorem dX12_readsCondition_20 : decode cX12_readsCondition 20 = .ok (.iconst 0, 1) := by decide +kernel
theorem dX12_readsCondition_21 : decode cX12_readsCondition 21 = .ok (.putfield 196, 3) := by decide +kernel
theorem dX12_readsCondition_24 : decode cX12_readsCondition 24 = .ok (.aload_n 0, 1) := by decide +kernel
theorem dX12_readsCondition_25 : decode cX12_readsCondition 25 = .ok (.iconst 0, 1) := by decide +kernel
theorem dX12_readsCondition_26 : decode cX12_readsCondition 26 = .ok (.putfield 199, 3) := by decide +kernel
theorem dX12_readsCondition_29 : decode cX12_readsCondition 29 = .ok (.aload_n 0, 1) := by decide +kernel
theorem dX12_readsCondition_30 : decode cX12_readsCondition 30 = .ok (.bipush 13, 2) := by decide +kernel
theorem dX12_readsCondition_32 : decode cX12_readsCondition 32 = .ok (.invokevirtual 209, 3) := by decide +kernel
theorem dX12_readsCondition_35 : decode cX12_readsCondition 35 = .ok (.ifCond .ne 5, 3) := by decide +kernel
theorem dX12_readsCondition_38 : decode cX12_readsCondition 38 = .ok (.iconst 0, 1) := by decide +kernel
theorem dX12_readsCondition_39 : decode cX12_readsCondition 39 = .ok (.ireturn, 1) := by decide +kernel
theorem dX12_readsCondition_40 : decode cX12_readsCondition 40 = .ok (.aload_n 0, 1) := by decide +kernel
theorem dX12_readsCondition_41 : decode cX12_readsCondition 41 = .ok (.invokevirtual 175, 3) := by decide +kernel
theorem dX12_readsCondition_44 : decode cX12_readsCondition 44 = .ok (.bipush 33, 2) := by decide +kernel
theorem dX12_readsCondition_46 : decode cX12_readsCondition 46 = .ok (.if_icmp .eq 12, 3) := by decide +kernel
theorem dX12_readsCondition_49 : decode cX12_readsCondition 49 = .ok (.aload_n 0, 1) := by decide +kernel
theorem dX12_readsCondition_50 : decode cX12_readsCondition 50 = .ok (.invokevirtual 175, 3) := by decide +kernel
theorem dX12_readsCondition_53 : decode cX12_readsCondition 53 = .ok (.bipush 40, 2) := by decide +kernel
theorem dX12_readsCondition_55 : decode cX12_readsCondition 55 = .ok (.if_icmp .ne 28, 3) := by decide +kernel
theorem dX12_readsCondition_58 : decode cX12_readsCondition 58 = .ok (.aload_n 0, 1) := by decide +kernel
theorem dX12_readsCondition_59 : decode cX12_readsCondition 59 = .ok (.aload_n 0, 1) := by decide +kernel
theorem dX12_readsCondition_60 : decode cX12_readsCondition 60 = .ok (.invokevirtual 175, 3) := by decide +kernel
theorem dX12_readsCondition_63 : decode cX12_readsCondition 63 = .ok (.bipush 33, 2) := by decide +kernel
theorem dX12_readsCondition_65 : decode cX12_readsCondition 65 = .ok (.if_icmp .ne 8, 3) := by decide +kernel
theorem dX12_readsCondition_68 : decode cX12_readsCondition 68 = .ok (.bipush 10, 2) := by decide +kernel
theorem dX12_readsCondition_70 : decode cX12_readsCondition 70 = .ok (.goto 5, 3) := by decide +kernel
theorem dX12_readsCondition_73 : decode cX12_readsCondition 73 = .ok (.bipush 13, 2) := by decide +kernel
theorem dX12_readsCondition_75 : decode cX12_readsCondition 75 = .ok (.invokevirtual 209, 3) := by decide +kernel
theorem dX12_readsCondition_78 : decode cX12_readsCondition 78 = .ok (.ifCond .ne (-38), 3) := by decide +kernel
theorem dX12_readsCondition_81 : decode cX12_readsCondition 81 = .ok (.iconst 0, 1) := by decide +kernel
theorem dX12_readsCondition_82 : decode cX12_readsCondition 82 = .ok (.ireturn, 1) := by decide +kernel
theorem dX12_readsCondition_83 : decode cX12_readsCondition 83 = .ok (.aload_n 0, 1) := by decide +kernel
theorem dX12_readsCondition_84 : decode cX12_readsCondition 84 = .ok (.invokevirtual 238, 3) := by decide +kernel
theorem dX12_readsCondition_87 : decode cX12_readsCondition 87 = .ok (.ifCond .ne 5, 3) := by decide +kernel
theorem dX12_readsCondition_90 : decode cX12_readsCondition 90 = .ok (.iconst 0, 1) := by decide +kernel
theorem dX12_readsCondition_91 : decode cX12_readsCondition 91 = .ok (.ireturn, 1) := by decide +kernel
theorem dX12_readsCondition_92 : decode cX12_readsCondition 92 = .ok (.aload_n 0, 1) := by decide +kernel
theorem dX12_readsCondition_93 : decode cX12_readsCondition 93 = .ok (.invokevirtual 175, 3) := by decide +kernel
theorem dX12_readsCondition_96 : decode cX12_readsCondition 96 = .ok (.bipush 41, 2) := by decide +kernel
theorem dX12_readsCondition_98 : decode cX12_readsCondition 98 = .ok (.if_icmp .ne 54, 3) := by decide +kernel
theorem dX12_readsCondition_101 : decode cX12_readsCondition 101 = .ok (.aload_n 0, 1) := by decide +kernel
theorem dX12_readsCondition_102 : decode cX12_readsCondition 102 = .ok (.iconst 1, 1) := by decide +kernel
theorem dX12_readsCondition_103 : decode cX12_readsCondition 103 = .ok (.invokevirtual 241, 3) := by decide +kernel
theorem dX12_readsCondition_106 : decode cX12_readsCondition 106 = .ok (.aload_n 0, 1) := by decide +kernel
theorem dX12_readsCondition_107 : decode cX12_readsCondition 107 = .ok (.aload_n 0, 1) := by decide +kernel
theorem dX12_readsCondition_108 : decode cX12_readsCondition 108 = .ok (.getfield 199, 3) := by decide +kernel
theorem dX12_readsCondition_111 : decode cX12_readsCondition 111 = .ok (.iconst 1, 1) := by decide +kernel
theorem dX12_readsCondition_112 : decode cX12_readsCondition 112 = .ok (.isub, 1) := by decide +kernel
theorem dX12_readsCondition_113 : decode cX12_readsCondition 113 = .ok (.putfield 199, 3) := by decide +kernel
theorem dX12_readsCondition_116 : decode cX12_readsCondition 116 = .ok (.aload_n 0, 1) := by decide +kernel
theorem dX12_readsCondition_117 : decode cX12_readsCondition 117 = .ok (.aload_n 0, 1) := by decide +kernel
theorem dX12_readsCondition_118 : decode cX12_readsCondition 118 = .ok (.getfield 196, 3) := by decide +kernel
theorem dX12_readsCondition_121 : decode cX12_readsCondition 121 = .ok (.iconst 1, 1) := by decide +kernel
theorem dX12_readsCondition_122 : decode cX12_readsCondition 122 = .ok (.isub, 1) := by decide +kernel
theorem dX12_readsCondition_123 : decode cX12_readsCondition 123 = .ok (.putfield 196, 3) := by decide +kernel
theorem dX12_readsCondition_126 : decode cX12_readsCondition 126 = .ok (.aload_n 0, 1) := by decide +kernel
theorem dX12_readsCondition_127 : decode cX12_readsCondition 127 = .ok (.aload_n 0, 1) := by decide +kernel
theorem dX12_readsCondition_128 : decode cX12_readsCondition 128 = .ok (.getfield 169, 3) := by decide +kernel
theorem dX12_readsCondition_131 : decode cX12_readsCondition 131 = .ok (.iconst 1, 1) := by decide +kernel
theorem dX12_readsCondition_132 : decode cX12_readsCondition 132 = .ok (.iadd, 1) := by decide +kernel
theorem dX12_readsCondition_133 : decode cX12_readsCondition 133 = .ok (.putfield 169, 3) := by decide +kernel
theorem dX12_readsCondition_136 : decode cX12_readsCondition 136 = .ok (.aload_n 0, 1) := by decide +kernel
theorem dX12_readsCondition_137 : decode cX12_readsCondition 137 = .ok (.getfield 199, 3) := by decide +kernel
theorem dX12_readsCondition_140 : decode cX12_readsCondition 140 = .ok (.ifCond .ne 5, 3) := by decide +kernel
theorem dX12_readsCondition_143 : decode cX12_readsCondition 143 = .ok (.iconst 1, 1) := by decide +kernel
theorem dX12_readsCondition_144 : decode cX12_readsCondition 144 = .ok (.ireturn, 1) := by decide +kernel
theorem dX12_readsCondition_145 : decode cX12_readsCondition 145 = .ok (.aload_n 0, 1) := by decide +kernel
theorem dX12_readsCondition_146 : decode cX12_readsCondition 146 = .ok (.invokevirtual 235, 3) := by decide +kernel
theorem dX12_readsCondition_149 : decode cX12_readsCondition 149 = .ok (.goto (-57), 3) := by decide +kernel
theorem dX12_readsCondition_152 : decode cX12_readsCondition 152 = .ok (.aload_n 0, 1) := by decide +kernel
theorem dX12_readsCondition_153 : decode cX12_readsCondition 153 = .ok (.invokevirtual 175, 3) := by decide +kernel
theorem dX12_readsCondition_156 : decode cX12_readsCondition 156 = .ok (.bipush 38, 2) := by decide +kernel
theorem dX12_readsCondition_158 : decode cX12_readsCondition 158 = .ok (.if_icmp .eq 22, 3) := by decide +kernel
theorem dX12_readsCondition_161 : decode cX12_readsCondition 161 = .ok (.aload_n 0, 1) := by decide +kernel
theorem dX12_readsCondition_162 : decode cX12_readsCondition 162 = .ok (.invokevirtual 175, 3) := by decide +kernel
theorem dX12_readsCondition_165 : decode cX12_readsCondition 165 = .ok (.bipush 124, 2) := by decide +kernel
theorem dX12_readsCondition_167 : decode cX12_readsCondition 167 = .ok (.if_icmp .eq 13, 3) := by decide +kernel
theorem dX12_readsCondition_170 : decode cX12_readsCondition 170 = .ok (.aload_n 0, 1) := by decide +kernel
theorem dX12_readsCondition_171 : decode cX12_readsCondition 171 = .ok (.iconst 1, 1) := by decide +kernel
theorem dX12_readsCondition_172 : decode cX12_readsCondition 172 = .ok (.aload_n 0, 1) := by decide +kernel
theorem dX12_readsCondition_173 : decode cX12_readsCondition 173 = .ok (.getfield 169, 3) := by decide +kernel
theorem dX12_readsCondition_176 : decode cX12_readsCondition 176 = .ok (.invokevirtual 182, 3) := by decide +kernel
theorem dX12_readsCondition_179 : decode cX12_readsCondition 179 = .ok (.ireturn, 1) := by decide +kernel
theorem dX12_readsCondition_180 : decode cX12_readsCondition 180 = .ok (.aload_n 0, 1) := by decide +kernel
theorem dX12_readsCondition_181 : decode cX12_readsCondition 181 = .ok (.aload_n 0, 1) := by decide +kernel
theorem dX12_readsCondition_182 : decode cX12_readsCondition 182 = .ok (.invokevirtual 175, 3) := by decide +kernel
theorem dX12_readsCondition_185 : decode cX12_readsCondition 185 = .ok (.bipush 124, 2) := by decide +kernel
theorem dX12_readsCondition_187 : decode cX12_readsCondition 187 = .ok (.if_icmp .ne 7, 3) := by decide +kernel
theorem dX12_readsCondition_190 : decode cX12_readsCondition 190 = .ok (.iconst 1, 1) := by decide +kernel
theorem dX12_readsCondition_191 : decode cX12_readsCondition 191 = .ok (.goto 4, 3) := by decide +kernel
theorem dX12_readsCondition_194 : decode cX12_readsCondition 194 = .ok (.iconst 0, 1) := by decide +kernel
theorem dX12_readsCondition_195 : decode cX12_readsCondition 195 = .ok (.invokevirtual 241, 3) := by decide +kernel
theorem dX12_readsCondition_198 : decode cX12_readsCondition 198 = .ok (.aload_n 0, 1) := by decide +kernel
theorem dX12_readsCondition_199 : decode cX12_readsCondition 199 = .ok (.aload_n 0, 1) := by decide +kernel
theorem dX12_readsCondition_200 : decode cX12_readsCondition 200 = .ok (.invokevirtual 175, 3) := by decide +kernel
theorem dX12_readsCondition_203 : decode cX12_readsCondition 203 = .ok (.bipush 38, 2) := by decide +kernel
theorem dX12_readsCondition_205 : decode cX12_readsCondition 205 = .ok (.if_icmp .ne 8, 3) := by decide +kernel
theorem dX12_readsCondition_208 : decode cX12_readsCondition 208 = .ok (.bipush 11, 2) := by decide +kernel
theorem dX12_readsCondition_210 : decode cX12_readsCondition 210 = .ok (.goto 5, 3) := by decide +kernel
theorem dX12_readsCondition_213 : decode cX12_readsCondition 213 = .ok (.bipush 12, 2) := by decide +kernel
theorem dX12_readsCondition_215 : decode cX12_readsCondition 215 = .ok (.invokevirtual 244, 3) := by decide +kernel
theorem dX12_readsCondition_218 : decode cX12_readsCondition 218 = .ok (.goto (-178), 3) := by decide +kernel
theorem dX12_readsRule_0 : decode cX12_readsRule 0 = .ok (.aload_n 0, 1) := by decide +kernel
theorem dX12_readsRule_1 : decode cX12_readsRule 1 = .ok (.invokevirtual 175, 3) := by decide +kernel
theorem dX12_readsRule_4 : decode cX12_readsRule 4 = .ok (.istore_n 1, 1) := by decide +kernel
theorem dX12_readsRule_5 : decode cX12_readsRule 5 = .ok (.iload_n 1, 1) := by decide +kernel
theorem dX12_readsRule_6 : decode cX12_readsRule 6 = .ok (.bipush 99, 2) := by decide +kernel
theorem dX12_readsRule_8 : decode cX12_readsRule 8 = .ok (.if_icmp .eq 25, 3) := by decide +kernel
theorem dX12_readsRule_11 : decode cX12_readsRule 11 = .ok (.iload_n 1, 1) := by decide +kernel
theorem dX12_readsRule_12 : decode cX12_readsRule 12 = .ok (.bipush 106, 2) := by decide +kernel
theorem dX12_readsRule_14 : decode cX12_readsRule 14 = .ok (.if_icmp .eq 19, 3) := by decide +kernel
theorem dX12_readsRule_17 : decode cX12_readsRule 17 = .ok (.iload_n 1, 1) := by decide +kernel
theorem dX12_readsRule_18 : decode cX12_readsRule 18 = .ok (.bipush 120, 2) := by decide +kernel
theorem dX12_readsRule_20 : decode cX12_readsRule 20 = .ok (.if_icmp .eq 13, 3) := by decide +kernel
theorem dX12_readsRule_23 : decode cX12_readsRule 23 = .ok (.aload_n 0, 1) := by decide +kernel
theorem dX12_readsRule_24 : decode cX12_readsRule 24 = .ok (.iconst 1, 1) := by decide +kernel
theorem dX12_readsRule_25 : decode cX12_readsRule 25 = .ok (.aload_n 0, 1) := by decide +kernel
theorem dX12_readsRule_26 : decode cX12_readsRule 26 = .ok (.getfield 169, 3) := by decide +kernel
theorem dX12_readsRule_29 : decode cX12_readsRule 29 = .ok (.invokevirtual 182, 3) := by decide +kernel
theorem dX12_readsRule_32 : decode cX12_readsRule 32 = .ok (.ireturn, 1) := by decide +kernel
theorem dX12_readsRule_33 : decode cX12_readsRule 33 = .ok (.aload_n 0, 1) := by decide +kernel
theorem dX12_readsRule_34 : decode cX12_readsRule 34 = .ok (.getfield 247, 3) := by decide +kernel
theorem dX12_readsRule_37 : decode cX12_readsRule 37 = .ok (.bipush 16, 2) := by decide +kernel
theorem dX12_readsRule_39 : decode cX12_readsRule 39 = .ok (.if_icmp .ne 13, 3) := by decide +kernel
theorem dX12_readsRule_42 : decode cX12_readsRule 42 = .ok (.aload_n 0, 1) := by decide +kernel
theorem dX12_readsRule_43 : decode cX12_readsRule 43 = .ok (.iconst 4, 1) := by decide +kernel
theorem dX12_readsRule_44 : decode cX12_readsRule 44 = .ok (.aload_n 0, 1) := by decide +kernel
theorem dX12_readsRule_45 : decode cX12_readsRule 45 = .ok (.getfield 169, 3) := by decide +kernel
theorem dX12_readsRule_48 : decode cX12_readsRule 48 = .ok (.invokevirtual 182, 3) := by decide +kernel
theorem dX12_readsRule_51 : decode cX12_readsRule 51 = .ok (.ireturn, 1) := by decide +kernel
theorem dX12_readsRule_52 : decode cX12_readsRule 52 = .ok (.aload_n 0, 1) := by decide +kernel
theorem dX12_readsRule_53 : decode cX12_readsRule 53 = .ok (.getfield 44, 3) := by decide +kernel
theorem dX12_readsRule_56 : decode cX12_readsRule 56 = .ok (.aload_n 0, 1) := by decide +kernel
theorem dX12_readsRule_57 : decode cX12_readsRule 57 = .ok (.getfield 247, 3) := by decide +kernel
theorem dX12_readsRule_60 : decode cX12_readsRule 60 = .ok (.iload_n 1, 1) := by decide +kernel
theorem dX12_readsRule_61 : decode cX12_readsRule 61 = .ok (.iastore, 1) := by decide +kernel
theorem dX12_readsRule_62 : decode cX12_readsRule 62 = .ok (.aload_n 0, 1) := by decide +kernel
theorem dX12_readsRule_63 : decode cX12_readsRule 63 = .ok (.aload_n 0, 1) := by decide +kernel
theorem dX12_readsRule_64 : decode cX12_readsRule 64 = .ok (.getfield 169, 3) := by decide +kernel
theorem dX12_readsRule_67 : decode cX12_readsRule 67 = .ok (.iconst 1, 1) := by decide +kernel
theorem dX12_readsRule_68 : decode cX12_readsRule 68 = .ok (.iadd, 1) := by decide +kernel
theorem dX12_readsRule_69 : decode cX12_readsRule 69 = .ok (.putfield 169, 3) := by decide +kernel
theorem dX12_readsRule_72 : decode cX12_readsRule 72 = .ok (.aload_n 0, 1) := by decide +kernel
theorem dX12_readsRule_73 : decode cX12_readsRule 73 = .ok (.getfield 47, 3) := by decide +kernel
theorem dX12_readsRule_76 : decode cX12_readsRule 76 = .ok (.aload_n 0, 1) := by decide +kernel
theorem dX12_readsRule_77 : decode cX12_readsRule 77 = .ok (.getfield 247, 3) := by decide +kernel
theorem dX12_readsRule_80 : decode cX12_readsRule 80 = .ok (.aload_n 0, 1) := by decide +kernel
theorem dX12_readsRule_81 : decode cX12_readsRule 81 = .ok (.getfield 192, 3) := by decide +kernel
theorem dX12_readsRule_84 : decode cX12_readsRule 84 = .ok (.iastore, 1) := by decide +kernel
theorem dX12_readsRule_85 : decode cX12_readsRule 85 = .ok (.aload_n 0, 1) := by decide +kernel
theorem dX12_readsRule_86 : decode cX12_readsRule 86 = .ok (.iconst 0, 1) := by decide +kernel
theorem dX12_readsRule_87 : decode cX12_readsRule 87 = .ok (.putfield 196, 3) := by decide +kernel
theorem dX12_readsRule_90 : decode cX12_readsRule 90 = .ok (.aload_n 0, 1) := by decide +kernel
theorem dX12_readsRule_91 : decode cX12_readsRule 91 = .ok (.iconst 0, 1) := by decide +kernel
theorem dX12_readsRule_92 : decode cX12_readsRule 92 = .ok (.putfield 199, 3) := by decide +kernel
theorem dX12_readsRule_95 : decode cX12_readsRule 95 = .ok (.iload_n 1, 1) := by decide +kernel
theorem dX12_readsRule_96 : decode cX12_readsRule 96 = .ok (.bipush 120, 2) := by decide +kernel
theorem dX12_readsRule_98 : decode cX12_readsRule 98 = .ok (.if_icmp .eq 12, 3) := by decide +kernel
theorem dX12_readsRule_101 : decode cX12_readsRule 101 = .ok (.aload_n 0, 1) := by decide +kernel
theorem dX12_readsRule_102 : decode cX12_readsRule 102 = .ok (.invokevirtual 232, 3) := by decide +kernel
theorem dX12_readsRule_105 : decode cX12_readsRule 105 = .ok (.ifCond .ne 5, 3) := by decide +kernel
theorem dX12_readsRule_108 : decode cX12_readsRule 108 = .ok (.iconst 0, 1) := by decide +kernel
theorem dX12_readsRule_109 : decode cX12_readsRule 109 = .ok (.ireturn, 1) := by decide +kernel
theorem dX12_readsRule_110 : decode cX12_readsRule 110 = .ok (.aload_n 0, 1) := by decide +kernel
theorem dX12_readsRule_111 : decode cX12_readsRule 111 = .ok (.getfield 50, 3) := by decide +kernel
theorem dX12_readsRule_114 : decode cX12_readsRule 114 = .ok (.aload_n 0, 1) := by decide +kernel
theorem dX12_readsRule_115 : decode cX12_readsRule 115 = .ok (.getfield 247, 3) := by decide +kernel
theorem dX12_readsRule_118 : decode cX12_readsRule 118 = .ok (.aload_n 0, 1) := by decide +kernel
theorem dX12_readsRule_119 : decode cX12_readsRule 119 = .ok (.getfield 192, 3) := by decide +kernel
theorem dX12_readsRule_122 : decode cX12_readsRule 122 = .ok (.iastore, 1) := by decide +kernel
theorem dX12_readsRule_123 : decode cX12_readsRule 123 = .ok (.aload_n 0, 1) := by decide +kernel
theorem dX12_readsRule_124 : decode cX12_readsRule 124 = .ok (.invokevirtual 250, 3) := by decide +kernel
theorem dX12_readsRule_127 : decode cX12_readsRule 127 = .ok (.ifCond .ne 5, 3) := by decide +kernel
theorem dX12_readsRule_130 : decode cX12_readsRule 130 = .ok (.iconst 0, 1) := by decide +kernel
theorem dX12_readsRule_131 : decode cX12_readsRule 131 = .ok (.ireturn, 1) := by decide +kernel
theorem dX12_readsRule_132 : decode cX12_readsRule 132 = .ok (.aload_n 0, 1) := by decide +kernel
theorem dX12_readsRule_133 : decode cX12_readsRule 133 = .ok (.getfield 53, 3) := by decide +kernel
theorem dX12_readsRule_136 : decode cX12_readsRule 136 = .ok (.aload_n 0, 1) := by decide +kernel
theorem dX12_readsRule_137 : decode cX12_readsRule 137 = .ok (.getfield 247, 3) := by decide +kernel
theorem dX12_readsRule_140 : decode cX12_readsRule 140 = .ok (.aload_n 0, 1) := by decide +kernel
theorem dX12_readsRule_141 : decode cX12_readsRule 141 = .ok (.getfield 192, 3) := by decide +kernel
theorem dX12_readsRule_144 : decode cX12_readsRule 144 = .ok (.iastore, 1) := by decide +kernel
theorem dX12_readsRule_145 : decode cX12_readsRule 145 = .ok (.aload_n 0, 1) := by decide +kernel
theorem dX12_readsRule_146 : decode cX12_readsRule 146 = .ok (.aload_n 0, 1) := by decide +kernel
theorem dX12_readsRule_147 : decode cX12_readsRule 147 = .ok (.getfield 247, 3) := by decide +kernel
theorem dX12_readsRule_150 : decode cX12_readsRule 150 = .ok (.iconst 1, 1) := by decide +kernel
theorem dX12_readsRule_151 : decode cX12_readsRule 151 = .ok (.iadd, 1) := by decide +kernel
theorem dX12_readsRule_152 : decode cX12_readsRule 152 = .ok (.putfield 247, 3) := by decide +kernel
theorem dX12_readsRule_155 : decode cX12_readsRule 155 = .ok (.iconst 1, 1) := by decide +kernel
theorem dX12_readsRule_156 : decode cX12_readsRule 156 = .ok (.ireturn, 1) := by decide +kernel
theorem dX12_beginsText_0 : decode cX12_beginsText 0 = .ok (.aload_n 0, 1) := by decide +kernel
theorem dX12_beginsText_1 : decode cX12_beginsText 1 = .ok (.iconst 0, 1) := by decide +kernel
theorem dX12_beginsText_2 : decode cX12_beginsText 2 = .ok (.putfield 169, 3) := by decide +kernel
theorem dX12_beginsText_5 : decode cX12_beginsText 5 = .ok (.aload_n 0, 1) := by decide +kernel
theorem dX12_beginsText_6 : decode cX12_beginsText 6 = .ok (.iload_n 1, 1) := by decide +kernel
theorem dX12_beginsText_7 : decode cX12_beginsText 7 = .ok (.putfield 172, 3) := by decide +kernel
theorem dX12_beginsText_10 : decode cX12_beginsText 10 = .ok (.aload_n 0, 1) := by decide +kernel
theorem dX12_beginsText_11 : decode cX12_beginsText 11 = .ok (.iconst 0, 1) := by decide +kernel
theorem dX12_beginsText_12 : decode cX12_beginsText 12 = .ok (.putfield 192, 3) := by decide +kernel
theorem dX12_beginsText_15 : decode cX12_beginsText 15 = .ok (.aload_n 0, 1) := by decide +kernel
theorem dX12_beginsText_16 : decode cX12_beginsText 16 = .ok (.iconst 0, 1) := by decide +kernel
theorem dX12_beginsText_17 : decode cX12_beginsText 17 = .ok (.putfield 247, 3) := by decide +kernel
theorem dX12_beginsText_20 : decode cX12_beginsText 20 = .ok (.return_, 1) := by decide +kernel
theorem dX12_law_0 : decode cX12_law 0 = .ok (.iload_n 1, 1) := by decide +kernel
theorem dX12_law_1 : decode cX12_law 1 = .ok (.iconst 1, 1) := by decide +kernel
theorem dX12_law_2 : decode cX12_law 2 = .ok (.sipush 240, 3) := by decide +kernel
theorem dX12_law_5 : decode cX12_law 5 = .ok (.invokestatic 134, 3) := by decide +kernel
theorem dX12_law_8 : decode cX12_law 8 = .ok (.ifCond .eq 11, 3) := by decide +kernel
theorem dX12_law_11 : decode cX12_law 11 = .ok (.iload_n 1, 1) := by decide +kernel
theorem dX12_law_12 : decode cX12_law 12 = .ok (.aload_n 0, 1) := by decide +kernel
theorem dX12_law_13 : decode cX12_law 13 = .ok (.getfield 162, 3) := by decide +kernel
theorem dX12_law_16 : decode cX12_law 16 = .ok (.if_icmp .le 5, 3) := by decide +kernel
theorem dX12_law_19 : decode cX12_law 19 = .ok (.iconst (-1), 1) := by decide +kernel
theorem dX12_law_20 : decode cX12_law 20 = .ok (.ireturn, 1) := by decide +kernel
theorem dX12_law_21 : decode cX12_law 21 = .ok (.aload_n 0, 1) := by decide +kernel
theorem dX12_law_22 : decode cX12_law 22 = .ok (.iload_n 1, 1) := by decide +kernel
theorem dX12_law_23 : decode cX12_law 23 = .ok (.invokevirtual 253, 3) := by decide +kernel
theorem dX12_law_26 : decode cX12_law 26 = .ok (.aload_n 0, 1) := by decide +kernel
theorem dX12_law_27 : decode cX12_law 27 = .ok (.invokevirtual 256, 3) := by decide +kernel
theorem dX12_law_30 : decode cX12_law 30 = .ok (.istore_n 2, 1) := by decide +kernel
theorem dX12_law_31 : decode cX12_law 31 = .ok (.iload_n 2, 1) := by decide +kernel
theorem dX12_law_32 : decode cX12_law 32 = .ok (.ifCond .eq 39, 3) := by decide +kernel
theorem dX12_law_35 : decode cX12_law 35 = .ok (.aload_n 0, 1) := by decide +kernel
theorem dX12_law_36 : decode cX12_law 36 = .ok (.getfield 169, 3) := by decide +kernel
theorem dX12_law_39 : decode cX12_law 39 = .ok (.aload_n 0, 1) := by decide +kernel
theorem dX12_law_40 : decode cX12_law 40 = .ok (.getfield 172, 3) := by decide +kernel
theorem dX12_law_43 : decode cX12_law 43 = .ok (.if_icmp .ge 28, 3) := by decide +kernel
theorem dX12_law_46 : decode cX12_law 46 = .ok (.aload_n 0, 1) := by decide +kernel
theorem dX12_law_47 : decode cX12_law 47 = .ok (.bipush 59, 2) := by decide +kernel
theorem dX12_law_49 : decode cX12_law 49 = .ok (.invokevirtual 259, 3) := by decide +kernel
theorem dX12_law_52 : decode cX12_law 52 = .ok (.ifCond .eq 14, 3) := by decide +kernel
theorem dX12_law_55 : decode cX12_law 55 = .ok (.aload_n 0, 1) := by decide +kernel
theorem dX12_law_56 : decode cX12_law 56 = .ok (.invokevirtual 256, 3) := by decide +kernel
theorem dX12_law_59 : decode cX12_law 59 = .ok (.ifCond .eq 7, 3) := by decide +kernel
theorem dX12_law_62 : decode cX12_law 62 = .ok (.iconst 1, 1) := by decide +kernel
theorem dX12_law_63 : decode cX12_law 63 = .ok (.goto 4, 3) := by decide +kernel
theorem dX12_law_66 : decode cX12_law 66 = .ok (.iconst 0, 1) := by decide +kernel
theorem dX12_law_67 : decode cX12_law 67 = .ok (.istore_n 2, 1) := by decide +kernel
theorem dX12_law_68 : decode cX12_law 68 = .ok (.goto (-37), 3) := by decide +kernel
theorem dX12_law_71 : decode cX12_law 71 = .ok (.aload_n 0, 1) := by decide +kernel
theorem dX12_law_72 : decode cX12_law 72 = .ok (.iconst 0, 1) := by decide +kernel
theorem dX12_law_73 : decode cX12_law 73 = .ok (.putfield 162, 3) := by decide +kernel
theorem dX12_law_76 : decode cX12_law 76 = .ok (.iload_n 2, 1) := by decide +kernel
theorem dX12_law_77 : decode cX12_law 77 = .ok (.ifCond .ne 8, 3) := by decide +kernel
theorem dX12_law_80 : decode cX12_law 80 = .ok (.aload_n 0, 1) := by decide +kernel
theorem dX12_law_81 : decode cX12_law 81 = .ok (.getfield 179, 3) := by decide +kernel
theorem dX12_law_84 : decode cX12_law 84 = .ok (.ireturn, 1) := by decide +kernel
theorem dX12_law_85 : decode cX12_law 85 = .ok (.aload_n 0, 1) := by decide +kernel
theorem dX12_law_86 : decode cX12_law 86 = .ok (.aload_n 0, 1) := by decide +kernel
theorem dX12_law_87 : decode cX12_law 87 = .ok (.getfield 247, 3) := by decide +kernel
theorem dX12_law_90 : decode cX12_law 90 = .ok (.putfield 262, 3) := by decide +kernel
theorem dX12_law_93 : decode cX12_law 93 = .ok (.iconst 0, 1) := by decide +kernel
theorem dX12_law_94 : decode cX12_law 94 = .ok (.istore_n 3, 1) := by decide +kernel
theorem dX12_law_95 : decode cX12_law 95 = .ok (.iload_n 3, 1) := by decide +kernel
theorem dX12_law_96 : decode cX12_law 96 = .ok (.aload_n 0, 1) := by decide +kernel
theorem dX12_law_97 : decode cX12_law 97 = .ok (.getfield 192, 3) := by decide +kernel
theorem dX12_law_100 : decode cX12_law 100 = .ok (.if_icmp .ge 21, 3) := by decide +kernel
theorem dX12_law_103 : decode cX12_law 103 = .ok (.aload_n 0, 1) := by decide +kernel
theorem dX12_law_104 : decode cX12_law 104 = .ok (.getfield 56, 3) := by decide +kernel
theorem dX12_law_107 : decode cX12_law 107 = .ok (.iload_n 3, 1) := by decide +kernel
theorem dX12_law_108 : decode cX12_law 108 = .ok (.aload_n 0, 1) := by decide +kernel
theorem dX12_law_109 : decode cX12_law 109 = .ok (.getfield 38, 3) := by decide +kernel
theorem dX12_law_112 : decode cX12_law 112 = .ok (.iload_n 3, 1) := by decide +kernel
theorem dX12_law_113 : decode cX12_law 113 = .ok (.iaload, 1) := by decide +kernel
theorem dX12_law_114 : decode cX12_law 114 = .ok (.iastore, 1) := by decide +kernel
theorem dX12_law_115 : decode cX12_law 115 = .ok (.iinc 3 1, 3) := by decide +kernel
theorem dX12_law_118 : decode cX12_law 118 = .ok (.goto (-23), 3) := by decide +kernel
theorem dX12_law_121 : decode cX12_law 121 = .ok (.iconst 0, 1) := by decide +kernel
theorem dX12_law_122 : decode cX12_law 122 = .ok (.istore_n 3, 1) := by decide +kernel
theorem dX12_law_123 : decode cX12_law 123 = .ok (.iload_n 3, 1) := by decide +kernel
theorem dX12_law_124 : decode cX12_law 124 = .ok (.aload_n 0, 1) := by decide +kernel
theorem dX12_law_125 : decode cX12_law 125 = .ok (.getfield 247, 3) := by decide +kernel
theorem dX12_law_128 : decode cX12_law 128 = .ok (.if_icmp .ge 57, 3) := by decide +kernel
theorem dX12_law_131 : decode cX12_law 131 = .ok (.aload_n 0, 1) := by decide +kernel
theorem dX12_law_132 : decode cX12_law 132 = .ok (.getfield 59, 3) := by decide +kernel
theorem dX12_law_135 : decode cX12_law 135 = .ok (.iload_n 3, 1) := by decide +kernel
theorem dX12_law_136 : decode cX12_law 136 = .ok (.aload_n 0, 1) := by decide +kernel
theorem dX12_law_137 : decode cX12_law 137 = .ok (.getfield 44, 3) := by decide +kernel
theorem dX12_law_140 : decode cX12_law 140 = .ok (.iload_n 3, 1) := by decide +kernel
theorem dX12_law_141 : decode cX12_law 141 = .ok (.iaload, 1) := by decide +kernel
theorem dX12_law_142 : decode cX12_law 142 = .ok (.iastore, 1) := by decide +kernel
theorem dX12_law_143 : decode cX12_law 143 = .ok (.aload_n 0, 1) := by decide +kernel
theorem dX12_law_144 : decode cX12_law 144 = .ok (.getfield 62, 3) := by decide +kernel
theorem dX12_law_147 : decode cX12_law 147 = .ok (.iload_n 3, 1) := by decide +kernel
theorem dX12_law_148 : decode cX12_law 148 = .ok (.aload_n 0, 1) := by decide +kernel
theorem dX12_law_149 : decode cX12_law 149 = .ok (.getfield 47, 3) := by decide +kernel
theorem dX12_law_152 : decode cX12_law 152 = .ok (.iload_n 3, 1) := by decide +kernel
theorem dX12_law_153 : decode cX12_law 153 = .ok (.iaload, 1) := by decide +kernel
theorem dX12_law_154 : decode cX12_law 154 = .ok (.iastore, 1) := by decide +kernel
theorem dX12_law_155 : decode cX12_law 155 = .ok (.aload_n 0, 1) := by decide +kernel
theorem dX12_law_156 : decode cX12_law 156 = .ok (.getfield 65, 3) := by decide +kernel
theorem dX12_law_159 : decode cX12_law 159 = .ok (.iload_n 3, 1) := by decide +kernel
theorem dX12_law_160 : decode cX12_law 160 = .ok (.aload_n 0, 1) := by decide +kernel
theorem dX12_law_161 : decode cX12_law 161 = .ok (.getfield 50, 3) := by decide +kernel
theorem dX12_law_164 : decode cX12_law 164 = .ok (.iload_n 3, 1) := by decide +kernel
theorem dX12_law_165 : decode cX12_law 165 = .ok (.iaload, 1) := by decide +kernel
theorem dX12_law_166 : decode cX12_law 166 = .ok (.iastore, 1) := by decide +kernel
theorem dX12_law_167 : decode cX12_law 167 = .ok (.aload_n 0, 1) := by decide +kernel
theorem dX12_law_168 : decode cX12_law 168 = .ok (.getfield 68, 3) := by decide +kernel
theorem dX12_law_171 : decode cX12_law 171 = .ok (.iload_n 3, 1) := by decide +kernel
theorem dX12_law_172 : decode cX12_law 172 = .ok (.aload_n 0, 1) := by decide +kernel
theorem dX12_law_173 : decode cX12_law 173 = .ok (.getfield 53, 3) := by decide +kernel
theorem dX12_law_176 : decode cX12_law 176 = .ok (.iload_n 3, 1) := by decide +kernel
theorem dX12_law_177 : decode cX12_law 177 = .ok (.iaload, 1) := by decide +kernel
theorem dX12_law_178 : decode cX12_law 178 = .ok (.iastore, 1) := by decide +kernel
theorem dX12_law_179 : decode cX12_law 179 = .ok (.iinc 3 1, 3) := by decide +kernel
theorem dX12_law_182 : decode cX12_law 182 = .ok (.goto (-59), 3) := by decide +kernel
theorem dX12_law_185 : decode cX12_law 185 = .ok (.aload_n 0, 1) := by decide +kernel
theorem dX12_law_186 : decode cX12_law 186 = .ok (.getfield 247, 3) := by decide +kernel
theorem dX12_law_189 : decode cX12_law 189 = .ok (.ireturn, 1) := by decide +kernel
theorem dX12_reckon_0 : decode cX12_reckon 0 = .ok (.iload_n 0, 1) := by decide +kernel
theorem dX12_reckon_1 : decode cX12_reckon 1 = .ok (.tableswitch 85 2 8 #[43, 47, 51, 55, 59, 63, 74], 43) := by decide +kernel
theorem dX12_reckon_44 : decode cX12_reckon 44 = .ok (.iload_n 1, 1) := by decide +kernel
theorem dX12_reckon_45 : decode cX12_reckon 45 = .ok (.iload_n 2, 1) := by decide +kernel
theorem dX12_reckon_46 : decode cX12_reckon 46 = .ok (.iadd, 1) := by decide +kernel
theorem dX12_reckon_47 : decode cX12_reckon 47 = .ok (.ireturn, 1) := by decide +kernel
theorem dX12_reckon_48 : decode cX12_reckon 48 = .ok (.iload_n 1, 1) := by decide +kernel
theorem dX12_reckon_49 : decode cX12_reckon 49 = .ok (.iload_n 2, 1) := by decide +kernel
theorem dX12_reckon_50 : decode cX12_reckon 50 = .ok (.isub, 1) := by decide +kernel
theorem dX12_reckon_51 : decode cX12_reckon 51 = .ok (.ireturn, 1) := by decide +kernel
theorem dX12_reckon_52 : decode cX12_reckon 52 = .ok (.iload_n 1, 1) := by decide +kernel
theorem dX12_reckon_53 : decode cX12_reckon 53 = .ok (.iload_n 2, 1) := by decide +kernel
theorem dX12_reckon_54 : decode cX12_reckon 54 = .ok (.imul, 1) := by decide +kernel
theorem dX12_reckon_55 : decode cX12_reckon 55 = .ok (.ireturn, 1) := by decide +kernel
theorem dX12_reckon_56 : decode cX12_reckon 56 = .ok (.iload_n 1, 1) := by decide +kernel
theorem dX12_reckon_57 : decode cX12_reckon 57 = .ok (.iload_n 2, 1) := by decide +kernel
theorem dX12_reckon_58 : decode cX12_reckon 58 = .ok (.idiv, 1) := by decide +kernel
theorem dX12_reckon_59 : decode cX12_reckon 59 = .ok (.ireturn, 1) := by decide +kernel
theorem dX12_reckon_60 : decode cX12_reckon 60 = .ok (.iload_n 1, 1) := by decide +kernel
theorem dX12_reckon_61 : decode cX12_reckon 61 = .ok (.iload_n 2, 1) := by decide +kernel
theorem dX12_reckon_62 : decode cX12_reckon 62 = .ok (.irem, 1) := by decide +kernel
theorem dX12_reckon_63 : decode cX12_reckon 63 = .ok (.ireturn, 1) := by decide +kernel
theorem dX12_reckon_64 : decode cX12_reckon 64 = .ok (.iload_n 1, 1) := by decide +kernel
theorem dX12_reckon_65 : decode cX12_reckon 65 = .ok (.iload_n 2, 1) := by decide +kernel
theorem dX12_reckon_66 : decode cX12_reckon 66 = .ok (.if_icmp .ge 7, 3) := by decide +kernel
theorem dX12_reckon_69 : decode cX12_reckon 69 = .ok (.iconst 1, 1) := by decide +kernel
theorem dX12_reckon_70 : decode cX12_reckon 70 = .ok (.goto 4, 3) := by decide +kernel
theorem dX12_reckon_73 : decode cX12_reckon 73 = .ok (.iconst 0, 1) := by decide +kernel
theorem dX12_reckon_74 : decode cX12_reckon 74 = .ok (.ireturn, 1) := by decide +kernel
theorem dX12_reckon_75 : decode cX12_reckon 75 = .ok (.iload_n 1, 1) := by decide +kernel
theorem dX12_reckon_76 : decode cX12_reckon 76 = .ok (.iload_n 2, 1) := by decide +kernel
theorem dX12_reckon_77 : decode cX12_reckon 77 = .ok (.if_icmp .le 7, 3) := by decide +kernel
theorem dX12_reckon_80 : decode cX12_reckon 80 = .ok (.iconst 1, 1) := by decide +kernel
theorem dX12_reckon_81 : decode cX12_reckon 81 = .ok (.goto 4, 3) := by decide +kernel
theorem dX12_reckon_84 : decode cX12_reckon 84 = .ok (.iconst 0, 1) := by decide +kernel
theorem dX12_reckon_85 : decode cX12_reckon 85 = .ok (.ireturn, 1) := by decide +kernel
theorem dX12_reckon_86 : decode cX12_reckon 86 = .ok (.iload_n 1, 1) := by decide +kernel
theorem dX12_reckon_87 : decode cX12_reckon 87 = .ok (.iload_n 2, 1) := by decide +kernel
theorem dX12_reckon_88 : decode cX12_reckon 88 = .ok (.if_icmp .ne 7, 3) := by decide +kernel
theorem dX12_reckon_91 : decode cX12_reckon 91 = .ok (.iconst 1, 1) := by decide +kernel
theorem dX12_reckon_92 : decode cX12_reckon 92 = .ok (.goto 4, 3) := by decide +kernel
theorem dX12_reckon_95 : decode cX12_reckon 95 = .ok (.iconst 0, 1) := by decide +kernel
theorem dX12_reckon_96 : decode cX12_reckon 96 = .ok (.ireturn, 1) := by decide +kernel
theorem dX12_reckonsTo_0 : decode cX12_reckonsTo 0 = .ok (.iconst 0, 1) := by decide +kernel
theorem dX12_reckonsTo_1 : decode cX12_reckonsTo 1 = .ok (.istore_n 3, 1) := by decide +kernel
theorem dX12_reckonsTo_2 : decode cX12_reckonsTo 2 = .ok (.sipush 260, 3) := by decide +kernel
theorem dX12_reckonsTo_5 : decode cX12_reckonsTo 5 = .ok (.iload_n 1, 1) := by decide +kernel
theorem dX12_reckonsTo_6 : decode cX12_reckonsTo 6 = .ok (.sipush 260, 3) := by decide +kernel
theorem dX12_reckonsTo_9 : decode cX12_reckonsTo 9 = .ok (.idiv, 1) := by decide +kernel
theorem dX12_reckonsTo_10 : decode cX12_reckonsTo 10 = .ok (.imul, 1) := by decide +kernel
theorem dX12_reckonsTo_11 : decode cX12_reckonsTo 11 = .ok (.istore 4, 2) := by decide +kernel
theorem dX12_reckonsTo_13 : decode cX12_reckonsTo 13 = .ok (.iload_n 1, 1) := by decide +kernel
theorem dX12_reckonsTo_14 : decode cX12_reckonsTo 14 = .ok (.istore 5, 2) := by decide +kernel
theorem dX12_reckonsTo_16 : decode cX12_reckonsTo 16 = .ok (.iload 5, 2) := by decide +kernel
theorem dX12_reckonsTo_18 : decode cX12_reckonsTo 18 = .ok (.iload_n 2, 1) := by decide +kernel
theorem dX12_reckonsTo_19 : decode cX12_reckonsTo 19 = .ok (.if_icmp .ge 214, 3) := by decide +kernel
theorem dX12_reckonsTo_22 : decode cX12_reckonsTo 22 = .ok (.aload_n 0, 1) := by decide +kernel
theorem dX12_reckonsTo_23 : decode cX12_reckonsTo 23 = .ok (.getfield 56, 3) := by decide +kernel
theorem dX12_reckonsTo_26 : decode cX12_reckonsTo 26 = .ok (.iload 5, 2) := by decide +kernel
theorem dX12_reckonsTo_28 : decode cX12_reckonsTo 28 = .ok (.iaload, 1) := by decide +kernel
theorem dX12_reckonsTo_29 : decode cX12_reckonsTo 29 = .ok (.ldc 195, 2) := by decide +kernel
theorem dX12_reckonsTo_31 : decode cX12_reckonsTo 31 = .ok (.idiv, 1) := by decide +kernel
theorem dX12_reckonsTo_32 : decode cX12_reckonsTo 32 = .ok (.istore 6, 2) := by decide +kernel
theorem dX12_reckonsTo_34 : decode cX12_reckonsTo 34 = .ok (.aload_n 0, 1) := by decide +kernel
theorem dX12_reckonsTo_35 : decode cX12_reckonsTo 35 = .ok (.getfield 56, 3) := by decide +kernel
theorem dX12_reckonsTo_38 : decode cX12_reckonsTo 38 = .ok (.iload 5, 2) := by decide +kernel
theorem dX12_reckonsTo_40 : decode cX12_reckonsTo 40 = .ok (.iaload, 1) := by decide +kernel
theorem dX12_reckonsTo_41 : decode cX12_reckonsTo 41 = .ok (.ldc 195, 2) := by decide +kernel
theorem dX12_reckonsTo_43 : decode cX12_reckonsTo 43 = .ok (.irem, 1) := by decide +kernel
theorem dX12_reckonsTo_44 : decode cX12_reckonsTo 44 = .ok (.istore 7, 2) := by decide +kernel
theorem dX12_reckonsTo_46 : decode cX12_reckonsTo 46 = .ok (.iload 5, 2) := by decide +kernel
theorem dX12_reckonsTo_48 : decode cX12_reckonsTo 48 = .ok (.iconst 1, 1) := by decide +kernel
theorem dX12_reckonsTo_49 : decode cX12_reckonsTo 49 = .ok (.iadd, 1) := by decide +kernel
theorem dX12_reckonsTo_50 : decode cX12_reckonsTo 50 = .ok (.istore 5, 2) := by decide +kernel
theorem dX12_reckonsTo_52 : decode cX12_reckonsTo 52 = .ok (.iload 6, 2) := by decide +kernel
theorem dX12_reckonsTo_54 : decode cX12_reckonsTo 54 = .ok (.ifCond .eq 9, 3) := by decide +kernel
theorem dX12_reckonsTo_57 : decode cX12_reckonsTo 57 = .ok (.iload 6, 2) := by decide +kernel
theorem dX12_reckonsTo_59 : decode cX12_reckonsTo 59 = .ok (.iconst 1, 1) := by decide +kernel
theorem dX12_reckonsTo_60 : decode cX12_reckonsTo 60 = .ok (.if_icmp .ne 33, 3) := by decide +kernel
theorem dX12_reckonsTo_63 : decode cX12_reckonsTo 63 = .ok (.aload_n 0, 1) := by decide +kernel
theorem dX12_reckonsTo_64 : decode cX12_reckonsTo 64 = .ok (.getfield 71, 3) := by decide +kernel
theorem dX12_reckonsTo_67 : decode cX12_reckonsTo 67 = .ok (.iload_n 3, 1) := by decide +kernel
theorem dX12_reckonsTo_68 : decode cX12_reckonsTo 68 = .ok (.iload 6, 2) := by decide +kernel
theorem dX12_reckonsTo_70 : decode cX12_reckonsTo 70 = .ok (.ifCond .ne 8, 3) := by decide +kernel
theorem dX12_reckonsTo_73 : decode cX12_reckonsTo 73 = .ok (.iload 7, 2) := by decide +kernel
theorem dX12_reckonsTo_75 : decode cX12_reckonsTo 75 = .ok (.goto 10, 3) := by decide +kernel
theorem dX12_reckonsTo_78 : decode cX12_reckonsTo 78 = .ok (.aload_n 0, 1) := by decide +kernel
theorem dX12_reckonsTo_79 : decode cX12_reckonsTo 79 = .ok (.getfield 74, 3) := by decide +kernel
theorem dX12_reckonsTo_82 : decode cX12_reckonsTo 82 = .ok (.iload 7, 2) := by decide +kernel
theorem dX12_reckonsTo_84 : decode cX12_reckonsTo 84 = .ok (.iaload, 1) := by decide +kernel
theorem dX12_reckonsTo_85 : decode cX12_reckonsTo 85 = .ok (.iastore, 1) := by decide +kernel
theorem dX12_reckonsTo_86 : decode cX12_reckonsTo 86 = .ok (.iload_n 3, 1) := by decide +kernel
theorem dX12_reckonsTo_87 : decode cX12_reckonsTo 87 = .ok (.iconst 1, 1) := by decide +kernel
theorem dX12_reckonsTo_88 : decode cX12_reckonsTo 88 = .ok (.iadd, 1) := by decide +kernel
theorem dX12_reckonsTo_89 : decode cX12_reckonsTo 89 = .ok (.istore_n 3, 1) := by decide +kernel
theorem dX12_reckonsTo_90 : decode cX12_reckonsTo 90 = .ok (.goto 140, 3) := by decide +kernel
theorem dX12_reckonsTo_93 : decode cX12_reckonsTo 93 = .ok (.iload 6, 2) := by decide +kernel
theorem dX12_reckonsTo_95 : decode cX12_reckonsTo 95 = .ok (.bipush 10, 2) := by decide +kernel
theorem dX12_reckonsTo_97 : decode cX12_reckonsTo 97 = .ok (.if_icmp .ne 24, 3) := by decide +kernel
theorem dX12_reckonsTo_100 : decode cX12_reckonsTo 100 = .ok (.aload_n 0, 1) := by decide +kernel
theorem dX12_reckonsTo_101 : decode cX12_reckonsTo 101 = .ok (.getfield 71, 3) := by decide +kernel
theorem dX12_reckonsTo_104 : decode cX12_reckonsTo 104 = .ok (.iload_n 3, 1) := by decide +kernel
theorem dX12_reckonsTo_105 : decode cX12_reckonsTo 105 = .ok (.iconst 1, 1) := by decide +kernel
theorem dX12_reckonsTo_106 : decode cX12_reckonsTo 106 = .ok (.isub, 1) := by decide +kernel
theorem dX12_reckonsTo_107 : decode cX12_reckonsTo 107 = .ok (.iconst 1, 1) := by decide +kernel
theorem dX12_reckonsTo_108 : decode cX12_reckonsTo 108 = .ok (.aload_n 0, 1) := by decide +kernel
theorem dX12_reckonsTo_109 : decode cX12_reckonsTo 109 = .ok (.getfield 71, 3) := by decide +kernel
theorem dX12_reckonsTo_112 : decode cX12_reckonsTo 112 = .ok (.iload_n 3, 1) := by decide +kernel
theorem dX12_reckonsTo_113 : decode cX12_reckonsTo 113 = .ok (.iconst 1, 1) := by decide +kernel
theorem dX12_reckonsTo_114 : decode cX12_reckonsTo 114 = .ok (.isub, 1) := by decide +kernel
theorem dX12_reckonsTo_115 : decode cX12_reckonsTo 115 = .ok (.iaload, 1) := by decide +kernel
theorem dX12_reckonsTo_116 : decode cX12_reckonsTo 116 = .ok (.isub, 1) := by decide +kernel
theorem dX12_reckonsTo_117 : decode cX12_reckonsTo 117 = .ok (.iastore, 1) := by decide +kernel
theorem dX12_reckonsTo_118 : decode cX12_reckonsTo 118 = .ok (.goto 112, 3) := by decide +kernel
theorem dX12_reckonsTo_121 : decode cX12_reckonsTo 121 = .ok (.iload 6, 2) := by decide +kernel
theorem dX12_reckonsTo_123 : decode cX12_reckonsTo 123 = .ok (.bipush 11, 2) := by decide +kernel
theorem dX12_reckonsTo_125 : decode cX12_reckonsTo 125 = .ok (.if_icmp .eq 10, 3) := by decide +kernel
theorem dX12_reckonsTo_128 : decode cX12_reckonsTo 128 = .ok (.iload 6, 2) := by decide +kernel
theorem dX12_reckonsTo_130 : decode cX12_reckonsTo 130 = .ok (.bipush 12, 2) := by decide +kernel
theorem dX12_reckonsTo_132 : decode cX12_reckonsTo 132 = .ok (.if_icmp .ne 43, 3) := by decide +kernel
theorem dX12_reckonsTo_135 : decode cX12_reckonsTo 135 = .ok (.aload_n 0, 1) := by decide +kernel
theorem dX12_reckonsTo_136 : decode cX12_reckonsTo 136 = .ok (.getfield 71, 3) := by decide +kernel
theorem dX12_reckonsTo_139 : decode cX12_reckonsTo 139 = .ok (.iload_n 3, 1) := by decide +kernel
theorem dX12_reckonsTo_140 : decode cX12_reckonsTo 140 = .ok (.iconst 1, 1) := by decide +kernel
theorem dX12_reckonsTo_141 : decode cX12_reckonsTo 141 = .ok (.isub, 1) := by decide +kernel
theorem dX12_reckonsTo_142 : decode cX12_reckonsTo 142 = .ok (.iaload, 1) := by decide +kernel
theorem dX12_reckonsTo_143 : decode cX12_reckonsTo 143 = .ok (.iload 6, 2) := by decide +kernel
theorem dX12_reckonsTo_145 : decode cX12_reckonsTo 145 = .ok (.bipush 12, 2) := by decide +kernel
theorem dX12_reckonsTo_147 : decode cX12_reckonsTo 147 = .ok (.if_icmp .ne 7, 3) := by decide +kernel
theorem dX12_reckonsTo_150 : decode cX12_reckonsTo 150 = .ok (.iconst 1, 1) := by decide +kernel
theorem dX12_reckonsTo_151 : decode cX12_reckonsTo 151 = .ok (.goto 4, 3) := by decide +kernel
theorem dX12_reckonsTo_154 : decode cX12_reckonsTo 154 = .ok (.iconst 0, 1) := by decide +kernel
theorem dX12_reckonsTo_155 : decode cX12_reckonsTo 155 = .ok (.if_icmp .ne 13, 3) := by decide +kernel
theorem dX12_reckonsTo_158 : decode cX12_reckonsTo 158 = .ok (.iload 4, 2) := by decide +kernel
theorem dX12_reckonsTo_160 : decode cX12_reckonsTo 160 = .ok (.iload 7, 2) := by decide +kernel
theorem dX12_reckonsTo_162 : decode cX12_reckonsTo 162 = .ok (.iadd, 1) := by decide +kernel
theorem dX12_reckonsTo_163 : decode cX12_reckonsTo 163 = .ok (.istore 5, 2) := by decide +kernel
theorem dX12_reckonsTo_165 : decode cX12_reckonsTo 165 = .ok (.goto 65, 3) := by decide +kernel
theorem dX12_reckonsTo_168 : decode cX12_reckonsTo 168 = .ok (.iload_n 3, 1) := by decide +kernel
theorem dX12_reckonsTo_169 : decode cX12_reckonsTo 169 = .ok (.iconst 1, 1) := by decide +kernel
theorem dX12_reckonsTo_170 : decode cX12_reckonsTo 170 = .ok (.isub, 1) := by decide +kernel
theorem dX12_reckonsTo_171 : decode cX12_reckonsTo 171 = .ok (.istore_n 3, 1) := by decide +kernel
theorem dX12_reckonsTo_172 : decode cX12_reckonsTo 172 = .ok (.goto 58, 3) := by decide +kernel
theorem dX12_reckonsTo_175 : decode cX12_reckonsTo 175 = .ok (.iload_n 3, 1) := by decide +kernel
theorem dX12_reckonsTo_176 : decode cX12_reckonsTo 176 = .ok (.iconst 1, 1) := by decide +kernel
theorem dX12_reckonsTo_177 : decode cX12_reckonsTo 177 = .ok (.isub, 1) := by decide +kernel
theorem dX12_reckonsTo_178 : decode cX12_reckonsTo 178 = .ok (.istore_n 3, 1) := by decide +kernel
theorem dX12_reckonsTo_179 : decode cX12_reckonsTo 179 = .ok (.iload 6, 2) := by decide +kernel
theorem dX12_reckonsTo_181 : decode cX12_reckonsTo 181 = .ok (.iconst 5, 1) := by decide +kernel
theorem dX12_reckonsTo_182 : decode cX12_reckonsTo 182 = .ok (.if_icmp .eq 10, 3) := by decide +kernel
theorem dX12_reckonsTo_185 : decode cX12_reckonsTo 185 = .ok (.iload 6, 2) := by decide +kernel
theorem dX12_reckonsTo_187 : decode cX12_reckonsTo 187 = .ok (.bipush 6, 2) := by decide +kernel
theorem dX12_reckonsTo_189 : decode cX12_reckonsTo 189 = .ok (.if_icmp .ne 14, 3) := by decide +kernel
theorem dX12_reckonsTo_192 : decode cX12_reckonsTo 192 = .ok (.aload_n 0, 1) := by decide +kernel
theorem dX12_reckonsTo_193 : decode cX12_reckonsTo 193 = .ok (.getfield 71, 3) := by decide +kernel
theorem dX12_reckonsTo_196 : decode cX12_reckonsTo 196 = .ok (.iload_n 3, 1) := by decide +kernel
theorem dX12_reckonsTo_197 : decode cX12_reckonsTo 197 = .ok (.iaload, 1) := by decide +kernel
theorem dX12_reckonsTo_198 : decode cX12_reckonsTo 198 = .ok (.ifCond .ne 5, 3) := by decide +kernel
theorem dX12_reckonsTo_201 : decode cX12_reckonsTo 201 = .ok (.iconst 0, 1) := by decide +kernel
theorem dX12_reckonsTo_202 : decode cX12_reckonsTo 202 = .ok (.ireturn, 1) := by decide +kernel
theorem dX12_reckonsTo_203 : decode cX12_reckonsTo 203 = .ok (.aload_n 0, 1) := by decide +kernel
theorem dX12_reckonsTo_204 : decode cX12_reckonsTo 204 = .ok (.getfield 71, 3) := by decide +kernel
theorem dX12_reckonsTo_207 : decode cX12_reckonsTo 207 = .ok (.iload_n 3, 1) := by decide +kernel
theorem dX12_reckonsTo_208 : decode cX12_reckonsTo 208 = .ok (.iconst 1, 1) := by decide +kernel
theorem dX12_reckonsTo_209 : decode cX12_reckonsTo 209 = .ok (.isub, 1) := by decide +kernel
theorem dX12_reckonsTo_210 : decode cX12_reckonsTo 210 = .ok (.iload 6, 2) := by decide +kernel
theorem dX12_reckonsTo_212 : decode cX12_reckonsTo 212 = .ok (.aload_n 0, 1) := by decide +kernel
theorem dX12_reckonsTo_213 : decode cX12_reckonsTo 213 = .ok (.getfield 71, 3) := by decide +kernel
theorem dX12_reckonsTo_216 : decode cX12_reckonsTo 216 = .ok (.iload_n 3, 1) := by decide +kernel
theorem dX12_reckonsTo_217 : decode cX12_reckonsTo 217 = .ok (.iconst 1, 1) := by decide +kernel
theorem dX12_reckonsTo_218 : decode cX12_reckonsTo 218 = .ok (.isub, 1) := by decide +kernel
theorem dX12_reckonsTo_219 : decode cX12_reckonsTo 219 = .ok (.iaload, 1) := by decide +kernel
theorem dX12_reckonsTo_220 : decode cX12_reckonsTo 220 = .ok (.aload_n 0, 1) := by decide +kernel
theorem dX12_reckonsTo_221 : decode cX12_reckonsTo 221 = .ok (.getfield 71, 3) := by decide +kernel
theorem dX12_reckonsTo_224 : decode cX12_reckonsTo 224 = .ok (.iload_n 3, 1) := by decide +kernel
theorem dX12_reckonsTo_225 : decode cX12_reckonsTo 225 = .ok (.iaload, 1) := by decide +kernel
theorem dX12_reckonsTo_226 : decode cX12_reckonsTo 226 = .ok (.invokestatic 265, 3) := by decide +kernel
theorem dX12_reckonsTo_229 : decode cX12_reckonsTo 229 = .ok (.iastore, 1) := by decide +kernel
theorem dX12_reckonsTo_230 : decode cX12_reckonsTo 230 = .ok (.goto (-214), 3) := by decide +kernel
theorem dX12_reckonsTo_233 : decode cX12_reckonsTo 233 = .ok (.aload_n 0, 1) := by decide +kernel
theorem dX12_reckonsTo_234 : decode cX12_reckonsTo 234 = .ok (.getfield 71, 3) := by decide +kernel
theorem dX12_reckonsTo_237 : decode cX12_reckonsTo 237 = .ok (.iconst 0, 1) := by decide +kernel
theorem dX12_reckonsTo_238 : decode cX12_reckonsTo 238 = .ok (.iaload, 1) := by decide +kernel
theorem dX12_reckonsTo_239 : decode cX12_reckonsTo 239 = .ok (.ireturn, 1) := by decide +kernel
theorem dX12_byLaw_0 : decode cX12_byLaw 0 = .ok (.iconst 0, 1) := by decide +kernel
theorem dX12_byLaw_1 : decode cX12_byLaw 1 = .ok (.istore 4, 2) := by decide +kernel
theorem dX12_byLaw_3 : decode cX12_byLaw 3 = .ok (.iload 4, 2) := by decide +kernel
theorem dX12_byLaw_5 : decode cX12_byLaw 5 = .ok (.aload_n 0, 1) := by decide +kernel
theorem dX12_byLaw_6 : decode cX12_byLaw 6 = .ok (.getfield 262, 3) := by decide +kernel
theorem dX12_byLaw_9 : decode cX12_byLaw 9 = .ok (.if_icmp .ge 87, 3) := by decide +kernel
theorem dX12_byLaw_12 : decode cX12_byLaw 12 = .ok (.aload_n 0, 1) := by decide +kernel
theorem dX12_byLaw_13 : decode cX12_byLaw 13 = .ok (.getfield 59, 3) := by decide +kernel
theorem dX12_byLaw_16 : decode cX12_byLaw 16 = .ok (.iload 4, 2) := by decide +kernel
theorem dX12_byLaw_18 : decode cX12_byLaw 18 = .ok (.iaload, 1) := by decide +kernel
theorem dX12_byLaw_19 : decode cX12_byLaw 19 = .ok (.iload_n 1, 1) := by decide +kernel
theorem dX12_byLaw_20 : decode cX12_byLaw 20 = .ok (.if_icmp .ne 70, 3) := by decide +kernel
theorem dX12_byLaw_23 : decode cX12_byLaw 23 = .ok (.aload_n 0, 1) := by decide +kernel
theorem dX12_byLaw_24 : decode cX12_byLaw 24 = .ok (.aload_n 0, 1) := by decide +kernel
theorem dX12_byLaw_25 : decode cX12_byLaw 25 = .ok (.getfield 65, 3) := by decide +kernel
theorem dX12_byLaw_28 : decode cX12_byLaw 28 = .ok (.iload 4, 2) := by decide +kernel
theorem dX12_byLaw_30 : decode cX12_byLaw 30 = .ok (.iaload, 1) := by decide +kernel
theorem dX12_byLaw_31 : decode cX12_byLaw 31 = .ok (.aload_n 0, 1) := by decide +kernel
theorem dX12_byLaw_32 : decode cX12_byLaw 32 = .ok (.getfield 68, 3) := by decide +kernel
theorem dX12_byLaw_35 : decode cX12_byLaw 35 = .ok (.iload 4, 2) := by decide +kernel
theorem dX12_byLaw_37 : decode cX12_byLaw 37 = .ok (.iaload, 1) := by decide +kernel
theorem dX12_byLaw_38 : decode cX12_byLaw 38 = .ok (.invokevirtual 269, 3) := by decide +kernel
theorem dX12_byLaw_41 : decode cX12_byLaw 41 = .ok (.iconst 1, 1) := by decide +kernel
theorem dX12_byLaw_42 : decode cX12_byLaw 42 = .ok (.if_icmp .eq 6, 3) := by decide +kernel
theorem dX12_byLaw_45 : decode cX12_byLaw 45 = .ok (.goto 45, 3) := by decide +kernel
theorem dX12_byLaw_48 : decode cX12_byLaw 48 = .ok (.aload_n 0, 1) := by decide +kernel
theorem dX12_byLaw_49 : decode cX12_byLaw 49 = .ok (.aload_n 0, 1) := by decide +kernel
theorem dX12_byLaw_50 : decode cX12_byLaw 50 = .ok (.getfield 62, 3) := by decide +kernel
theorem dX12_byLaw_53 : decode cX12_byLaw 53 = .ok (.iload 4, 2) := by decide +kernel
theorem dX12_byLaw_55 : decode cX12_byLaw 55 = .ok (.iaload, 1) := by decide +kernel
theorem dX12_byLaw_56 : decode cX12_byLaw 56 = .ok (.aload_n 0, 1) := by decide +kernel
theorem dX12_byLaw_57 : decode cX12_byLaw 57 = .ok (.getfield 65, 3) := by decide +kernel
theorem dX12_byLaw_60 : decode cX12_byLaw 60 = .ok (.iload 4, 2) := by decide +kernel
theorem dX12_byLaw_62 : decode cX12_byLaw 62 = .ok (.iaload, 1) := by decide +kernel
theorem dX12_byLaw_63 : decode cX12_byLaw 63 = .ok (.invokevirtual 269, 3) := by decide +kernel
theorem dX12_byLaw_66 : decode cX12_byLaw 66 = .ok (.istore 5, 2) := by decide +kernel
theorem dX12_byLaw_68 : decode cX12_byLaw 68 = .ok (.iload 5, 2) := by decide +kernel
theorem dX12_byLaw_70 : decode cX12_byLaw 70 = .ok (.ifCond .ge 7, 3) := by decide +kernel
theorem dX12_byLaw_73 : decode cX12_byLaw 73 = .ok (.iconst 0, 1) := by decide +kernel
theorem dX12_byLaw_74 : decode cX12_byLaw 74 = .ok (.goto 15, 3) := by decide +kernel
theorem dX12_byLaw_77 : decode cX12_byLaw 77 = .ok (.iload 5, 2) := by decide +kernel
theorem dX12_byLaw_79 : decode cX12_byLaw 79 = .ok (.iload_n 2, 1) := by decide +kernel
theorem dX12_byLaw_80 : decode cX12_byLaw 80 = .ok (.if_icmp .le 7, 3) := by decide +kernel
theorem dX12_byLaw_83 : decode cX12_byLaw 83 = .ok (.iload_n 2, 1) := by decide +kernel
theorem dX12_byLaw_84 : decode cX12_byLaw 84 = .ok (.goto 5, 3) := by decide +kernel
theorem dX12_byLaw_87 : decode cX12_byLaw 87 = .ok (.iload 5, 2) := by decide +kernel
theorem dX12_byLaw_89 : decode cX12_byLaw 89 = .ok (.ireturn, 1) := by decide +kernel
theorem dX12_byLaw_90 : decode cX12_byLaw 90 = .ok (.iinc 4 1, 3) := by decide +kernel
theorem dX12_byLaw_93 : decode cX12_byLaw 93 = .ok (.goto (-90), 3) := by decide +kernel
theorem dX12_byLaw_96 : decode cX12_byLaw 96 = .ok (.iload_n 3, 1) := by decide +kernel
theorem dX12_byLaw_97 : decode cX12_byLaw 97 = .ok (.ireturn, 1) := by decide +kernel
theorem dX12_holdsAny_0 : decode cX12_holdsAny 0 = .ok (.iconst 0, 1) := by decide +kernel
theorem dX12_holdsAny_1 : decode cX12_holdsAny 1 = .ok (.istore_n 2, 1) := by decide +kernel
theorem dX12_holdsAny_2 : decode cX12_holdsAny 2 = .ok (.iload_n 2, 1) := by decide +kernel
theorem dX12_holdsAny_3 : decode cX12_holdsAny 3 = .ok (.aload_n 0, 1) := by decide +kernel
theorem dX12_holdsAny_4 : decode cX12_holdsAny 4 = .ok (.getfield 262, 3) := by decide +kernel
theorem dX12_holdsAny_7 : decode cX12_holdsAny 7 = .ok (.if_icmp .ge 41, 3) := by decide +kernel
theorem dX12_holdsAny_10 : decode cX12_holdsAny 10 = .ok (.aload_n 0, 1) := by decide +kernel
theorem dX12_holdsAny_11 : decode cX12_holdsAny 11 = .ok (.getfield 59, 3) := by decide +kernel
theorem dX12_holdsAny_14 : decode cX12_holdsAny 14 = .ok (.iload_n 2, 1) := by decide +kernel
theorem dX12_holdsAny_15 : decode cX12_holdsAny 15 = .ok (.iaload, 1) := by decide +kernel
theorem dX12_holdsAny_16 : decode cX12_holdsAny 16 = .ok (.iload_n 1, 1) := by decide +kernel
theorem dX12_holdsAny_17 : decode cX12_holdsAny 17 = .ok (.if_icmp .ne 25, 3) := by decide +kernel
theorem dX12_holdsAny_20 : decode cX12_holdsAny 20 = .ok (.aload_n 0, 1) := by decide +kernel
theorem dX12_holdsAny_21 : decode cX12_holdsAny 21 = .ok (.aload_n 0, 1) := by decide +kernel
theorem dX12_holdsAny_22 : decode cX12_holdsAny 22 = .ok (.getfield 65, 3) := by decide +kernel
theorem dX12_holdsAny_25 : decode cX12_holdsAny 25 = .ok (.iload_n 2, 1) := by decide +kernel
theorem dX12_holdsAny_26 : decode cX12_holdsAny 26 = .ok (.iaload, 1) := by decide +kernel
theorem dX12_holdsAny_27 : decode cX12_holdsAny 27 = .ok (.aload_n 0, 1) := by decide +kernel
theorem dX12_holdsAny_28 : decode cX12_holdsAny 28 = .ok (.getfield 68, 3) := by decide +kernel
theorem dX12_holdsAny_31 : decode cX12_holdsAny 31 = .ok (.iload_n 2, 1) := by decide +kernel
theorem dX12_holdsAny_32 : decode cX12_holdsAny 32 = .ok (.iaload, 1) := by decide +kernel
theorem dX12_holdsAny_33 : decode cX12_holdsAny 33 = .ok (.invokevirtual 269, 3) := by decide +kernel
theorem dX12_holdsAny_36 : decode cX12_holdsAny 36 = .ok (.iconst 1, 1) := by decide +kernel
theorem dX12_holdsAny_37 : decode cX12_holdsAny 37 = .ok (.if_icmp .ne 5, 3) := by decide +kernel
theorem dX12_holdsAny_40 : decode cX12_holdsAny 40 = .ok (.iconst 1, 1) := by decide +kernel
theorem dX12_holdsAny_41 : decode cX12_holdsAny 41 = .ok (.ireturn, 1) := by decide +kernel
theorem dX12_holdsAny_42 : decode cX12_holdsAny 42 = .ok (.iinc 2 1, 3) := by decide +kernel
theorem dX12_holdsAny_45 : decode cX12_holdsAny 45 = .ok (.goto (-43), 3) := by decide +kernel
theorem dX12_holdsAny_48 : decode cX12_holdsAny 48 = .ok (.iconst 0, 1) := by decide +kernel
theorem dX12_holdsAny_49 : decode cX12_holdsAny 49 = .ok (.ireturn, 1) := by decide +kernel
theorem dX12_readsWithin_0 : decode cX12_readsWithin 0 = .ok (.aload_n 0, 1) := by decide +kernel
theorem dX12_readsWithin_1 : decode cX12_readsWithin 1 = .ok (.getfield 169, 3) := by decide +kernel
theorem dX12_readsWithin_4 : decode cX12_readsWithin 4 = .ok (.istore_n 1, 1) := by decide +kernel
theorem dX12_readsWithin_5 : decode cX12_readsWithin 5 = .ok (.aload_n 0, 1) := by decide +kernel
theorem dX12_readsWithin_6 : decode cX12_readsWithin 6 = .ok (.invokevirtual 188, 3) := by decide +kernel
theorem dX12_readsWithin_9 : decode cX12_readsWithin 9 = .ok (.ifCond .ne 13, 3) := by decide +kernel
theorem dX12_readsWithin_12 : decode cX12_readsWithin 12 = .ok (.aload_n 0, 1) := by decide +kernel
theorem dX12_readsWithin_13 : decode cX12_readsWithin 13 = .ok (.iconst 1, 1) := by decide +kernel
theorem dX12_readsWithin_14 : decode cX12_readsWithin 14 = .ok (.aload_n 0, 1) := by decide +kernel
theorem dX12_readsWithin_15 : decode cX12_readsWithin 15 = .ok (.getfield 169, 3) := by decide +kernel
theorem dX12_readsWithin_18 : decode cX12_readsWithin 18 = .ok (.invokevirtual 182, 3) := by decide +kernel
theorem dX12_readsWithin_21 : decode cX12_readsWithin 21 = .ok (.ireturn, 1) := by decide +kernel
theorem dX12_readsWithin_22 : decode cX12_readsWithin 22 = .ok (.aload_n 0, 1) := by decide +kernel
theorem dX12_readsWithin_23 : decode cX12_readsWithin 23 = .ok (.iconst 0, 1) := by decide +kernel
theorem dX12_readsWithin_24 : decode cX12_readsWithin 24 = .ok (.putfield 185, 3) := by decide +kernel
theorem dX12_readsWithin_27 : decode cX12_readsWithin 27 = .ok (.aload_n 0, 1) := by decide +kernel
theorem dX12_readsWithin_28 : decode cX12_readsWithin 28 = .ok (.invokevirtual 188, 3) := by decide +kernel
theorem dX12_readsWithin_31 : decode cX12_readsWithin 31 = .ok (.ifCond .eq 55, 3) := by decide +kernel
theorem dX12_readsWithin_34 : decode cX12_readsWithin 34 = .ok (.aload_n 0, 1) := by decide +kernel
theorem dX12_readsWithin_35 : decode cX12_readsWithin 35 = .ok (.getfield 169, 3) := by decide +kernel
theorem dX12_readsWithin_38 : decode cX12_readsWithin 38 = .ok (.iload_n 1, 1) := by decide +kernel
theorem dX12_readsWithin_39 : decode cX12_readsWithin 39 = .ok (.iconst 2, 1) := by decide +kernel
theorem dX12_readsWithin_40 : decode cX12_readsWithin 40 = .ok (.iadd, 1) := by decide +kernel
theorem dX12_readsWithin_41 : decode cX12_readsWithin 41 = .ok (.if_icmp .ne 13, 3) := by decide +kernel
theorem dX12_readsWithin_44 : decode cX12_readsWithin 44 = .ok (.aload_n 0, 1) := by decide +kernel
theorem dX12_readsWithin_45 : decode cX12_readsWithin 45 = .ok (.iconst 2, 1) := by decide +kernel
theorem dX12_readsWithin_46 : decode cX12_readsWithin 46 = .ok (.aload_n 0, 1) := by decide +kernel
theorem dX12_readsWithin_47 : decode cX12_readsWithin 47 = .ok (.getfield 169, 3) := by decide +kernel
theorem dX12_readsWithin_50 : decode cX12_readsWithin 50 = .ok (.invokevirtual 182, 3) := by decide +kernel
theorem dX12_readsWithin_53 : decode cX12_readsWithin 53 = .ok (.ireturn, 1) := by decide +kernel
theorem dX12_readsWithin_54 : decode cX12_readsWithin 54 = .ok (.aload_n 0, 1) := by decide +kernel
theorem dX12_readsWithin_55 : decode cX12_readsWithin 55 = .ok (.bipush 10, 2) := by decide +kernel
theorem dX12_readsWithin_57 : decode cX12_readsWithin 57 = .ok (.aload_n 0, 1) := by decide +kernel
theorem dX12_readsWithin_58 : decode cX12_readsWithin 58 = .ok (.getfield 185, 3) := by decide +kernel
theorem dX12_readsWithin_61 : decode cX12_readsWithin 61 = .ok (.imul, 1) := by decide +kernel
theorem dX12_readsWithin_62 : decode cX12_readsWithin 62 = .ok (.aload_n 0, 1) := by decide +kernel
theorem dX12_readsWithin_63 : decode cX12_readsWithin 63 = .ok (.invokevirtual 175, 3) := by decide +kernel
theorem dX12_readsWithin_66 : decode cX12_readsWithin 66 = .ok (.iadd, 1) := by decide +kernel
theorem dX12_readsWithin_67 : decode cX12_readsWithin 67 = .ok (.bipush 48, 2) := by decide +kernel
theorem dX12_readsWithin_69 : decode cX12_readsWithin 69 = .ok (.isub, 1) := by decide +kernel
theorem dX12_readsWithin_70 : decode cX12_readsWithin 70 = .ok (.putfield 185, 3) := by decide +kernel
theorem dX12_readsWithin_73 : decode cX12_readsWithin 73 = .ok (.aload_n 0, 1) := by decide +kernel
theorem dX12_readsWithin_74 : decode cX12_readsWithin 74 = .ok (.aload_n 0, 1) := by decide +kernel
theorem dX12_readsWithin_75 : decode cX12_readsWithin 75 = .ok (.getfield 169, 3) := by decide +kernel
theorem dX12_readsWithin_78 : decode cX12_readsWithin 78 = .ok (.iconst 1, 1) := by decide +kernel
theorem dX12_readsWithin_79 : decode cX12_readsWithin 79 = .ok (.iadd, 1) := by decide +kernel
theorem dX12_readsWithin_80 : decode cX12_readsWithin 80 = .ok (.putfield 169, 3) := by decide +kernel
theorem dX12_readsWithin_83 : decode cX12_readsWithin 83 = .ok (.goto (-56), 3) := by decide +kernel
theorem dX12_readsWithin_86 : decode cX12_readsWithin 86 = .ok (.aload_n 0, 1) := by decide +kernel
theorem dX12_readsWithin_87 : decode cX12_readsWithin 87 = .ok (.getfield 185, 3) := by decide +kernel
theorem dX12_readsWithin_90 : decode cX12_readsWithin 90 = .ok (.bipush 12, 2) := by decide +kernel
theorem dX12_readsWithin_92 : decode cX12_readsWithin 92 = .ok (.if_icmp .lt 12, 3) := by decide +kernel
theorem dX12_readsWithin_95 : decode cX12_readsWithin 95 = .ok (.aload_n 0, 1) := by decide +kernel
theorem dX12_readsWithin_96 : decode cX12_readsWithin 96 = .ok (.iconst 3, 1) := by decide +kernel
theorem dX12_readsWithin_97 : decode cX12_readsWithin 97 = .ok (.iload_n 1, 1) := by decide +kernel
theorem dX12_readsWithin_98 : decode cX12_readsWithin 98 = .ok (.invokevirtual 182, 3) := by decide +kernel
theorem dX12_readsWithin_101 : decode cX12_readsWithin 101 = .ok (.ifCond .eq 7, 3) := by decide +kernel
theorem dX12_readsWithin_104 : decode cX12_readsWithin 104 = .ok (.iconst 1, 1) := by decide +kernel
theorem dX12_readsWithin_105 : decode cX12_readsWithin 105 = .ok (.goto 4, 3) := by decide +kernel
theorem dX12_readsWithin_108 : decode cX12_readsWithin 108 = .ok (.iconst 0, 1) := by decide +kernel
theorem dX12_readsWithin_109 : decode cX12_readsWithin 109 = .ok (.ireturn, 1) := by decide +kernel
theorem dX12_readsHouse_0 : decode cX12_readsHouse 0 = .ok (.aload_n 0, 1) := by decide +kernel
theorem dX12_readsHouse_1 : decode cX12_readsHouse 1 = .ok (.getfield 272, 3) := by decide +kernel
theorem dX12_readsHouse_4 : decode cX12_readsHouse 4 = .ok (.iload_n 1, 1) := by decide +kernel
theorem dX12_readsHouse_5 : decode cX12_readsHouse 5 = .ok (.invokestatic 130, 3) := by decide +kernel
theorem dX12_readsHouse_8 : decode cX12_readsHouse 8 = .ok (.ifCond .eq 14, 3) := by decide +kernel
theorem dX12_readsHouse_11 : decode cX12_readsHouse 11 = .ok (.aload_n 0, 1) := by decide +kernel
theorem dX12_readsHouse_12 : decode cX12_readsHouse 12 = .ok (.bipush 6, 2) := by decide +kernel
theorem dX12_readsHouse_14 : decode cX12_readsHouse 14 = .ok (.aload_n 0, 1) := by decide +kernel
theorem dX12_readsHouse_15 : decode cX12_readsHouse 15 = .ok (.getfield 169, 3) := by decide +kernel
theorem dX12_readsHouse_18 : decode cX12_readsHouse 18 = .ok (.invokevirtual 182, 3) := by decide +kernel
theorem dX12_readsHouse_21 : decode cX12_readsHouse 21 = .ok (.ireturn, 1) := by decide +kernel
theorem dX12_readsHouse_22 : decode cX12_readsHouse 22 = .ok (.aload_n 0, 1) := by decide +kernel
theorem dX12_readsHouse_23 : decode cX12_readsHouse 23 = .ok (.aload_n 0, 1) := by decide +kernel
theorem dX12_readsHouse_24 : decode cX12_readsHouse 24 = .ok (.getfield 169, 3) := by decide +kernel
theorem dX12_readsHouse_27 : decode cX12_readsHouse 27 = .ok (.iconst 1, 1) := by decide +kernel
theorem dX12_readsHouse_28 : decode cX12_readsHouse 28 = .ok (.iadd, 1) := by decide +kernel
theorem dX12_readsHouse_29 : decode cX12_readsHouse 29 = .ok (.putfield 169, 3) := by decide +kernel
theorem dX12_readsHouse_32 : decode cX12_readsHouse 32 = .ok (.aload_n 0, 1) := by decide +kernel
theorem dX12_readsHouse_33 : decode cX12_readsHouse 33 = .ok (.invokevirtual 275, 3) := by decide +kernel
theorem dX12_readsHouse_36 : decode cX12_readsHouse 36 = .ok (.ifCond .ne 5, 3) := by decide +kernel
theorem dX12_readsHouse_39 : decode cX12_readsHouse 39 = .ok (.iconst 0, 1) := by decide +kernel
theorem dX12_readsHouse_40 : decode cX12_readsHouse 40 = .ok (.ireturn, 1) := by decide +kernel
theorem dX12_readsHouse_41 : decode cX12_readsHouse 41 = .ok (.aload_n 0, 1) := by decide +kernel
theorem dX12_readsHouse_42 : decode cX12_readsHouse 42 = .ok (.getfield 77, 3) := by decide +kernel
theorem dX12_readsHouse_45 : decode cX12_readsHouse 45 = .ok (.iload_n 1, 1) := by decide +kernel
theorem dX12_readsHouse_46 : decode cX12_readsHouse 46 = .ok (.aload_n 0, 1) := by decide +kernel
theorem dX12_readsHouse_47 : decode cX12_readsHouse 47 = .ok (.getfield 185, 3) := by decide +kernel
theorem dX12_readsHouse_50 : decode cX12_readsHouse 50 = .ok (.iastore, 1) := by decide +kernel
theorem dX12_readsHouse_51 : decode cX12_readsHouse 51 = .ok (.aload_n 0, 1) := by decide +kernel
theorem dX12_readsHouse_52 : decode cX12_readsHouse 52 = .ok (.aload_n 0, 1) := by decide +kernel
theorem dX12_readsHouse_53 : decode cX12_readsHouse 53 = .ok (.getfield 272, 3) := by decide +kernel
theorem dX12_readsHouse_56 : decode cX12_readsHouse 56 = .ok (.iconst 1, 1) := by decide +kernel
theorem dX12_readsHouse_57 : decode cX12_readsHouse 57 = .ok (.iload_n 1, 1) := by decide +kernel
theorem dX12_readsHouse_58 : decode cX12_readsHouse 58 = .ok (.ishl, 1) := by decide +kernel
theorem dX12_readsHouse_59 : decode cX12_readsHouse 59 = .ok (.ior, 1) := by decide +kernel
theorem dX12_readsHouse_60 : decode cX12_readsHouse 60 = .ok (.putfield 272, 3) := by decide +kernel
theorem dX12_readsHouse_63 : decode cX12_readsHouse 63 = .ok (.iconst 1, 1) := by decide +kernel
theorem dX12_readsHouse_64 : decode cX12_readsHouse 64 = .ok (.ireturn, 1) := by decide +kernel
theorem dX12_readsThing_0 : decode cX12_readsThing 0 = .ok (.aload_n 0, 1) := by decide +kernel
theorem dX12_readsThing_1 : decode cX12_readsThing 1 = .ok (.getfield 278, 3) := by decide +kernel
theorem dX12_readsThing_4 : decode cX12_readsThing 4 = .ok (.iload_n 1, 1) := by decide +kernel
theorem dX12_readsThing_5 : decode cX12_readsThing 5 = .ok (.invokestatic 130, 3) := by decide +kernel
theorem dX12_readsThing_8 : decode cX12_readsThing 8 = .ok (.ifCond .eq 14, 3) := by decide +kernel
theorem dX12_readsThing_11 : decode cX12_readsThing 11 = .ok (.aload_n 0, 1) := by decide +kernel
theorem dX12_readsThing_12 : decode cX12_readsThing 12 = .ok (.bipush 6, 2) := by decide +kernel
theorem dX12_readsThing_14 : decode cX12_readsThing 14 = .ok (.aload_n 0, 1) := by decide +kernel
theorem dX12_readsThing_15 : decode cX12_readsThing 15 = .ok (.getfield 169, 3) := by decide +kernel
theorem dX12_readsThing_18 : decode cX12_readsThing 18 = .ok (.invokevirtual 182, 3) := by decide +kernel
theorem dX12_readsThing_21 : decode cX12_readsThing 21 = .ok (.ireturn, 1) := by decide +kernel
theorem dX12_readsThing_22 : decode cX12_readsThing 22 = .ok (.aload_n 0, 1) := by decide +kernel
theorem dX12_readsThing_23 : decode cX12_readsThing 23 = .ok (.aload_n 0, 1) := by decide +kernel
theorem dX12_readsThing_24 : decode cX12_readsThing 24 = .ok (.getfield 169, 3) := by decide +kernel
theorem dX12_readsThing_27 : decode cX12_readsThing 27 = .ok (.iconst 1, 1) := by decide +kernel
theorem dX12_readsThing_28 : decode cX12_readsThing 28 = .ok (.iadd, 1) := by decide +kernel
theorem dX12_readsThing_29 : decode cX12_readsThing 29 = .ok (.putfield 169, 3) := by decide +kernel
theorem dX12_readsThing_32 : decode cX12_readsThing 32 = .ok (.aload_n 0, 1) := by decide +kernel
theorem dX12_readsThing_33 : decode cX12_readsThing 33 = .ok (.invokevirtual 275, 3) := by decide +kernel
theorem dX12_readsThing_36 : decode cX12_readsThing 36 = .ok (.ifCond .ne 5, 3) := by decide +kernel
theorem dX12_readsThing_39 : decode cX12_readsThing 39 = .ok (.iconst 0, 1) := by decide +kernel
theorem dX12_readsThing_40 : decode cX12_readsThing 40 = .ok (.ireturn, 1) := by decide +kernel
theorem dX12_readsThing_41 : decode cX12_readsThing 41 = .ok (.aload_n 0, 1) := by decide +kernel
theorem dX12_readsThing_42 : decode cX12_readsThing 42 = .ok (.getfield 80, 3) := by decide +kernel
theorem dX12_readsThing_45 : decode cX12_readsThing 45 = .ok (.iload_n 1, 1) := by decide +kernel
theorem dX12_readsThing_46 : decode cX12_readsThing 46 = .ok (.aload_n 0, 1) := by decide +kernel
theorem dX12_readsThing_47 : decode cX12_readsThing 47 = .ok (.getfield 185, 3) := by decide +kernel
theorem dX12_readsThing_50 : decode cX12_readsThing 50 = .ok (.iastore, 1) := by decide +kernel
theorem dX12_readsThing_51 : decode cX12_readsThing 51 = .ok (.aload_n 0, 1) := by decide +kernel
theorem dX12_readsThing_52 : decode cX12_readsThing 52 = .ok (.bipush 64, 2) := by decide +kernel
theorem dX12_readsThing_54 : decode cX12_readsThing 54 = .ok (.invokevirtual 259, 3) := by decide +kernel
theorem dX12_readsThing_57 : decode cX12_readsThing 57 = .ok (.ifCond .eq 10, 3) := by decide +kernel
theorem dX12_readsThing_60 : decode cX12_readsThing 60 = .ok (.aload_n 0, 1) := by decide +kernel
theorem dX12_readsThing_61 : decode cX12_readsThing 61 = .ok (.invokevirtual 275, 3) := by decide +kernel
theorem dX12_readsThing_64 : decode cX12_readsThing 64 = .ok (.ifCond .ne 5, 3) := by decide +kernel
theorem dX12_readsThing_67 : decode cX12_readsThing 67 = .ok (.iconst 0, 1) := by decide +kernel
theorem dX12_readsThing_68 : decode cX12_readsThing 68 = .ok (.ireturn, 1) := by decide +kernel
theorem dX12_readsThing_69 : decode cX12_readsThing 69 = .ok (.aload_n 0, 1) := by decide +kernel
theorem dX12_readsThing_70 : decode cX12_readsThing 70 = .ok (.getfield 83, 3) := by decide +kernel
theorem dX12_readsThing_73 : decode cX12_readsThing 73 = .ok (.iload_n 1, 1) := by decide +kernel
theorem dX12_readsThing_74 : decode cX12_readsThing 74 = .ok (.aload_n 0, 1) := by decide +kernel
theorem dX12_readsThing_75 : decode cX12_readsThing 75 = .ok (.getfield 185, 3) := by decide +kernel
theorem dX12_readsThing_78 : decode cX12_readsThing 78 = .ok (.iastore, 1) := by decide +kernel
theorem dX12_readsThing_79 : decode cX12_readsThing 79 = .ok (.aload_n 0, 1) := by decide +kernel
theorem dX12_readsThing_80 : decode cX12_readsThing 80 = .ok (.bipush 45, 2) := by decide +kernel
theorem dX12_readsThing_82 : decode cX12_readsThing 82 = .ok (.invokevirtual 259, 3) := by decide +kernel
theorem dX12_readsThing_85 : decode cX12_readsThing 85 = .ok (.ifCond .eq 10, 3) := by decide +kernel
theorem dX12_readsThing_88 : decode cX12_readsThing 88 = .ok (.aload_n 0, 1) := by decide +kernel
theorem dX12_readsThing_89 : decode cX12_readsThing 89 = .ok (.invokevirtual 275, 3) := by decide +kernel
theorem dX12_readsThing_92 : decode cX12_readsThing 92 = .ok (.ifCond .ne 5, 3) := by decide +kernel
theorem dX12_readsThing_95 : decode cX12_readsThing 95 = .ok (.iconst 0, 1) := by decide +kernel
theorem dX12_readsThing_96 : decode cX12_readsThing 96 = .ok (.ireturn, 1) := by decide +kernel
theorem dX12_readsThing_97 : decode cX12_readsThing 97 = .ok (.aload_n 0, 1) := by decide +kernel
theorem dX12_readsThing_98 : decode cX12_readsThing 98 = .ok (.getfield 86, 3) := by decide +kernel
theorem dX12_readsThing_101 : decode cX12_readsThing 101 = .ok (.iload_n 1, 1) := by decide +kernel
theorem dX12_readsThing_102 : decode cX12_readsThing 102 = .ok (.aload_n 0, 1) := by decide +kernel
theorem dX12_readsThing_103 : decode cX12_readsThing 103 = .ok (.getfield 185, 3) := by decide +kernel
theorem dX12_readsThing_106 : decode cX12_readsThing 106 = .ok (.iastore, 1) := by decide +kernel
theorem dX12_readsThing_107 : decode cX12_readsThing 107 = .ok (.aload_n 0, 1) := by decide +kernel
theorem dX12_readsThing_108 : decode cX12_readsThing 108 = .ok (.aload_n 0, 1) := by decide +kernel
theorem dX12_readsThing_109 : decode cX12_readsThing 109 = .ok (.getfield 278, 3) := by decide +kernel
theorem dX12_readsThing_112 : decode cX12_readsThing 112 = .ok (.iconst 1, 1) := by decide +kernel
theorem dX12_readsThing_113 : decode cX12_readsThing 113 = .ok (.iload_n 1, 1) := by decide +kernel
theorem dX12_readsThing_114 : decode cX12_readsThing 114 = .ok (.ishl, 1) := by decide +kernel
theorem dX12_readsThing_115 : decode cX12_readsThing 115 = .ok (.ior, 1) := by decide +kernel
theorem dX12_readsThing_116 : decode cX12_readsThing 116 = .ok (.putfield 278, 3) := by decide +kernel
theorem dX12_readsThing_119 : decode cX12_readsThing 119 = .ok (.iconst 1, 1) := by decide +kernel
theorem dX12_readsThing_120 : decode cX12_readsThing 120 = .ok (.ireturn, 1) := by decide +kernel
theorem dX12_readsLine_0 : decode cX12_readsLine 0 = .ok (.aload_n 0, 1) := by decide +kernel
theorem dX12_readsLine_1 : decode cX12_readsLine 1 = .ok (.invokevirtual 175, 3) := by decide +kernel
theorem dX12_readsLine_4 : decode cX12_readsLine 4 = .ok (.bipush 97, 2) := by decide +kernel
theorem dX12_readsLine_6 : decode cX12_readsLine 6 = .ok (.isub, 1) := by decide +kernel
theorem dX12_readsLine_7 : decode cX12_readsLine 7 = .ok (.istore_n 1, 1) := by decide +kernel
theorem dX12_readsLine_8 : decode cX12_readsLine 8 = .ok (.aload_n 0, 1) := by decide +kernel
theorem dX12_readsLine_9 : decode cX12_readsLine 9 = .ok (.invokevirtual 175, 3) := by decide +kernel
theorem dX12_readsLine_12 : decode cX12_readsLine 12 = .ok (.bipush 65, 2) := by decide +kernel
theorem dX12_readsLine_14 : decode cX12_readsLine 14 = .ok (.isub, 1) := by decide +kernel
theorem dX12_readsLine_15 : decode cX12_readsLine 15 = .ok (.istore_n 2, 1) := by decide +kernel
theorem dX12_readsLine_16 : decode cX12_readsLine 16 = .ok (.iload_n 1, 1) := by decide +kernel
theorem dX12_readsLine_17 : decode cX12_readsLine 17 = .ok (.iconst 0, 1) := by decide +kernel
theorem dX12_readsLine_18 : decode cX12_readsLine 18 = .ok (.bipush 15, 2) := by decide +kernel
theorem dX12_readsLine_20 : decode cX12_readsLine 20 = .ok (.invokestatic 134, 3) := by decide +kernel
theorem dX12_readsLine_23 : decode cX12_readsLine 23 = .ok (.istore_n 3, 1) := by decide +kernel
theorem dX12_readsLine_24 : decode cX12_readsLine 24 = .ok (.iload_n 3, 1) := by decide +kernel
theorem dX12_readsLine_25 : decode cX12_readsLine 25 = .ok (.ifCond .ne 23, 3) := by decide +kernel
theorem dX12_readsLine_28 : decode cX12_readsLine 28 = .ok (.iload_n 2, 1) := by decide +kernel
theorem dX12_readsLine_29 : decode cX12_readsLine 29 = .ok (.iconst 0, 1) := by decide +kernel
theorem dX12_readsLine_30 : decode cX12_readsLine 30 = .ok (.bipush 15, 2) := by decide +kernel
theorem dX12_readsLine_32 : decode cX12_readsLine 32 = .ok (.invokestatic 134, 3) := by decide +kernel
theorem dX12_readsLine_35 : decode cX12_readsLine 35 = .ok (.ifCond .ne 13, 3) := by decide +kernel
theorem dX12_readsLine_38 : decode cX12_readsLine 38 = .ok (.aload_n 0, 1) := by decide +kernel
theorem dX12_readsLine_39 : decode cX12_readsLine 39 = .ok (.iconst 1, 1) := by decide +kernel
theorem dX12_readsLine_40 : decode cX12_readsLine 40 = .ok (.aload_n 0, 1) := by decide +kernel
theorem dX12_readsLine_41 : decode cX12_readsLine 41 = .ok (.getfield 169, 3) := by decide +kernel
theorem dX12_readsLine_44 : decode cX12_readsLine 44 = .ok (.invokevirtual 182, 3) := by decide +kernel
theorem dX12_readsLine_47 : decode cX12_readsLine 47 = .ok (.ireturn, 1) := by decide +kernel
theorem dX12_readsLine_48 : decode cX12_readsLine 48 = .ok (.aload_n 0, 1) := by decide +kernel
theorem dX12_readsLine_49 : decode cX12_readsLine 49 = .ok (.getfield 281, 3) := by decide +kernel
theorem dX12_readsLine_52 : decode cX12_readsLine 52 = .ok (.bipush 32, 2) := by decide +kernel
theorem dX12_readsLine_54 : decode cX12_readsLine 54 = .ok (.if_icmp .ne 13, 3) := by decide +kernel
theorem dX12_readsLine_57 : decode cX12_readsLine 57 = .ok (.aload_n 0, 1) := by decide +kernel
theorem dX12_readsLine_58 : decode cX12_readsLine 58 = .ok (.iconst 4, 1) := by decide +kernel
theorem dX12_readsLine_59 : decode cX12_readsLine 59 = .ok (.aload_n 0, 1) := by decide +kernel
theorem dX12_readsLine_60 : decode cX12_readsLine 60 = .ok (.getfield 169, 3) := by decide +kernel
theorem dX12_readsLine_63 : decode cX12_readsLine 63 = .ok (.invokevirtual 182, 3) := by decide +kernel
theorem dX12_readsLine_66 : decode cX12_readsLine 66 = .ok (.ireturn, 1) := by decide +kernel
theorem dX12_readsLine_67 : decode cX12_readsLine 67 = .ok (.aload_n 0, 1) := by decide +kernel
theorem dX12_readsLine_68 : decode cX12_readsLine 68 = .ok (.aload_n 0, 1) := by decide +kernel
theorem dX12_readsLine_69 : decode cX12_readsLine 69 = .ok (.getfield 281, 3) := by decide +kernel
theorem dX12_readsLine_72 : decode cX12_readsLine 72 = .ok (.iconst 1, 1) := by decide +kernel
theorem dX12_readsLine_73 : decode cX12_readsLine 73 = .ok (.iadd, 1) := by decide +kernel
theorem dX12_readsLine_74 : decode cX12_readsLine 74 = .ok (.putfield 281, 3) := by decide +kernel
theorem dX12_readsLine_77 : decode cX12_readsLine 77 = .ok (.iload_n 3, 1) := by decide +kernel
theorem dX12_readsLine_78 : decode cX12_readsLine 78 = .ok (.ifCond .eq 11, 3) := by decide +kernel
theorem dX12_readsLine_81 : decode cX12_readsLine 81 = .ok (.aload_n 0, 1) := by decide +kernel
theorem dX12_readsLine_82 : decode cX12_readsLine 82 = .ok (.iload_n 1, 1) := by decide +kernel
theorem dX12_readsLine_83 : decode cX12_readsLine 83 = .ok (.invokevirtual 284, 3) := by decide +kernel
theorem dX12_readsLine_86 : decode cX12_readsLine 86 = .ok (.goto 8, 3) := by decide +kernel
theorem dX12_readsLine_89 : decode cX12_readsLine 89 = .ok (.aload_n 0, 1) := by decide +kernel
theorem dX12_readsLine_90 : decode cX12_readsLine 90 = .ok (.iload_n 2, 1) := by decide +kernel
theorem dX12_readsLine_91 : decode cX12_readsLine 91 = .ok (.invokevirtual 287, 3) := by decide +kernel
theorem dX12_readsLine_94 : decode cX12_readsLine 94 = .ok (.ireturn, 1) := by decide +kernel
theorem dX12_terrace_0 : decode cX12_terrace 0 = .ok (.iload_n 1, 1) := by decide +kernel
theorem dX12_terrace_1 : decode cX12_terrace 1 = .ok (.iconst 1, 1) := by decide +kernel
theorem dX12_terrace_2 : decode cX12_terrace 2 = .ok (.sipush 200, 3) := by decide +kernel
theorem dX12_terrace_5 : decode cX12_terrace 5 = .ok (.invokestatic 134, 3) := by decide +kernel
theorem dX12_terrace_8 : decode cX12_terrace 8 = .ok (.ifCond .eq 11, 3) := by decide +kernel
theorem dX12_terrace_11 : decode cX12_terrace 11 = .ok (.iload_n 1, 1) := by decide +kernel
theorem dX12_terrace_12 : decode cX12_terrace 12 = .ok (.aload_n 0, 1) := by decide +kernel
theorem dX12_terrace_13 : decode cX12_terrace 13 = .ok (.getfield 162, 3) := by decide +kernel
theorem dX12_terrace_16 : decode cX12_terrace 16 = .ok (.if_icmp .le 5, 3) := by decide +kernel
theorem dX12_terrace_19 : decode cX12_terrace 19 = .ok (.iconst (-1), 1) := by decide +kernel
theorem dX12_terrace_20 : decode cX12_terrace 20 = .ok (.ireturn, 1) := by decide +kernel
theorem dX12_terrace_21 : decode cX12_terrace 21 = .ok (.aload_n 0, 1) := by decide +kernel
theorem dX12_terrace_22 : decode cX12_terrace 22 = .ok (.iload_n 1, 1) := by decide +kernel
theorem dX12_terrace_23 : decode cX12_terrace 23 = .ok (.invokevirtual 253, 3) := by decide +kernel
theorem dX12_terrace_26 : decode cX12_terrace 26 = .ok (.aload_n 0, 1) := by decide +kernel
theorem dX12_terrace_27 : decode cX12_terrace 27 = .ok (.iconst 0, 1) := by decide +kernel
theorem dX12_terrace_28 : decode cX12_terrace 28 = .ok (.putfield 272, 3) := by decide +kernel
theorem dX12_terrace_31 : decode cX12_terrace 31 = .ok (.aload_n 0, 1) := by decide +kernel
theorem dX12_terrace_32 : decode cX12_terrace 32 = .ok (.iconst 0, 1) := by decide +kernel
theorem dX12_terrace_33 : decode cX12_terrace 33 = .ok (.putfield 278, 3) := by decide +kernel
theorem dX12_terrace_36 : decode cX12_terrace 36 = .ok (.aload_n 0, 1) := by decide +kernel
theorem dX12_terrace_37 : decode cX12_terrace 37 = .ok (.iconst 0, 1) := by decide +kernel
theorem dX12_terrace_38 : decode cX12_terrace 38 = .ok (.putfield 281, 3) := by decide +kernel
theorem dX12_terrace_41 : decode cX12_terrace 41 = .ok (.aload_n 0, 1) := by decide +kernel
theorem dX12_terrace_42 : decode cX12_terrace 42 = .ok (.invokevirtual 290, 3) := by decide +kernel
theorem dX12_terrace_45 : decode cX12_terrace 45 = .ok (.istore_n 2, 1) := by decide +kernel
theorem dX12_terrace_46 : decode cX12_terrace 46 = .ok (.iload_n 2, 1) := by decide +kernel
theorem dX12_terrace_47 : decode cX12_terrace 47 = .ok (.ifCond .eq 39, 3) := by decide +kernel
theorem dX12_terrace_50 : decode cX12_terrace 50 = .ok (.aload_n 0, 1) := by decide +kernel
theorem dX12_terrace_51 : decode cX12_terrace 51 = .ok (.getfield 169, 3) := by decide +kernel
theorem dX12_terrace_54 : decode cX12_terrace 54 = .ok (.aload_n 0, 1) := by decide +kernel
theorem dX12_terrace_55 : decode cX12_terrace 55 = .ok (.getfield 172, 3) := by decide +kernel
theorem dX12_terrace_58 : decode cX12_terrace 58 = .ok (.if_icmp .ge 28, 3) := by decide +kernel
theorem dX12_terrace_61 : decode cX12_terrace 61 = .ok (.aload_n 0, 1) := by decide +kernel
theorem dX12_terrace_62 : decode cX12_terrace 62 = .ok (.bipush 59, 2) := by decide +kernel
theorem dX12_terrace_64 : decode cX12_terrace 64 = .ok (.invokevirtual 259, 3) := by decide +kernel
theorem dX12_terrace_67 : decode cX12_terrace 67 = .ok (.ifCond .eq 14, 3) := by decide +kernel
theorem dX12_terrace_70 : decode cX12_terrace 70 = .ok (.aload_n 0, 1) := by decide +kernel
theorem dX12_terrace_71 : decode cX12_terrace 71 = .ok (.invokevirtual 290, 3) := by decide +kernel
theorem dX12_terrace_74 : decode cX12_terrace 74 = .ok (.ifCond .eq 7, 3) := by decide +kernel
theorem dX12_terrace_77 : decode cX12_terrace 77 = .ok (.iconst 1, 1) := by decide +kernel
theorem dX12_terrace_78 : decode cX12_terrace 78 = .ok (.goto 4, 3) := by decide +kernel
theorem dX12_terrace_81 : decode cX12_terrace 81 = .ok (.iconst 0, 1) := by decide +kernel
theorem dX12_terrace_82 : decode cX12_terrace 82 = .ok (.istore_n 2, 1) := by decide +kernel
theorem dX12_terrace_83 : decode cX12_terrace 83 = .ok (.goto (-37), 3) := by decide +kernel
theorem dX12_terrace_86 : decode cX12_terrace 86 = .ok (.aload_n 0, 1) := by decide +kernel
theorem dX12_terrace_87 : decode cX12_terrace 87 = .ok (.iconst 0, 1) := by decide +kernel
theorem dX12_terrace_88 : decode cX12_terrace 88 = .ok (.putfield 162, 3) := by decide +kernel
theorem dX12_terrace_91 : decode cX12_terrace 91 = .ok (.iload_n 2, 1) := by decide +kernel
theorem dX12_terrace_92 : decode cX12_terrace 92 = .ok (.ifCond .ne 8, 3) := by decide +kernel
theorem dX12_terrace_95 : decode cX12_terrace 95 = .ok (.aload_n 0, 1) := by decide +kernel
theorem dX12_terrace_96 : decode cX12_terrace 96 = .ok (.getfield 179, 3) := by decide +kernel
theorem dX12_terrace_99 : decode cX12_terrace 99 = .ok (.ireturn, 1) := by decide +kernel
theorem dX12_terrace_100 : decode cX12_terrace 100 = .ok (.aload_n 0, 1) := by decide +kernel
theorem dX12_terrace_101 : decode cX12_terrace 101 = .ok (.aload_n 0, 1) := by decide +kernel
theorem dX12_terrace_102 : decode cX12_terrace 102 = .ok (.getfield 272, 3) := by decide +kernel
theorem dX12_terrace_105 : decode cX12_terrace 105 = .ok (.putfield 138, 3) := by decide +kernel
theorem dX12_terrace_108 : decode cX12_terrace 108 = .ok (.aload_n 0, 1) := by decide +kernel
theorem dX12_terrace_109 : decode cX12_terrace 109 = .ok (.aload_n 0, 1) := by decide +kernel
theorem dX12_terrace_110 : decode cX12_terrace 110 = .ok (.getfield 278, 3) := by decide +kernel
theorem dX12_terrace_113 : decode cX12_terrace 113 = .ok (.putfield 142, 3) := by decide +kernel
theorem dX12_terrace_116 : decode cX12_terrace 116 = .ok (.iconst 0, 1) := by decide +kernel
theorem dX12_terrace_117 : decode cX12_terrace 117 = .ok (.istore_n 3, 1) := by decide +kernel
theorem dX12_terrace_118 : decode cX12_terrace 118 = .ok (.iload_n 3, 1) := by decide +kernel
theorem dX12_terrace_119 : decode cX12_terrace 119 = .ok (.bipush 16, 2) := by decide +kernel
theorem dX12_terrace_121 : decode cX12_terrace 121 = .ok (.if_icmp .ge 66, 3) := by decide +kernel
theorem dX12_terrace_124 : decode cX12_terrace 124 = .ok (.aload_n 0, 1) := by decide +kernel
theorem dX12_terrace_125 : decode cX12_terrace 125 = .ok (.getfield 22, 3) := by decide +kernel
theorem dX12_terrace_128 : decode cX12_terrace 128 = .ok (.iload_n 3, 1) := by decide +kernel
theorem dX12_terrace_129 : decode cX12_terrace 129 = .ok (.aload_n 0, 1) := by decide +kernel
theorem dX12_terrace_130 : decode cX12_terrace 130 = .ok (.getfield 77, 3) := by decide +kernel
theorem dX12_terrace_133 : decode cX12_terrace 133 = .ok (.iload_n 3, 1) := by decide +kernel
theorem dX12_terrace_134 : decode cX12_terrace 134 = .ok (.iaload, 1) := by decide +kernel
theorem dX12_terrace_135 : decode cX12_terrace 135 = .ok (.iastore, 1) := by decide +kernel
theorem dX12_terrace_136 : decode cX12_terrace 136 = .ok (.aload_n 0, 1) := by decide +kernel
theorem dX12_terrace_137 : decode cX12_terrace 137 = .ok (.getfield 25, 3) := by decide +kernel
theorem dX12_terrace_140 : decode cX12_terrace 140 = .ok (.iload_n 3, 1) := by decide +kernel
theorem dX12_terrace_141 : decode cX12_terrace 141 = .ok (.aload_n 0, 1) := by decide +kernel
theorem dX12_terrace_142 : decode cX12_terrace 142 = .ok (.getfield 80, 3) := by decide +kernel
theorem dX12_terrace_145 : decode cX12_terrace 145 = .ok (.iload_n 3, 1) := by decide +kernel
theorem dX12_terrace_146 : decode cX12_terrace 146 = .ok (.iaload, 1) := by decide +kernel
theorem dX12_terrace_147 : decode cX12_terrace 147 = .ok (.iastore, 1) := by decide +kernel
theorem dX12_terrace_148 : decode cX12_terrace 148 = .ok (.aload_n 0, 1) := by decide +kernel
theorem dX12_terrace_149 : decode cX12_terrace 149 = .ok (.getfield 28, 3) := by decide +kernel
theorem dX12_terrace_152 : decode cX12_terrace 152 = .ok (.iload_n 3, 1) := by decide +kernel
theorem dX12_terrace_153 : decode cX12_terrace 153 = .ok (.aload_n 0, 1) := by decide +kernel
theorem dX12_terrace_154 : decode cX12_terrace 154 = .ok (.getfield 83, 3) := by decide +kernel
theorem dX12_terrace_157 : decode cX12_terrace 157 = .ok (.iload_n 3, 1) := by decide +kernel
theorem dX12_terrace_158 : decode cX12_terrace 158 = .ok (.iaload, 1) := by decide +kernel
theorem dX12_terrace_159 : decode cX12_terrace 159 = .ok (.iastore, 1) := by decide +kernel
theorem dX12_terrace_160 : decode cX12_terrace 160 = .ok (.aload_n 0, 1) := by decide +kernel
theorem dX12_terrace_161 : decode cX12_terrace 161 = .ok (.getfield 31, 3) := by decide +kernel
theorem dX12_terrace_164 : decode cX12_terrace 164 = .ok (.iload_n 3, 1) := by decide +kernel
theorem dX12_terrace_165 : decode cX12_terrace 165 = .ok (.aload_n 0, 1) := by decide +kernel
theorem dX12_terrace_166 : decode cX12_terrace 166 = .ok (.getfield 86, 3) := by decide +kernel
theorem dX12_terrace_169 : decode cX12_terrace 169 = .ok (.iload_n 3, 1) := by decide +kernel
theorem dX12_terrace_170 : decode cX12_terrace 170 = .ok (.iaload, 1) := by decide +kernel
theorem dX12_terrace_171 : decode cX12_terrace 171 = .ok (.iastore, 1) := by decide +kernel
theorem dX12_terrace_172 : decode cX12_terrace 172 = .ok (.aload_n 0, 1) := by decide +kernel
theorem dX12_terrace_173 : decode cX12_terrace 173 = .ok (.getfield 7, 3) := by decide +kernel
theorem dX12_terrace_176 : decode cX12_terrace 176 = .ok (.iconst 0, 1) := by decide +kernel
theorem dX12_terrace_177 : decode cX12_terrace 177 = .ok (.iload_n 3, 1) := by decide +kernel
theorem dX12_terrace_178 : decode cX12_terrace 178 = .ok (.iadd, 1) := by decide +kernel
theorem dX12_terrace_179 : decode cX12_terrace 179 = .ok (.iconst 0, 1) := by decide +kernel
theorem dX12_terrace_180 : decode cX12_terrace 180 = .ok (.iastore, 1) := by decide +kernel
theorem dX12_terrace_181 : decode cX12_terrace 181 = .ok (.iinc 3 1, 3) := by decide +kernel
theorem dX12_terrace_184 : decode cX12_terrace 184 = .ok (.goto (-66), 3) := by decide +kernel
theorem dX12_terrace_187 : decode cX12_terrace 187 = .ok (.aload_n 0, 1) := by decide +kernel
theorem dX12_terrace_188 : decode cX12_terrace 188 = .ok (.getfield 7, 3) := by decide +kernel
theorem dX12_terrace_191 : decode cX12_terrace 191 = .ok (.bipush 16, 2) := by decide +kernel
theorem dX12_terrace_193 : decode cX12_terrace 193 = .ok (.iconst (-1), 1) := by decide +kernel
theorem dX12_terrace_194 : decode cX12_terrace 194 = .ok (.iastore, 1) := by decide +kernel
theorem dX12_terrace_195 : decode cX12_terrace 195 = .ok (.aload_n 0, 1) := by decide +kernel
theorem dX12_terrace_196 : decode cX12_terrace 196 = .ok (.getfield 7, 3) := by decide +kernel
theorem dX12_terrace_199 : decode cX12_terrace 199 = .ok (.bipush 17, 2) := by decide +kernel
theorem dX12_terrace_201 : decode cX12_terrace 201 = .ok (.iconst 0, 1) := by decide +kernel
theorem dX12_terrace_202 : decode cX12_terrace 202 = .ok (.iastore, 1) := by decide +kernel
theorem dX12_terrace_203 : decode cX12_terrace 203 = .ok (.aload_n 0, 1) := by decide +kernel
theorem dX12_terrace_204 : decode cX12_terrace 204 = .ok (.getfield 7, 3) := by decide +kernel
theorem dX12_terrace_207 : decode cX12_terrace 207 = .ok (.bipush 18, 2) := by decide +kernel
theorem dX12_terrace_209 : decode cX12_terrace 209 = .ok (.iconst 0, 1) := by decide +kernel
theorem dX12_terrace_210 : decode cX12_terrace 210 = .ok (.iastore, 1) := by decide +kernel
theorem dX12_terrace_211 : decode cX12_terrace 211 = .ok (.iconst 0, 1) := by decide +kernel
theorem dX12_terrace_212 : decode cX12_terrace 212 = .ok (.istore_n 3, 1) := by decide +kernel
theorem dX12_terrace_213 : decode cX12_terrace 213 = .ok (.iload_n 3, 1) := by decide +kernel
theorem dX12_terrace_214 : decode cX12_terrace 214 = .ok (.bipush 12, 2) := by decide +kernel
theorem dX12_terrace_216 : decode cX12_terrace 216 = .ok (.if_icmp .ge 29, 3) := by decide +kernel
theorem dX12_terrace_219 : decode cX12_terrace 219 = .ok (.aload_n 0, 1) := by decide +kernel
theorem dX12_terrace_220 : decode cX12_terrace 220 = .ok (.aload_n 0, 1) := by decide +kernel
theorem dX12_terrace_221 : decode cX12_terrace 221 = .ok (.getfield 19, 3) := by decide +kernel
theorem dX12_terrace_224 : decode cX12_terrace 224 = .ok (.iload_n 3, 1) := by decide +kernel
theorem dX12_terrace_225 : decode cX12_terrace 225 = .ok (.iaload, 1) := by decide +kernel
theorem dX12_terrace_226 : decode cX12_terrace 226 = .ok (.invokevirtual 159, 3) := by decide +kernel
theorem dX12_terrace_229 : decode cX12_terrace 229 = .ok (.ifCond .ne 10, 3) := by decide +kernel
theorem dX12_terrace_232 : decode cX12_terrace 232 = .ok (.aload_n 0, 1) := by decide +kernel
theorem dX12_terrace_233 : decode cX12_terrace 233 = .ok (.getfield 19, 3) := by decide +kernel
theorem dX12_terrace_236 : decode cX12_terrace 236 = .ok (.iload_n 3, 1) := by decide +kernel
theorem dX12_terrace_237 : decode cX12_terrace 237 = .ok (.iconst (-1), 1) := by decide +kernel
theorem dX12_terrace_238 : decode cX12_terrace 238 = .ok (.iastore, 1) := by decide +kernel
theorem dX12_terrace_239 : decode cX12_terrace 239 = .ok (.iinc 3 1, 3) := by decide +kernel
theorem dX12_terrace_242 : decode cX12_terrace 242 = .ok (.goto (-29), 3) := by decide +kernel
theorem dX12_terrace_245 : decode cX12_terrace 245 = .ok (.aload_n 0, 1) := by decide +kernel
theorem dX12_terrace_246 : decode cX12_terrace 246 = .ok (.getfield 281, 3) := by decide +kernel
theorem dX12_terrace_249 : decode cX12_terrace 249 = .ok (.ireturn, 1) := by decide +kernel
theorem dX12_readsTimes_0 : decode cX12_readsTimes 0 = .ok (.aload_n 0, 1) := by decide +kernel
theorem dX12_readsTimes_1 : decode cX12_readsTimes 1 = .ok (.aload_n 0, 1) := by decide +kernel
theorem dX12_readsTimes_2 : decode cX12_readsTimes 2 = .ok (.getfield 169, 3) := by decide +kernel
theorem dX12_readsTimes_5 : decode cX12_readsTimes 5 = .ok (.putfield 293, 3) := by decide +kernel
theorem dX12_readsTimes_8 : decode cX12_readsTimes 8 = .ok (.aload_n 0, 1) := by decide +kernel
theorem dX12_readsTimes_9 : decode cX12_readsTimes 9 = .ok (.iconst 1, 1) := by decide +kernel
theorem dX12_readsTimes_10 : decode cX12_readsTimes 10 = .ok (.putfield 296, 3) := by decide +kernel
theorem dX12_readsTimes_13 : decode cX12_readsTimes 13 = .ok (.aload_n 0, 1) := by decide +kernel
theorem dX12_readsTimes_14 : decode cX12_readsTimes 14 = .ok (.invokevirtual 175, 3) := by decide +kernel
theorem dX12_readsTimes_17 : decode cX12_readsTimes 17 = .ok (.bipush 50, 2) := by decide +kernel
theorem dX12_readsTimes_19 : decode cX12_readsTimes 19 = .ok (.bipush 57, 2) := by decide +kernel
theorem dX12_readsTimes_21 : decode cX12_readsTimes 21 = .ok (.invokestatic 134, 3) := by decide +kernel
theorem dX12_readsTimes_24 : decode cX12_readsTimes 24 = .ok (.ifCond .ne 4, 3) := by decide +kernel
theorem dX12_readsTimes_27 : decode cX12_readsTimes 27 = .ok (.return_, 1) := by decide +kernel
theorem dX12_readsTimes_28 : decode cX12_readsTimes 28 = .ok (.aload_n 0, 1) := by decide +kernel
theorem dX12_readsTimes_29 : decode cX12_readsTimes 29 = .ok (.aload_n 0, 1) := by decide +kernel
theorem dX12_readsTimes_30 : decode cX12_readsTimes 30 = .ok (.invokevirtual 175, 3) := by decide +kernel
theorem dX12_readsTimes_33 : decode cX12_readsTimes 33 = .ok (.bipush 48, 2) := by decide +kernel
theorem dX12_readsTimes_35 : decode cX12_readsTimes 35 = .ok (.isub, 1) := by decide +kernel
theorem dX12_readsTimes_36 : decode cX12_readsTimes 36 = .ok (.putfield 296, 3) := by decide +kernel
theorem dX12_readsTimes_39 : decode cX12_readsTimes 39 = .ok (.aload_n 0, 1) := by decide +kernel
theorem dX12_readsTimes_40 : decode cX12_readsTimes 40 = .ok (.aload_n 0, 1) := by decide +kernel
theorem dX12_readsTimes_41 : decode cX12_readsTimes 41 = .ok (.getfield 169, 3) := by decide +kernel
theorem dX12_readsTimes_44 : decode cX12_readsTimes 44 = .ok (.iconst 1, 1) := by decide +kernel
theorem dX12_readsTimes_45 : decode cX12_readsTimes 45 = .ok (.iadd, 1) := by decide +kernel
theorem dX12_readsTimes_46 : decode cX12_readsTimes 46 = .ok (.putfield 169, 3) := by decide +kernel
theorem dX12_readsTimes_49 : decode cX12_readsTimes 49 = .ok (.return_, 1) := by decide +kernel
theorem dX12_repeats_0 : decode cX12_repeats 0 = .ok (.aload_n 0, 1) := by decide +kernel
theorem dX12_repeats_1 : decode cX12_repeats 1 = .ok (.getfield 299, 3) := by decide +kernel
theorem dX12_repeats_4 : decode cX12_repeats 4 = .ok (.iload_n 1, 1) := by decide +kernel
theorem dX12_repeats_5 : decode cX12_repeats 5 = .ok (.isub, 1) := by decide +kernel
theorem dX12_repeats_6 : decode cX12_repeats 6 = .ok (.istore 4, 2) := by decide +kernel
theorem dX12_repeats_8 : decode cX12_repeats 8 = .ok (.iload_n 1, 1) := by decide +kernel
theorem dX12_repeats_9 : decode cX12_repeats 9 = .ok (.iload 4, 2) := by decide +kernel
theorem dX12_repeats_11 : decode cX12_repeats 11 = .ok (.iload_n 2, 1) := by decide +kernel
theorem dX12_repeats_12 : decode cX12_repeats 12 = .ok (.imul, 1) := by decide +kernel
theorem dX12_repeats_13 : decode cX12_repeats 13 = .ok (.iadd, 1) := by decide +kernel
theorem dX12_repeats_14 : decode cX12_repeats 14 = .ok (.bipush 12, 2) := by decide +kernel
theorem dX12_repeats_16 : decode cX12_repeats 16 = .ok (.if_icmp .le 11, 3) := by decide +kernel
theorem dX12_repeats_19 : decode cX12_repeats 19 = .ok (.aload_n 0, 1) := by decide +kernel
theorem dX12_repeats_20 : decode cX12_repeats 20 = .ok (.bipush 6, 2) := by decide +kernel
theorem dX12_repeats_22 : decode cX12_repeats 22 = .ok (.iload_n 3, 1) := by decide +kernel
theorem dX12_repeats_23 : decode cX12_repeats 23 = .ok (.invokevirtual 182, 3) := by decide +kernel
theorem dX12_repeats_26 : decode cX12_repeats 26 = .ok (.ireturn, 1) := by decide +kernel
theorem dX12_repeats_27 : decode cX12_repeats 27 = .ok (.iload_n 1, 1) := by decide +kernel
theorem dX12_repeats_28 : decode cX12_repeats 28 = .ok (.iload 4, 2) := by decide +kernel
theorem dX12_repeats_30 : decode cX12_repeats 30 = .ok (.iadd, 1) := by decide +kernel
theorem dX12_repeats_31 : decode cX12_repeats 31 = .ok (.istore 5, 2) := by decide +kernel
theorem dX12_repeats_33 : decode cX12_repeats 33 = .ok (.iload 5, 2) := by decide +kernel
theorem dX12_repeats_35 : decode cX12_repeats 35 = .ok (.iload_n 1, 1) := by decide +kernel
theorem dX12_repeats_36 : decode cX12_repeats 36 = .ok (.iload 4, 2) := by decide +kernel
theorem dX12_repeats_38 : decode cX12_repeats 38 = .ok (.iload_n 2, 1) := by decide +kernel
theorem dX12_repeats_39 : decode cX12_repeats 39 = .ok (.imul, 1) := by decide +kernel
theorem dX12_repeats_40 : decode cX12_repeats 40 = .ok (.iadd, 1) := by decide +kernel
theorem dX12_repeats_41 : decode cX12_repeats 41 = .ok (.if_icmp .ge 43, 3) := by decide +kernel
theorem dX12_repeats_44 : decode cX12_repeats 44 = .ok (.aload_n 0, 1) := by decide +kernel
theorem dX12_repeats_45 : decode cX12_repeats 45 = .ok (.getfield 89, 3) := by decide +kernel
theorem dX12_repeats_48 : decode cX12_repeats 48 = .ok (.iload 5, 2) := by decide +kernel
theorem dX12_repeats_50 : decode cX12_repeats 50 = .ok (.aload_n 0, 1) := by decide +kernel
theorem dX12_repeats_51 : decode cX12_repeats 51 = .ok (.getfield 89, 3) := by decide +kernel
theorem dX12_repeats_54 : decode cX12_repeats 54 = .ok (.iload 5, 2) := by decide +kernel
theorem dX12_repeats_56 : decode cX12_repeats 56 = .ok (.iload 4, 2) := by decide +kernel
theorem dX12_repeats_58 : decode cX12_repeats 58 = .ok (.isub, 1) := by decide +kernel
theorem dX12_repeats_59 : decode cX12_repeats 59 = .ok (.iaload, 1) := by decide +kernel
theorem dX12_repeats_60 : decode cX12_repeats 60 = .ok (.iastore, 1) := by decide +kernel
theorem dX12_repeats_61 : decode cX12_repeats 61 = .ok (.aload_n 0, 1) := by decide +kernel
theorem dX12_repeats_62 : decode cX12_repeats 62 = .ok (.getfield 92, 3) := by decide +kernel
theorem dX12_repeats_65 : decode cX12_repeats 65 = .ok (.iload 5, 2) := by decide +kernel
theorem dX12_repeats_67 : decode cX12_repeats 67 = .ok (.aload_n 0, 1) := by decide +kernel
theorem dX12_repeats_68 : decode cX12_repeats 68 = .ok (.getfield 92, 3) := by decide +kernel
theorem dX12_repeats_71 : decode cX12_repeats 71 = .ok (.iload 5, 2) := by decide +kernel
theorem dX12_repeats_73 : decode cX12_repeats 73 = .ok (.iload 4, 2) := by decide +kernel
theorem dX12_repeats_75 : decode cX12_repeats 75 = .ok (.isub, 1) := by decide +kernel
theorem dX12_repeats_76 : decode cX12_repeats 76 = .ok (.iaload, 1) := by decide +kernel
theorem dX12_repeats_77 : decode cX12_repeats 77 = .ok (.iastore, 1) := by decide +kernel
theorem dX12_repeats_78 : decode cX12_repeats 78 = .ok (.iinc 5 1, 3) := by decide +kernel
theorem dX12_repeats_81 : decode cX12_repeats 81 = .ok (.goto (-48), 3) := by decide +kernel
theorem dX12_repeats_84 : decode cX12_repeats 84 = .ok (.aload_n 0, 1) := by decide +kernel
theorem dX12_repeats_85 : decode cX12_repeats 85 = .ok (.iload_n 1, 1) := by decide +kernel
theorem dX12_repeats_86 : decode cX12_repeats 86 = .ok (.iload 4, 2) := by decide +kernel
theorem dX12_repeats_88 : decode cX12_repeats 88 = .ok (.iload_n 2, 1) := by decide +kernel
theorem dX12_repeats_89 : decode cX12_repeats 89 = .ok (.imul, 1) := by decide +kernel
theorem dX12_repeats_90 : decode cX12_repeats 90 = .ok (.iadd, 1) := by decide +kernel
theorem dX12_repeats_91 : decode cX12_repeats 91 = .ok (.putfield 299, 3) := by decide +kernel
theorem dX12_repeats_94 : decode cX12_repeats 94 = .ok (.iconst 1, 1) := by decide +kernel
theorem dX12_repeats_95 : decode cX12_repeats 95 = .ok (.ireturn, 1) := by decide +kernel
theorem dX12_readsTurn_0 : decode cX12_readsTurn 0 = .ok (.aload_n 0, 1) := by decide +kernel
theorem dX12_readsTurn_1 : decode cX12_readsTurn 1 = .ok (.invokevirtual 302, 3) := by decide +kernel
theorem dX12_readsTurn_4 : decode cX12_readsTurn 4 = .ok (.aload_n 0, 1) := by decide +kernel
theorem dX12_readsTurn_5 : decode cX12_readsTurn 5 = .ok (.invokevirtual 175, 3) := by decide +kernel
theorem dX12_readsTurn_8 : decode cX12_readsTurn 8 = .ok (.bipush 40, 2) := by decide +kernel
theorem dX12_readsTurn_10 : decode cX12_readsTurn 10 = .ok (.if_icmp .ne 87, 3) := by decide +kernel
theorem dX12_readsTurn_13 : decode cX12_readsTurn 13 = .ok (.aload_n 0, 1) := by decide +kernel
theorem dX12_readsTurn_14 : decode cX12_readsTurn 14 = .ok (.getfield 305, 3) := by decide +kernel
theorem dX12_readsTurn_17 : decode cX12_readsTurn 17 = .ok (.iconst 2, 1) := by decide +kernel
theorem dX12_readsTurn_18 : decode cX12_readsTurn 18 = .ok (.if_icmp .ne 13, 3) := by decide +kernel
theorem dX12_readsTurn_21 : decode cX12_readsTurn 21 = .ok (.aload_n 0, 1) := by decide +kernel
theorem dX12_readsTurn_22 : decode cX12_readsTurn 22 = .ok (.iconst 5, 1) := by decide +kernel
theorem dX12_readsTurn_23 : decode cX12_readsTurn 23 = .ok (.aload_n 0, 1) := by decide +kernel
theorem dX12_readsTurn_24 : decode cX12_readsTurn 24 = .ok (.getfield 169, 3) := by decide +kernel
theorem dX12_readsTurn_27 : decode cX12_readsTurn 27 = .ok (.invokevirtual 182, 3) := by decide +kernel
theorem dX12_readsTurn_30 : decode cX12_readsTurn 30 = .ok (.ireturn, 1) := by decide +kernel
theorem dX12_readsTurn_31 : decode cX12_readsTurn 31 = .ok (.aload_n 0, 1) := by decide +kernel
theorem dX12_readsTurn_32 : decode cX12_readsTurn 32 = .ok (.getfield 95, 3) := by decide +kernel
theorem dX12_readsTurn_35 : decode cX12_readsTurn 35 = .ok (.aload_n 0, 1) := by decide +kernel
theorem dX12_readsTurn_36 : decode cX12_readsTurn 36 = .ok (.getfield 305, 3) := by decide +kernel
theorem dX12_readsTurn_39 : decode cX12_readsTurn 39 = .ok (.aload_n 0, 1) := by decide +kernel
theorem dX12_readsTurn_40 : decode cX12_readsTurn 40 = .ok (.getfield 293, 3) := by decide +kernel
theorem dX12_readsTurn_43 : decode cX12_readsTurn 43 = .ok (.iastore, 1) := by decide +kernel
theorem dX12_readsTurn_44 : decode cX12_readsTurn 44 = .ok (.aload_n 0, 1) := by decide +kernel
theorem dX12_readsTurn_45 : decode cX12_readsTurn 45 = .ok (.getfield 98, 3) := by decide +kernel
theorem dX12_readsTurn_48 : decode cX12_readsTurn 48 = .ok (.aload_n 0, 1) := by decide +kernel
theorem dX12_readsTurn_49 : decode cX12_readsTurn 49 = .ok (.getfield 305, 3) := by decide +kernel
theorem dX12_readsTurn_52 : decode cX12_readsTurn 52 = .ok (.aload_n 0, 1) := by decide +kernel
theorem dX12_readsTurn_53 : decode cX12_readsTurn 53 = .ok (.getfield 299, 3) := by decide +kernel
theorem dX12_readsTurn_56 : decode cX12_readsTurn 56 = .ok (.iastore, 1) := by decide +kernel
theorem dX12_readsTurn_57 : decode cX12_readsTurn 57 = .ok (.aload_n 0, 1) := by decide +kernel
theorem dX12_readsTurn_58 : decode cX12_readsTurn 58 = .ok (.getfield 101, 3) := by decide +kernel
theorem dX12_readsTurn_61 : decode cX12_readsTurn 61 = .ok (.aload_n 0, 1) := by decide +kernel
theorem dX12_readsTurn_62 : decode cX12_readsTurn 62 = .ok (.getfield 305, 3) := by decide +kernel
theorem dX12_readsTurn_65 : decode cX12_readsTurn 65 = .ok (.aload_n 0, 1) := by decide +kernel
theorem dX12_readsTurn_66 : decode cX12_readsTurn 66 = .ok (.getfield 296, 3) := by decide +kernel
theorem dX12_readsTurn_69 : decode cX12_readsTurn 69 = .ok (.iastore, 1) := by decide +kernel
theorem dX12_readsTurn_70 : decode cX12_readsTurn 70 = .ok (.aload_n 0, 1) := by decide +kernel
theorem dX12_readsTurn_71 : decode cX12_readsTurn 71 = .ok (.aload_n 0, 1) := by decide +kernel
theorem dX12_readsTurn_72 : decode cX12_readsTurn 72 = .ok (.getfield 305, 3) := by decide +kernel
theorem dX12_readsTurn_75 : decode cX12_readsTurn 75 = .ok (.iconst 1, 1) := by decide +kernel
theorem dX12_readsTurn_76 : decode cX12_readsTurn 76 = .ok (.iadd, 1) := by decide +kernel
theorem dX12_readsTurn_77 : decode cX12_readsTurn 77 = .ok (.putfield 305, 3) := by decide +kernel
theorem dX12_readsTurn_80 : decode cX12_readsTurn 80 = .ok (.aload_n 0, 1) := by decide +kernel
theorem dX12_readsTurn_81 : decode cX12_readsTurn 81 = .ok (.aload_n 0, 1) := by decide +kernel
theorem dX12_readsTurn_82 : decode cX12_readsTurn 82 = .ok (.getfield 169, 3) := by decide +kernel
theorem dX12_readsTurn_85 : decode cX12_readsTurn 85 = .ok (.iconst 1, 1) := by decide +kernel
theorem dX12_readsTurn_86 : decode cX12_readsTurn 86 = .ok (.iadd, 1) := by decide +kernel
theorem dX12_readsTurn_87 : decode cX12_readsTurn 87 = .ok (.putfield 169, 3) := by decide +kernel
theorem dX12_readsTurn_90 : decode cX12_readsTurn 90 = .ok (.aload_n 0, 1) := by decide +kernel
theorem dX12_readsTurn_91 : decode cX12_readsTurn 91 = .ok (.invokevirtual 302, 3) := by decide +kernel
theorem dX12_readsTurn_94 : decode cX12_readsTurn 94 = .ok (.goto (-90), 3) := by decide +kernel
theorem dX12_readsTurn_97 : decode cX12_readsTurn 97 = .ok (.aload_n 0, 1) := by decide +kernel
theorem dX12_readsTurn_98 : decode cX12_readsTurn 98 = .ok (.getfield 293, 3) := by decide +kernel
theorem dX12_readsTurn_101 : decode cX12_readsTurn 101 = .ok (.istore_n 1, 1) := by decide +kernel
theorem dX12_readsTurn_102 : decode cX12_readsTurn 102 = .ok (.aload_n 0, 1) := by decide +kernel
theorem dX12_readsTurn_103 : decode cX12_readsTurn 103 = .ok (.getfield 296, 3) := by decide +kernel
theorem dX12_readsTurn_106 : decode cX12_readsTurn 106 = .ok (.istore_n 2, 1) := by decide +kernel
theorem dX12_readsTurn_107 : decode cX12_readsTurn 107 = .ok (.aload_n 0, 1) := by decide +kernel
theorem dX12_readsTurn_108 : decode cX12_readsTurn 108 = .ok (.invokevirtual 175, 3) := by decide +kernel
theorem dX12_readsTurn_111 : decode cX12_readsTurn 111 = .ok (.bipush 45, 2) := by decide +kernel
theorem dX12_readsTurn_113 : decode cX12_readsTurn 113 = .ok (.if_icmp .ne 7, 3) := by decide +kernel
theorem dX12_readsTurn_116 : decode cX12_readsTurn 116 = .ok (.iconst (-1), 1) := by decide +kernel
theorem dX12_readsTurn_117 : decode cX12_readsTurn 117 = .ok (.goto 10, 3) := by decide +kernel
theorem dX12_readsTurn_120 : decode cX12_readsTurn 120 = .ok (.aload_n 0, 1) := by decide +kernel
theorem dX12_readsTurn_121 : decode cX12_readsTurn 121 = .ok (.invokevirtual 175, 3) := by decide +kernel
theorem dX12_readsTurn_124 : decode cX12_readsTurn 124 = .ok (.bipush 97, 2) := by decide +kernel
theorem dX12_readsTurn_126 : decode cX12_readsTurn 126 = .ok (.isub, 1) := by decide +kernel
theorem dX12_readsTurn_127 : decode cX12_readsTurn 127 = .ok (.istore_n 3, 1) := by decide +kernel
theorem dX12_readsTurn_128 : decode cX12_readsTurn 128 = .ok (.iload_n 3, 1) := by decide +kernel
theorem dX12_readsTurn_129 : decode cX12_readsTurn 129 = .ok (.iconst (-1), 1) := by decide +kernel
theorem dX12_readsTurn_130 : decode cX12_readsTurn 130 = .ok (.bipush 15, 2) := by decide +kernel
theorem dX12_readsTurn_132 : decode cX12_readsTurn 132 = .ok (.invokestatic 134, 3) := by decide +kernel
theorem dX12_readsTurn_135 : decode cX12_readsTurn 135 = .ok (.ifCond .eq 17, 3) := by decide +kernel
theorem dX12_readsTurn_138 : decode cX12_readsTurn 138 = .ok (.iload_n 3, 1) := by decide +kernel
theorem dX12_readsTurn_139 : decode cX12_readsTurn 139 = .ok (.iconst (-1), 1) := by decide +kernel
theorem dX12_readsTurn_140 : decode cX12_readsTurn 140 = .ok (.if_icmp .ne 22, 3) := by decide +kernel
theorem dX12_readsTurn_143 : decode cX12_readsTurn 143 = .ok (.aload_n 0, 1) := by decide +kernel
theorem dX12_readsTurn_144 : decode cX12_readsTurn 144 = .ok (.invokevirtual 175, 3) := by decide +kernel
theorem dX12_readsTurn_147 : decode cX12_readsTurn 147 = .ok (.bipush 45, 2) := by decide +kernel
theorem dX12_readsTurn_149 : decode cX12_readsTurn 149 = .ok (.if_icmp .eq 13, 3) := by decide +kernel
theorem dX12_readsTurn_152 : decode cX12_readsTurn 152 = .ok (.aload_n 0, 1) := by decide +kernel
theorem dX12_readsTurn_153 : decode cX12_readsTurn 153 = .ok (.iconst 1, 1) := by decide +kernel
theorem dX12_readsTurn_154 : decode cX12_readsTurn 154 = .ok (.aload_n 0, 1) := by decide +kernel
theorem dX12_readsTurn_155 : decode cX12_readsTurn 155 = .ok (.getfield 169, 3) := by decide +kernel
theorem dX12_readsTurn_158 : decode cX12_readsTurn 158 = .ok (.invokevirtual 182, 3) := by decide +kernel
theorem dX12_readsTurn_161 : decode cX12_readsTurn 161 = .ok (.ireturn, 1) := by decide +kernel
theorem dX12_readsTurn_162 : decode cX12_readsTurn 162 = .ok (.aload_n 0, 1) := by decide +kernel
theorem dX12_readsTurn_163 : decode cX12_readsTurn 163 = .ok (.getfield 299, 3) := by decide +kernel
theorem dX12_readsTurn_166 : decode cX12_readsTurn 166 = .ok (.iload_n 2, 1) := by decide +kernel
theorem dX12_readsTurn_167 : decode cX12_readsTurn 167 = .ok (.iadd, 1) := by decide +kernel
theorem dX12_readsTurn_168 : decode cX12_readsTurn 168 = .ok (.bipush 12, 2) := by decide +kernel
theorem dX12_readsTurn_170 : decode cX12_readsTurn 170 = .ok (.if_icmp .le 11, 3) := by decide +kernel
theorem dX12_readsTurn_173 : decode cX12_readsTurn 173 = .ok (.aload_n 0, 1) := by decide +kernel
theorem dX12_readsTurn_174 : decode cX12_readsTurn 174 = .ok (.bipush 6, 2) := by decide +kernel
theorem dX12_readsTurn_176 : decode cX12_readsTurn 176 = .ok (.iload_n 1, 1) := by decide +kernel
theorem dX12_readsTurn_177 : decode cX12_readsTurn 177 = .ok (.invokevirtual 182, 3) := by decide +kernel
theorem dX12_readsTurn_180 : decode cX12_readsTurn 180 = .ok (.ireturn, 1) := by decide +kernel
theorem dX12_readsTurn_181 : decode cX12_readsTurn 181 = .ok (.aload_n 0, 1) := by decide +kernel
theorem dX12_readsTurn_182 : decode cX12_readsTurn 182 = .ok (.getfield 89, 3) := by decide +kernel
theorem dX12_readsTurn_185 : decode cX12_readsTurn 185 = .ok (.aload_n 0, 1) := by decide +kernel
theorem dX12_readsTurn_186 : decode cX12_readsTurn 186 = .ok (.getfield 299, 3) := by decide +kernel
theorem dX12_readsTurn_189 : decode cX12_readsTurn 189 = .ok (.iload_n 3, 1) := by decide +kernel
theorem dX12_readsTurn_190 : decode cX12_readsTurn 190 = .ok (.iastore, 1) := by decide +kernel
theorem dX12_readsTurn_191 : decode cX12_readsTurn 191 = .ok (.aload_n 0, 1) := by decide +kernel
theorem dX12_readsTurn_192 : decode cX12_readsTurn 192 = .ok (.getfield 92, 3) := by decide +kernel
theorem dX12_readsTurn_195 : decode cX12_readsTurn 195 = .ok (.aload_n 0, 1) := by decide +kernel
theorem dX12_readsTurn_196 : decode cX12_readsTurn 196 = .ok (.getfield 299, 3) := by decide +kernel
theorem dX12_readsTurn_199 : decode cX12_readsTurn 199 = .ok (.aload_n 0, 1) := by decide +kernel
theorem dX12_readsTurn_200 : decode cX12_readsTurn 200 = .ok (.getfield 169, 3) := by decide +kernel
theorem dX12_readsTurn_203 : decode cX12_readsTurn 203 = .ok (.iastore, 1) := by decide +kernel
theorem dX12_readsTurn_204 : decode cX12_readsTurn 204 = .ok (.aload_n 0, 1) := by decide +kernel
theorem dX12_readsTurn_205 : decode cX12_readsTurn 205 = .ok (.aload_n 0, 1) := by decide +kernel
theorem dX12_readsTurn_206 : decode cX12_readsTurn 206 = .ok (.getfield 169, 3) := by decide +kernel
theorem dX12_readsTurn_209 : decode cX12_readsTurn 209 = .ok (.iconst 1, 1) := by decide +kernel
theorem dX12_readsTurn_210 : decode cX12_readsTurn 210 = .ok (.iadd, 1) := by decide +kernel
theorem dX12_readsTurn_211 : decode cX12_readsTurn 211 = .ok (.putfield 169, 3) := by decide +kernel
theorem dX12_readsTurn_214 : decode cX12_readsTurn 214 = .ok (.aload_n 0, 1) := by decide +kernel
theorem dX12_readsTurn_215 : decode cX12_readsTurn 215 = .ok (.aload_n 0, 1) := by decide +kernel
theorem dX12_readsTurn_216 : decode cX12_readsTurn 216 = .ok (.getfield 299, 3) := by decide +kernel
theorem dX12_readsTurn_219 : decode cX12_readsTurn 219 = .ok (.iconst 1, 1) := by decide +kernel
theorem dX12_readsTurn_220 : decode cX12_readsTurn 220 = .ok (.iadd, 1) := by decide +kernel
theorem dX12_readsTurn_221 : decode cX12_readsTurn 221 = .ok (.putfield 299, 3) := by decide +kernel
theorem dX12_readsTurn_224 : decode cX12_readsTurn 224 = .ok (.aload_n 0, 1) := by decide +kernel
theorem dX12_readsTurn_225 : decode cX12_readsTurn 225 = .ok (.aload_n 0, 1) := by decide +kernel
theorem dX12_readsTurn_226 : decode cX12_readsTurn 226 = .ok (.getfield 299, 3) := by decide +kernel
theorem dX12_readsTurn_229 : decode cX12_readsTurn 229 = .ok (.iconst 1, 1) := by decide +kernel
theorem dX12_readsTurn_230 : decode cX12_readsTurn 230 = .ok (.isub, 1) := by decide +kernel
theorem dX12_readsTurn_231 : decode cX12_readsTurn 231 = .ok (.iload_n 2, 1) := by decide +kernel
theorem dX12_readsTurn_232 : decode cX12_readsTurn 232 = .ok (.iload_n 1, 1) := by decide +kernel
theorem dX12_readsTurn_233 : decode cX12_readsTurn 233 = .ok (.invokevirtual 308, 3) := by decide +kernel
theorem dX12_readsTurn_236 : decode cX12_readsTurn 236 = .ok (.ifCond .ne 5, 3) := by decide +kernel
theorem dX12_readsTurn_239 : decode cX12_readsTurn 239 = .ok (.iconst 0, 1) := by decide +kernel
theorem dX12_readsTurn_240 : decode cX12_readsTurn 240 = .ok (.ireturn, 1) := by decide +kernel
theorem dX12_readsTurn_241 : decode cX12_readsTurn 241 = .ok (.aload_n 0, 1) := by decide +kernel
theorem dX12_readsTurn_242 : decode cX12_readsTurn 242 = .ok (.invokevirtual 175, 3) := by decide +kernel
theorem dX12_readsTurn_245 : decode cX12_readsTurn 245 = .ok (.bipush 41, 2) := by decide +kernel
theorem dX12_readsTurn_247 : decode cX12_readsTurn 247 = .ok (.if_icmp .ne 66, 3) := by decide +kernel
theorem dX12_readsTurn_250 : decode cX12_readsTurn 250 = .ok (.aload_n 0, 1) := by decide +kernel
theorem dX12_readsTurn_251 : decode cX12_readsTurn 251 = .ok (.getfield 305, 3) := by decide +kernel
theorem dX12_readsTurn_254 : decode cX12_readsTurn 254 = .ok (.ifCond .le 59, 3) := by decide +kernel
theorem dX12_readsTurn_257 : decode cX12_readsTurn 257 = .ok (.aload_n 0, 1) := by decide +kernel
theorem dX12_readsTurn_258 : decode cX12_readsTurn 258 = .ok (.aload_n 0, 1) := by decide +kernel
theorem dX12_readsTurn_259 : decode cX12_readsTurn 259 = .ok (.getfield 169, 3) := by decide +kernel
theorem dX12_readsTurn_262 : decode cX12_readsTurn 262 = .ok (.iconst 1, 1) := by decide +kernel
theorem dX12_readsTurn_263 : decode cX12_readsTurn 263 = .ok (.iadd, 1) := by decide +kernel
theorem dX12_readsTurn_264 : decode cX12_readsTurn 264 = .ok (.putfield 169, 3) := by decide +kernel
theorem dX12_readsTurn_267 : decode cX12_readsTurn 267 = .ok (.aload_n 0, 1) := by decide +kernel
theorem dX12_readsTurn_268 : decode cX12_readsTurn 268 = .ok (.aload_n 0, 1) := by decide +kernel
theorem dX12_readsTurn_269 : decode cX12_readsTurn 269 = .ok (.getfield 305, 3) := by decide +kernel
theorem dX12_readsTurn_272 : decode cX12_readsTurn 272 = .ok (.iconst 1, 1) := by decide +kernel
theorem dX12_readsTurn_273 : decode cX12_readsTurn 273 = .ok (.isub, 1) := by decide +kernel
theorem dX12_readsTurn_274 : decode cX12_readsTurn 274 = .ok (.putfield 305, 3) := by decide +kernel
theorem dX12_readsTurn_277 : decode cX12_readsTurn 277 = .ok (.aload_n 0, 1) := by decide +kernel
theorem dX12_readsTurn_278 : decode cX12_readsTurn 278 = .ok (.aload_n 0, 1) := by decide +kernel
theorem dX12_readsTurn_279 : decode cX12_readsTurn 279 = .ok (.getfield 98, 3) := by decide +kernel
theorem dX12_readsTurn_282 : decode cX12_readsTurn 282 = .ok (.aload_n 0, 1) := by decide +kernel
theorem dX12_readsTurn_283 : decode cX12_readsTurn 283 = .ok (.getfield 305, 3) := by decide +kernel
theorem dX12_readsTurn_286 : decode cX12_readsTurn 286 = .ok (.iaload, 1) := by decide +kernel
theorem dX12_readsTurn_287 : decode cX12_readsTurn 287 = .ok (.aload_n 0, 1) := by decide +kernel
theorem dX12_readsTurn_288 : decode cX12_readsTurn 288 = .ok (.getfield 101, 3) := by decide +kernel
theorem dX12_readsTurn_291 : decode cX12_readsTurn 291 = .ok (.aload_n 0, 1) := by decide +kernel
theorem dX12_readsTurn_292 : decode cX12_readsTurn 292 = .ok (.getfield 305, 3) := by decide +kernel
theorem dX12_readsTurn_295 : decode cX12_readsTurn 295 = .ok (.iaload, 1) := by decide +kernel
theorem dX12_readsTurn_296 : decode cX12_readsTurn 296 = .ok (.aload_n 0, 1) := by decide +kernel
theorem dX12_readsTurn_297 : decode cX12_readsTurn 297 = .ok (.getfield 95, 3) := by decide +kernel
theorem dX12_readsTurn_300 : decode cX12_readsTurn 300 = .ok (.aload_n 0, 1) := by decide +kernel
theorem dX12_readsTurn_301 : decode cX12_readsTurn 301 = .ok (.getfield 305, 3) := by decide +kernel
theorem dX12_readsTurn_304 : decode cX12_readsTurn 304 = .ok (.iaload, 1) := by decide +kernel
theorem dX12_readsTurn_305 : decode cX12_readsTurn 305 = .ok (.invokevirtual 308, 3) := by decide +kernel
theorem dX12_readsTurn_308 : decode cX12_readsTurn 308 = .ok (.ifCond .ne (-67), 3) := by decide +kernel
theorem dX12_readsTurn_311 : decode cX12_readsTurn 311 = .ok (.iconst 0, 1) := by decide +kernel
theorem dX12_readsTurn_312 : decode cX12_readsTurn 312 = .ok (.ireturn, 1) := by decide +kernel
theorem dX12_readsTurn_313 : decode cX12_readsTurn 313 = .ok (.iconst 1, 1) := by decide +kernel
theorem dX12_readsTurn_314 : decode cX12_readsTurn 314 = .ok (.ireturn, 1) := by decide +kernel
theorem dX12_areTold_0 : decode cX12_areTold 0 = .ok (.iconst 0, 1) := by decide +kernel
theorem dX12_areTold_1 : decode cX12_areTold 1 = .ok (.istore_n 1, 1) := by decide +kernel
theorem dX12_areTold_2 : decode cX12_areTold 2 = .ok (.iload_n 1, 1) := by decide +kernel
theorem dX12_areTold_3 : decode cX12_areTold 3 = .ok (.aload_n 0, 1) := by decide +kernel
theorem dX12_areTold_4 : decode cX12_areTold 4 = .ok (.getfield 299, 3) := by decide +kernel
theorem dX12_areTold_7 : decode cX12_areTold 7 = .ok (.if_icmp .ge 45, 3) := by decide +kernel
theorem dX12_areTold_10 : decode cX12_areTold 10 = .ok (.aload_n 0, 1) := by decide +kernel
theorem dX12_areTold_11 : decode cX12_areTold 11 = .ok (.getfield 89, 3) := by decide +kernel
theorem dX12_areTold_14 : decode cX12_areTold 14 = .ok (.iload_n 1, 1) := by decide +kernel
theorem dX12_areTold_15 : decode cX12_areTold 15 = .ok (.iaload, 1) := by decide +kernel
theorem dX12_areTold_16 : decode cX12_areTold 16 = .ok (.iconst (-1), 1) := by decide +kernel
theorem dX12_areTold_17 : decode cX12_areTold 17 = .ok (.if_icmp .eq 29, 3) := by decide +kernel
theorem dX12_areTold_20 : decode cX12_areTold 20 = .ok (.aload_n 0, 1) := by decide +kernel
theorem dX12_areTold_21 : decode cX12_areTold 21 = .ok (.aload_n 0, 1) := by decide +kernel
theorem dX12_areTold_22 : decode cX12_areTold 22 = .ok (.getfield 89, 3) := by decide +kernel
theorem dX12_areTold_25 : decode cX12_areTold 25 = .ok (.iload_n 1, 1) := by decide +kernel
theorem dX12_areTold_26 : decode cX12_areTold 26 = .ok (.iaload, 1) := by decide +kernel
theorem dX12_areTold_27 : decode cX12_areTold 27 = .ok (.invokevirtual 159, 3) := by decide +kernel
theorem dX12_areTold_30 : decode cX12_areTold 30 = .ok (.ifCond .ne 16, 3) := by decide +kernel
theorem dX12_areTold_33 : decode cX12_areTold 33 = .ok (.aload_n 0, 1) := by decide +kernel
theorem dX12_areTold_34 : decode cX12_areTold 34 = .ok (.bipush 7, 2) := by decide +kernel
theorem dX12_areTold_36 : decode cX12_areTold 36 = .ok (.aload_n 0, 1) := by decide +kernel
theorem dX12_areTold_37 : decode cX12_areTold 37 = .ok (.getfield 92, 3) := by decide +kernel
theorem dX12_areTold_40 : decode cX12_areTold 40 = .ok (.iload_n 1, 1) := by decide +kernel
theorem dX12_areTold_41 : decode cX12_areTold 41 = .ok (.iaload, 1) := by decide +kernel
theorem dX12_areTold_42 : decode cX12_areTold 42 = .ok (.invokevirtual 182, 3) := by decide +kernel
theorem dX12_areTold_45 : decode cX12_areTold 45 = .ok (.ireturn, 1) := by decide +kernel
theorem dX12_areTold_46 : decode cX12_areTold 46 = .ok (.iinc 1 1, 3) := by decide +kernel
theorem dX12_areTold_49 : decode cX12_areTold 49 = .ok (.goto (-47), 3) := by decide +kernel
theorem dX12_areTold_52 : decode cX12_areTold 52 = .ok (.iconst 1, 1) := by decide +kernel
theorem dX12_areTold_53 : decode cX12_areTold 53 = .ok (.ireturn, 1) := by decide +kernel
theorem dX12_rota_0 : decode cX12_rota 0 = .ok (.iload_n 1, 1) := by decide +kernel
theorem dX12_rota_1 : decode cX12_rota 1 = .ok (.iconst 1, 1) := by decide +kernel
theorem dX12_rota_2 : decode cX12_rota 2 = .ok (.bipush 60, 2) := by decide +kernel
theorem dX12_rota_4 : decode cX12_rota 4 = .ok (.invokestatic 134, 3) := by decide +kernel
theorem dX12_rota_7 : decode cX12_rota 7 = .ok (.ifCond .eq 11, 3) := by decide +kernel
theorem dX12_rota_10 : decode cX12_rota 10 = .ok (.iload_n 1, 1) := by decide +kernel
theorem dX12_rota_11 : decode cX12_rota 11 = .ok (.aload_n 0, 1) := by decide +kernel
theorem dX12_rota_12 : decode cX12_rota 12 = .ok (.getfield 162, 3) := by decide +kernel
theorem dX12_rota_15 : decode cX12_rota 15 = .ok (.if_icmp .le 5, 3) := by decide +kernel
theorem dX12_rota_18 : decode cX12_rota 18 = .ok (.iconst (-1), 1) := by decide +kernel
theorem dX12_rota_19 : decode cX12_rota 19 = .ok (.ireturn, 1) := by decide +kernel
theorem dX12_rota_20 : decode cX12_rota 20 = .ok (.aload_n 0, 1) := by decide +kernel
theorem dX12_rota_21 : decode cX12_rota 21 = .ok (.iload_n 1, 1) := by decide +kernel
theorem dX12_rota_22 : decode cX12_rota 22 = .ok (.invokevirtual 253, 3) := by decide +kernel
theorem dX12_rota_25 : decode cX12_rota 25 = .ok (.aload_n 0, 1) := by decide +kernel
theorem dX12_rota_26 : decode cX12_rota 26 = .ok (.iconst 0, 1) := by decide +kernel
theorem dX12_rota_27 : decode cX12_rota 27 = .ok (.putfield 299, 3) := by decide +kernel
theorem dX12_rota_30 : decode cX12_rota 30 = .ok (.aload_n 0, 1) := by decide +kernel
theorem dX12_rota_31 : decode cX12_rota 31 = .ok (.iconst 0, 1) := by decide +kernel
theorem dX12_rota_32 : decode cX12_rota 32 = .ok (.putfield 305, 3) := by decide +kernel
theorem dX12_rota_35 : decode cX12_rota 35 = .ok (.aload_n 0, 1) := by decide +kernel
theorem dX12_rota_36 : decode cX12_rota 36 = .ok (.invokevirtual 311, 3) := by decide +kernel
theorem dX12_rota_39 : decode cX12_rota 39 = .ok (.istore_n 2, 1) := by decide +kernel
theorem dX12_rota_40 : decode cX12_rota 40 = .ok (.iload_n 2, 1) := by decide +kernel
theorem dX12_rota_41 : decode cX12_rota 41 = .ok (.ifCond .eq 29, 3) := by decide +kernel
theorem dX12_rota_44 : decode cX12_rota 44 = .ok (.aload_n 0, 1) := by decide +kernel
theorem dX12_rota_45 : decode cX12_rota 45 = .ok (.getfield 169, 3) := by decide +kernel
theorem dX12_rota_48 : decode cX12_rota 48 = .ok (.aload_n 0, 1) := by decide +kernel
theorem dX12_rota_49 : decode cX12_rota 49 = .ok (.getfield 172, 3) := by decide +kernel
theorem dX12_rota_52 : decode cX12_rota 52 = .ok (.if_icmp .lt 10, 3) := by decide +kernel
theorem dX12_rota_55 : decode cX12_rota 55 = .ok (.aload_n 0, 1) := by decide +kernel
theorem dX12_rota_56 : decode cX12_rota 56 = .ok (.getfield 305, 3) := by decide +kernel
theorem dX12_rota_59 : decode cX12_rota 59 = .ok (.ifCond .le 11, 3) := by decide +kernel
theorem dX12_rota_62 : decode cX12_rota 62 = .ok (.aload_n 0, 1) := by decide +kernel
theorem dX12_rota_63 : decode cX12_rota 63 = .ok (.invokevirtual 311, 3) := by decide +kernel
theorem dX12_rota_66 : decode cX12_rota 66 = .ok (.istore_n 2, 1) := by decide +kernel
theorem dX12_rota_67 : decode cX12_rota 67 = .ok (.goto (-27), 3) := by decide +kernel
theorem dX12_rota_70 : decode cX12_rota 70 = .ok (.iload_n 2, 1) := by decide +kernel
theorem dX12_rota_71 : decode cX12_rota 71 = .ok (.ifCond .eq 14, 3) := by decide +kernel
theorem dX12_rota_74 : decode cX12_rota 74 = .ok (.aload_n 0, 1) := by decide +kernel
theorem dX12_rota_75 : decode cX12_rota 75 = .ok (.invokevirtual 314, 3) := by decide +kernel
theorem dX12_rota_78 : decode cX12_rota 78 = .ok (.ifCond .eq 7, 3) := by decide +kernel
theorem dX12_rota_81 : decode cX12_rota 81 = .ok (.iconst 1, 1) := by decide +kernel
theorem dX12_rota_82 : decode cX12_rota 82 = .ok (.goto 4, 3) := by decide +kernel
theorem dX12_rota_85 : decode cX12_rota 85 = .ok (.iconst 0, 1) := by decide +kernel
theorem dX12_rota_86 : decode cX12_rota 86 = .ok (.istore_n 2, 1) := by decide +kernel
theorem dX12_rota_87 : decode cX12_rota 87 = .ok (.aload_n 0, 1) := by decide +kernel
theorem dX12_rota_88 : decode cX12_rota 88 = .ok (.iconst 0, 1) := by decide +kernel
theorem dX12_rota_89 : decode cX12_rota 89 = .ok (.putfield 162, 3) := by decide +kernel
theorem dX12_rota_92 : decode cX12_rota 92 = .ok (.iload_n 2, 1) := by decide +kernel
theorem dX12_rota_93 : decode cX12_rota 93 = .ok (.ifCond .ne 8, 3) := by decide +kernel
theorem dX12_rota_96 : decode cX12_rota 96 = .ok (.aload_n 0, 1) := by decide +kernel
theorem dX12_rota_97 : decode cX12_rota 97 = .ok (.getfield 179, 3) := by decide +kernel
theorem dX12_rota_100 : decode cX12_rota 100 = .ok (.ireturn, 1) := by decide +kernel
theorem dX12_rota_101 : decode cX12_rota 101 = .ok (.iconst 0, 1) := by decide +kernel
theorem dX12_rota_102 : decode cX12_rota 102 = .ok (.istore_n 3, 1) := by decide +kernel
theorem dX12_rota_103 : decode cX12_rota 103 = .ok (.iload_n 3, 1) := by decide +kernel
theorem dX12_rota_104 : decode cX12_rota 104 = .ok (.bipush 12, 2) := by decide +kernel
theorem dX12_rota_106 : decode cX12_rota 106 = .ok (.if_icmp .ge 33, 3) := by decide +kernel
theorem dX12_rota_109 : decode cX12_rota 109 = .ok (.aload_n 0, 1) := by decide +kernel
theorem dX12_rota_110 : decode cX12_rota 110 = .ok (.getfield 19, 3) := by decide +kernel
theorem dX12_rota_113 : decode cX12_rota 113 = .ok (.iload_n 3, 1) := by decide +kernel
theorem dX12_rota_114 : decode cX12_rota 114 = .ok (.iload_n 3, 1) := by decide +kernel
theorem dX12_rota_115 : decode cX12_rota 115 = .ok (.aload_n 0, 1) := by decide +kernel
theorem dX12_rota_116 : decode cX12_rota 116 = .ok (.getfield 299, 3) := by decide +kernel
theorem dX12_rota_119 : decode cX12_rota 119 = .ok (.if_icmp .ge 12, 3) := by decide +kernel
theorem dX12_rota_122 : decode cX12_rota 122 = .ok (.aload_n 0, 1) := by decide +kernel
theorem dX12_rota_123 : decode cX12_rota 123 = .ok (.getfield 89, 3) := by decide +kernel
theorem dX12_rota_126 : decode cX12_rota 126 = .ok (.iload_n 3, 1) := by decide +kernel
theorem dX12_rota_127 : decode cX12_rota 127 = .ok (.iaload, 1) := by decide +kernel
theorem dX12_rota_128 : decode cX12_rota 128 = .ok (.goto 4, 3) := by decide +kernel
theorem dX12_rota_131 : decode cX12_rota 131 = .ok (.iconst (-1), 1) := by decide +kernel
theorem dX12_rota_132 : decode cX12_rota 132 = .ok (.iastore, 1) := by decide +kernel
theorem dX12_rota_133 : decode cX12_rota 133 = .ok (.iinc 3 1, 3) := by decide +kernel
theorem dX12_rota_136 : decode cX12_rota 136 = .ok (.goto (-33), 3) := by decide +kernel
theorem dX12_rota_139 : decode cX12_rota 139 = .ok (.aload_n 0, 1) := by decide +kernel
theorem dX12_rota_140 : decode cX12_rota 140 = .ok (.getfield 299, 3) := by decide +kernel
theorem dX12_rota_143 : decode cX12_rota 143 = .ok (.ireturn, 1) := by decide +kernel
theorem dX12_feels_0 : decode cX12_feels 0 = .ok (.aload_n 0, 1) := by decide +kernel
theorem dX12_feels_1 : decode cX12_feels 1 = .ok (.getfield 74, 3) := by decide +kernel
theorem dX12_feels_4 : decode cX12_feels 4 = .ok (.iconst 0, 1) := by decide +kernel
theorem dX12_feels_5 : decode cX12_feels 5 = .ok (.iload_n 1, 1) := by decide +kernel
theorem dX12_feels_6 : decode cX12_feels 6 = .ok (.iastore, 1) := by decide +kernel
theorem dX12_feels_7 : decode cX12_feels 7 = .ok (.aload_n 0, 1) := by decide +kernel
theorem dX12_feels_8 : decode cX12_feels 8 = .ok (.getfield 74, 3) := by decide +kernel
theorem dX12_feels_11 : decode cX12_feels 11 = .ok (.iconst 1, 1) := by decide +kernel
theorem dX12_feels_12 : decode cX12_feels 12 = .ok (.aload_n 0, 1) := by decide +kernel
theorem dX12_feels_13 : decode cX12_feels 13 = .ok (.getfield 7, 3) := by decide +kernel
theorem dX12_feels_16 : decode cX12_feels 16 = .ok (.bipush 16, 2) := by decide +kernel
theorem dX12_feels_18 : decode cX12_feels 18 = .ok (.iaload, 1) := by decide +kernel
