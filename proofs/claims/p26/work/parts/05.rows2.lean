theorem dL_isBoardSound_353 : decode cL_isBoardSound 353 = .ok (.iconst 1, 1) := by decide +kernel
theorem dL_isBoardSound_354 : decode cL_isBoardSound 354 = .ok (.goto 4, 3) := by decide +kernel
theorem dL_isBoardSound_357 : decode cL_isBoardSound 357 = .ok (.iconst 0, 1) := by decide +kernel
theorem dL_isBoardSound_358 : decode cL_isBoardSound 358 = .ok (.aload_n 0, 1) := by decide +kernel
theorem dL_isBoardSound_359 : decode cL_isBoardSound 359 = .ok (.iload 5, 2) := by decide +kernel
theorem dL_isBoardSound_361 : decode cL_isBoardSound 361 = .ok (.iconst 1, 1) := by decide +kernel
theorem dL_isBoardSound_362 : decode cL_isBoardSound 362 = .ok (.invokevirtual 32, 3) := by decide +kernel
theorem dL_isBoardSound_365 : decode cL_isBoardSound 365 = .ok (.ifCond .ne 7, 3) := by decide +kernel
theorem dL_isBoardSound_368 : decode cL_isBoardSound 368 = .ok (.iconst 1, 1) := by decide +kernel
theorem dL_isBoardSound_369 : decode cL_isBoardSound 369 = .ok (.goto 4, 3) := by decide +kernel
theorem dL_isBoardSound_372 : decode cL_isBoardSound 372 = .ok (.iconst 0, 1) := by decide +kernel
theorem dL_isBoardSound_373 : decode cL_isBoardSound 373 = .ok (.if_icmp .eq 5, 3) := by decide +kernel
theorem dL_isBoardSound_376 : decode cL_isBoardSound 376 = .ok (.iconst 0, 1) := by decide +kernel
theorem dL_isBoardSound_377 : decode cL_isBoardSound 377 = .ok (.ireturn, 1) := by decide +kernel
theorem dL_isBoardSound_378 : decode cL_isBoardSound 378 = .ok (.iinc 5 1, 3) := by decide +kernel
theorem dL_isBoardSound_381 : decode cL_isBoardSound 381 = .ok (.goto (-255), 3) := by decide +kernel
theorem dL_isBoardSound_384 : decode cL_isBoardSound 384 = .ok (.iconst 1, 1) := by decide +kernel
theorem dL_isBoardSound_385 : decode cL_isBoardSound 385 = .ok (.ireturn, 1) := by decide +kernel
theorem dL_isSound_0 : decode cL_isSound 0 = .ok (.iconst 0, 1) := by decide +kernel
theorem dL_isSound_1 : decode cL_isSound 1 = .ok (.istore_n 1, 1) := by decide +kernel
theorem dL_isSound_2 : decode cL_isSound 2 = .ok (.iconst 0, 1) := by decide +kernel
theorem dL_isSound_3 : decode cL_isSound 3 = .ok (.istore_n 2, 1) := by decide +kernel
theorem dL_isSound_4 : decode cL_isSound 4 = .ok (.iconst 0, 1) := by decide +kernel
theorem dL_isSound_5 : decode cL_isSound 5 = .ok (.istore_n 3, 1) := by decide +kernel
theorem dL_isSound_6 : decode cL_isSound 6 = .ok (.iconst 0, 1) := by decide +kernel
theorem dL_isSound_7 : decode cL_isSound 7 = .ok (.istore 4, 2) := by decide +kernel
theorem dL_isSound_9 : decode cL_isSound 9 = .ok (.iload 4, 2) := by decide +kernel
theorem dL_isSound_11 : decode cL_isSound 11 = .ok (.bipush 6, 2) := by decide +kernel
theorem dL_isSound_13 : decode cL_isSound 13 = .ok (.if_icmp .ge 202, 3) := by decide +kernel
theorem dL_isSound_16 : decode cL_isSound 16 = .ok (.iconst 0, 1) := by decide +kernel
theorem dL_isSound_17 : decode cL_isSound 17 = .ok (.istore 5, 2) := by decide +kernel
theorem dL_isSound_19 : decode cL_isSound 19 = .ok (.iconst 0, 1) := by decide +kernel
theorem dL_isSound_20 : decode cL_isSound 20 = .ok (.istore 6, 2) := by decide +kernel
theorem dL_isSound_22 : decode cL_isSound 22 = .ok (.iconst 0, 1) := by decide +kernel
theorem dL_isSound_23 : decode cL_isSound 23 = .ok (.istore 7, 2) := by decide +kernel
theorem dL_isSound_25 : decode cL_isSound 25 = .ok (.iload 7, 2) := by decide +kernel
theorem dL_isSound_27 : decode cL_isSound 27 = .ok (.aload_n 0, 1) := by decide +kernel
theorem dL_isSound_28 : decode cL_isSound 28 = .ok (.iconst 1, 1) := by decide +kernel
theorem dL_isSound_29 : decode cL_isSound 29 = .ok (.invokevirtual 12, 3) := by decide +kernel
theorem dL_isSound_32 : decode cL_isSound 32 = .ok (.if_icmp .ge 94, 3) := by decide +kernel
theorem dL_isSound_35 : decode cL_isSound 35 = .ok (.aload_n 0, 1) := by decide +kernel
theorem dL_isSound_36 : decode cL_isSound 36 = .ok (.iload 7, 2) := by decide +kernel
theorem dL_isSound_38 : decode cL_isSound 38 = .ok (.iconst 3, 1) := by decide +kernel
theorem dL_isSound_39 : decode cL_isSound 39 = .ok (.invokevirtual 25, 3) := by decide +kernel
theorem dL_isSound_42 : decode cL_isSound 42 = .ok (.aload_n 0, 1) := by decide +kernel
theorem dL_isSound_43 : decode cL_isSound 43 = .ok (.iload 4, 2) := by decide +kernel
theorem dL_isSound_45 : decode cL_isSound 45 = .ok (.iconst 4, 1) := by decide +kernel
theorem dL_isSound_46 : decode cL_isSound 46 = .ok (.invokevirtual 18, 3) := by decide +kernel
theorem dL_isSound_49 : decode cL_isSound 49 = .ok (.if_icmp .lt 32, 3) := by decide +kernel
theorem dL_isSound_52 : decode cL_isSound 52 = .ok (.aload_n 0, 1) := by decide +kernel
theorem dL_isSound_53 : decode cL_isSound 53 = .ok (.iload 7, 2) := by decide +kernel
theorem dL_isSound_55 : decode cL_isSound 55 = .ok (.iconst 3, 1) := by decide +kernel
theorem dL_isSound_56 : decode cL_isSound 56 = .ok (.invokevirtual 25, 3) := by decide +kernel
theorem dL_isSound_59 : decode cL_isSound 59 = .ok (.aload_n 0, 1) := by decide +kernel
theorem dL_isSound_60 : decode cL_isSound 60 = .ok (.iload 4, 2) := by decide +kernel
theorem dL_isSound_62 : decode cL_isSound 62 = .ok (.iconst 4, 1) := by decide +kernel
theorem dL_isSound_63 : decode cL_isSound 63 = .ok (.invokevirtual 18, 3) := by decide +kernel
theorem dL_isSound_66 : decode cL_isSound 66 = .ok (.aload_n 0, 1) := by decide +kernel
theorem dL_isSound_67 : decode cL_isSound 67 = .ok (.iload 4, 2) := by decide +kernel
theorem dL_isSound_69 : decode cL_isSound 69 = .ok (.iconst 0, 1) := by decide +kernel
theorem dL_isSound_70 : decode cL_isSound 70 = .ok (.invokevirtual 18, 3) := by decide +kernel
theorem dL_isSound_73 : decode cL_isSound 73 = .ok (.iadd, 1) := by decide +kernel
theorem dL_isSound_74 : decode cL_isSound 74 = .ok (.if_icmp .ge 7, 3) := by decide +kernel
theorem dL_isSound_77 : decode cL_isSound 77 = .ok (.iconst 1, 1) := by decide +kernel
theorem dL_isSound_78 : decode cL_isSound 78 = .ok (.goto 4, 3) := by decide +kernel
theorem dL_isSound_81 : decode cL_isSound 81 = .ok (.iconst 0, 1) := by decide +kernel
theorem dL_isSound_82 : decode cL_isSound 82 = .ok (.istore 8, 2) := by decide +kernel
theorem dL_isSound_84 : decode cL_isSound 84 = .ok (.iload 5, 2) := by decide +kernel
theorem dL_isSound_86 : decode cL_isSound 86 = .ok (.iload 8, 2) := by decide +kernel
theorem dL_isSound_88 : decode cL_isSound 88 = .ok (.ifCond .eq 7, 3) := by decide +kernel
theorem dL_isSound_91 : decode cL_isSound 91 = .ok (.iconst 1, 1) := by decide +kernel
theorem dL_isSound_92 : decode cL_isSound 92 = .ok (.goto 4, 3) := by decide +kernel
theorem dL_isSound_95 : decode cL_isSound 95 = .ok (.iconst 0, 1) := by decide +kernel
theorem dL_isSound_96 : decode cL_isSound 96 = .ok (.iadd, 1) := by decide +kernel
theorem dL_isSound_97 : decode cL_isSound 97 = .ok (.istore 5, 2) := by decide +kernel
theorem dL_isSound_99 : decode cL_isSound 99 = .ok (.iload 6, 2) := by decide +kernel
theorem dL_isSound_101 : decode cL_isSound 101 = .ok (.iload 8, 2) := by decide +kernel
theorem dL_isSound_103 : decode cL_isSound 103 = .ok (.ifCond .eq 13, 3) := by decide +kernel
theorem dL_isSound_106 : decode cL_isSound 106 = .ok (.aload_n 0, 1) := by decide +kernel
theorem dL_isSound_107 : decode cL_isSound 107 = .ok (.iload 7, 2) := by decide +kernel
theorem dL_isSound_109 : decode cL_isSound 109 = .ok (.iconst 1, 1) := by decide +kernel
theorem dL_isSound_110 : decode cL_isSound 110 = .ok (.invokevirtual 25, 3) := by decide +kernel
theorem dL_isSound_113 : decode cL_isSound 113 = .ok (.goto 4, 3) := by decide +kernel
theorem dL_isSound_116 : decode cL_isSound 116 = .ok (.iconst 0, 1) := by decide +kernel
theorem dL_isSound_117 : decode cL_isSound 117 = .ok (.iadd, 1) := by decide +kernel
theorem dL_isSound_118 : decode cL_isSound 118 = .ok (.istore 6, 2) := by decide +kernel
theorem dL_isSound_120 : decode cL_isSound 120 = .ok (.iinc 7 1, 3) := by decide +kernel
theorem dL_isSound_123 : decode cL_isSound 123 = .ok (.goto (-98), 3) := by decide +kernel
theorem dL_isSound_126 : decode cL_isSound 126 = .ok (.aload_n 0, 1) := by decide +kernel
theorem dL_isSound_127 : decode cL_isSound 127 = .ok (.iload 4, 2) := by decide +kernel
theorem dL_isSound_129 : decode cL_isSound 129 = .ok (.iconst 5, 1) := by decide +kernel
theorem dL_isSound_130 : decode cL_isSound 130 = .ok (.invokevirtual 18, 3) := by decide +kernel
theorem dL_isSound_133 : decode cL_isSound 133 = .ok (.iload 5, 2) := by decide +kernel
theorem dL_isSound_135 : decode cL_isSound 135 = .ok (.if_icmp .ne 52, 3) := by decide +kernel
theorem dL_isSound_138 : decode cL_isSound 138 = .ok (.aload_n 0, 1) := by decide +kernel
theorem dL_isSound_139 : decode cL_isSound 139 = .ok (.iload 4, 2) := by decide +kernel
theorem dL_isSound_141 : decode cL_isSound 141 = .ok (.bipush 6, 2) := by decide +kernel
theorem dL_isSound_143 : decode cL_isSound 143 = .ok (.invokevirtual 18, 3) := by decide +kernel
theorem dL_isSound_146 : decode cL_isSound 146 = .ok (.iload 6, 2) := by decide +kernel
theorem dL_isSound_148 : decode cL_isSound 148 = .ok (.if_icmp .ne 39, 3) := by decide +kernel
theorem dL_isSound_151 : decode cL_isSound 151 = .ok (.aload_n 0, 1) := by decide +kernel
theorem dL_isSound_152 : decode cL_isSound 152 = .ok (.iload 4, 2) := by decide +kernel
theorem dL_isSound_154 : decode cL_isSound 154 = .ok (.iconst 4, 1) := by decide +kernel
theorem dL_isSound_155 : decode cL_isSound 155 = .ok (.invokevirtual 18, 3) := by decide +kernel
theorem dL_isSound_158 : decode cL_isSound 158 = .ok (.iload_n 3, 1) := by decide +kernel
theorem dL_isSound_159 : decode cL_isSound 159 = .ok (.if_icmp .ne 28, 3) := by decide +kernel
theorem dL_isSound_162 : decode cL_isSound 162 = .ok (.aload_n 0, 1) := by decide +kernel
theorem dL_isSound_163 : decode cL_isSound 163 = .ok (.iload 4, 2) := by decide +kernel
theorem dL_isSound_165 : decode cL_isSound 165 = .ok (.iconst 3, 1) := by decide +kernel
theorem dL_isSound_166 : decode cL_isSound 166 = .ok (.invokevirtual 18, 3) := by decide +kernel
theorem dL_isSound_169 : decode cL_isSound 169 = .ok (.bipush 20, 2) := by decide +kernel
theorem dL_isSound_171 : decode cL_isSound 171 = .ok (.if_icmp .lt 16, 3) := by decide +kernel
theorem dL_isSound_174 : decode cL_isSound 174 = .ok (.aload_n 0, 1) := by decide +kernel
theorem dL_isSound_175 : decode cL_isSound 175 = .ok (.iload 4, 2) := by decide +kernel
theorem dL_isSound_177 : decode cL_isSound 177 = .ok (.iconst 3, 1) := by decide +kernel
theorem dL_isSound_178 : decode cL_isSound 178 = .ok (.invokevirtual 18, 3) := by decide +kernel
theorem dL_isSound_181 : decode cL_isSound 181 = .ok (.sipush 300, 3) := by decide +kernel
theorem dL_isSound_184 : decode cL_isSound 184 = .ok (.if_icmp .le 5, 3) := by decide +kernel
theorem dL_isSound_187 : decode cL_isSound 187 = .ok (.iconst 0, 1) := by decide +kernel
theorem dL_isSound_188 : decode cL_isSound 188 = .ok (.ireturn, 1) := by decide +kernel
theorem dL_isSound_189 : decode cL_isSound 189 = .ok (.iload_n 1, 1) := by decide +kernel
theorem dL_isSound_190 : decode cL_isSound 190 = .ok (.iload 5, 2) := by decide +kernel
theorem dL_isSound_192 : decode cL_isSound 192 = .ok (.iadd, 1) := by decide +kernel
theorem dL_isSound_193 : decode cL_isSound 193 = .ok (.istore_n 1, 1) := by decide +kernel
theorem dL_isSound_194 : decode cL_isSound 194 = .ok (.iload_n 2, 1) := by decide +kernel
theorem dL_isSound_195 : decode cL_isSound 195 = .ok (.iload 6, 2) := by decide +kernel
theorem dL_isSound_197 : decode cL_isSound 197 = .ok (.iadd, 1) := by decide +kernel
theorem dL_isSound_198 : decode cL_isSound 198 = .ok (.istore_n 2, 1) := by decide +kernel
theorem dL_isSound_199 : decode cL_isSound 199 = .ok (.iload_n 3, 1) := by decide +kernel
theorem dL_isSound_200 : decode cL_isSound 200 = .ok (.aload_n 0, 1) := by decide +kernel
theorem dL_isSound_201 : decode cL_isSound 201 = .ok (.iload 4, 2) := by decide +kernel
theorem dL_isSound_203 : decode cL_isSound 203 = .ok (.iconst 0, 1) := by decide +kernel
theorem dL_isSound_204 : decode cL_isSound 204 = .ok (.invokevirtual 18, 3) := by decide +kernel
theorem dL_isSound_207 : decode cL_isSound 207 = .ok (.iadd, 1) := by decide +kernel
theorem dL_isSound_208 : decode cL_isSound 208 = .ok (.istore_n 3, 1) := by decide +kernel
theorem dL_isSound_209 : decode cL_isSound 209 = .ok (.iinc 4 1, 3) := by decide +kernel
theorem dL_isSound_212 : decode cL_isSound 212 = .ok (.goto (-203), 3) := by decide +kernel
theorem dL_isSound_215 : decode cL_isSound 215 = .ok (.iconst 0, 1) := by decide +kernel
theorem dL_isSound_216 : decode cL_isSound 216 = .ok (.istore 4, 2) := by decide +kernel
theorem dL_isSound_218 : decode cL_isSound 218 = .ok (.iconst 0, 1) := by decide +kernel
theorem dL_isSound_219 : decode cL_isSound 219 = .ok (.istore 5, 2) := by decide +kernel
theorem dL_isSound_221 : decode cL_isSound 221 = .ok (.iload 5, 2) := by decide +kernel
theorem dL_isSound_223 : decode cL_isSound 223 = .ok (.aload_n 0, 1) := by decide +kernel
theorem dL_isSound_224 : decode cL_isSound 224 = .ok (.iconst 1, 1) := by decide +kernel
theorem dL_isSound_225 : decode cL_isSound 225 = .ok (.invokevirtual 12, 3) := by decide +kernel
theorem dL_isSound_228 : decode cL_isSound 228 = .ok (.if_icmp .ge 52, 3) := by decide +kernel
theorem dL_isSound_231 : decode cL_isSound 231 = .ok (.aload_n 0, 1) := by decide +kernel
theorem dL_isSound_232 : decode cL_isSound 232 = .ok (.iload 5, 2) := by decide +kernel
theorem dL_isSound_234 : decode cL_isSound 234 = .ok (.invokestatic 35, 3) := by decide +kernel
theorem dL_isSound_237 : decode cL_isSound 237 = .ok (.ifCond .ne 5, 3) := by decide +kernel
theorem dL_isSound_240 : decode cL_isSound 240 = .ok (.iconst 0, 1) := by decide +kernel
theorem dL_isSound_241 : decode cL_isSound 241 = .ok (.ireturn, 1) := by decide +kernel
theorem dL_isSound_242 : decode cL_isSound 242 = .ok (.iload 4, 2) := by decide +kernel
theorem dL_isSound_244 : decode cL_isSound 244 = .ok (.aload_n 0, 1) := by decide +kernel
theorem dL_isSound_245 : decode cL_isSound 245 = .ok (.iload 5, 2) := by decide +kernel
theorem dL_isSound_247 : decode cL_isSound 247 = .ok (.iconst 2, 1) := by decide +kernel
theorem dL_isSound_248 : decode cL_isSound 248 = .ok (.invokevirtual 25, 3) := by decide +kernel
theorem dL_isSound_251 : decode cL_isSound 251 = .ok (.iconst 1, 1) := by decide +kernel
theorem dL_isSound_252 : decode cL_isSound 252 = .ok (.if_icmp .ne 18, 3) := by decide +kernel
theorem dL_isSound_255 : decode cL_isSound 255 = .ok (.aload_n 0, 1) := by decide +kernel
theorem dL_isSound_256 : decode cL_isSound 256 = .ok (.iload 5, 2) := by decide +kernel
theorem dL_isSound_258 : decode cL_isSound 258 = .ok (.bipush 8, 2) := by decide +kernel
theorem dL_isSound_260 : decode cL_isSound 260 = .ok (.invokevirtual 25, 3) := by decide +kernel
theorem dL_isSound_263 : decode cL_isSound 263 = .ok (.ifCond .ne 7, 3) := by decide +kernel
theorem dL_isSound_266 : decode cL_isSound 266 = .ok (.iconst 1, 1) := by decide +kernel
theorem dL_isSound_267 : decode cL_isSound 267 = .ok (.goto 4, 3) := by decide +kernel
theorem dL_isSound_270 : decode cL_isSound 270 = .ok (.iconst 0, 1) := by decide +kernel
theorem dL_isSound_271 : decode cL_isSound 271 = .ok (.iadd, 1) := by decide +kernel
theorem dL_isSound_272 : decode cL_isSound 272 = .ok (.istore 4, 2) := by decide +kernel
theorem dL_isSound_274 : decode cL_isSound 274 = .ok (.iinc 5 1, 3) := by decide +kernel
theorem dL_isSound_277 : decode cL_isSound 277 = .ok (.goto (-56), 3) := by decide +kernel
theorem dL_isSound_280 : decode cL_isSound 280 = .ok (.iload_n 3, 1) := by decide +kernel
theorem dL_isSound_281 : decode cL_isSound 281 = .ok (.aload_n 0, 1) := by decide +kernel
theorem dL_isSound_282 : decode cL_isSound 282 = .ok (.bipush 6, 2) := by decide +kernel
theorem dL_isSound_284 : decode cL_isSound 284 = .ok (.invokevirtual 12, 3) := by decide +kernel
theorem dL_isSound_287 : decode cL_isSound 287 = .ok (.if_icmp .ne 75, 3) := by decide +kernel
theorem dL_isSound_290 : decode cL_isSound 290 = .ok (.iload_n 1, 1) := by decide +kernel
theorem dL_isSound_291 : decode cL_isSound 291 = .ok (.aload_n 0, 1) := by decide +kernel
theorem dL_isSound_292 : decode cL_isSound 292 = .ok (.iconst 2, 1) := by decide +kernel
theorem dL_isSound_293 : decode cL_isSound 293 = .ok (.invokevirtual 12, 3) := by decide +kernel
theorem dL_isSound_296 : decode cL_isSound 296 = .ok (.if_icmp .ne 66, 3) := by decide +kernel
theorem dL_isSound_299 : decode cL_isSound 299 = .ok (.iload_n 2, 1) := by decide +kernel
theorem dL_isSound_300 : decode cL_isSound 300 = .ok (.iload_n 1, 1) := by decide +kernel
theorem dL_isSound_301 : decode cL_isSound 301 = .ok (.if_icmp .lt 61, 3) := by decide +kernel
theorem dL_isSound_304 : decode cL_isSound 304 = .ok (.aload_n 0, 1) := by decide +kernel
theorem dL_isSound_305 : decode cL_isSound 305 = .ok (.iconst 2, 1) := by decide +kernel
theorem dL_isSound_306 : decode cL_isSound 306 = .ok (.invokevirtual 12, 3) := by decide +kernel
theorem dL_isSound_309 : decode cL_isSound 309 = .ok (.aload_n 0, 1) := by decide +kernel
theorem dL_isSound_310 : decode cL_isSound 310 = .ok (.iconst 3, 1) := by decide +kernel
theorem dL_isSound_311 : decode cL_isSound 311 = .ok (.invokevirtual 12, 3) := by decide +kernel
theorem dL_isSound_314 : decode cL_isSound 314 = .ok (.iadd, 1) := by decide +kernel
theorem dL_isSound_315 : decode cL_isSound 315 = .ok (.aload_n 0, 1) := by decide +kernel
theorem dL_isSound_316 : decode cL_isSound 316 = .ok (.iconst 5, 1) := by decide +kernel
theorem dL_isSound_317 : decode cL_isSound 317 = .ok (.invokevirtual 12, 3) := by decide +kernel
theorem dL_isSound_320 : decode cL_isSound 320 = .ok (.iadd, 1) := by decide +kernel
theorem dL_isSound_321 : decode cL_isSound 321 = .ok (.aload_n 0, 1) := by decide +kernel
theorem dL_isSound_322 : decode cL_isSound 322 = .ok (.iconst 1, 1) := by decide +kernel
theorem dL_isSound_323 : decode cL_isSound 323 = .ok (.invokevirtual 12, 3) := by decide +kernel
theorem dL_isSound_326 : decode cL_isSound 326 = .ok (.if_icmp .ne 36, 3) := by decide +kernel
theorem dL_isSound_329 : decode cL_isSound 329 = .ok (.aload_n 0, 1) := by decide +kernel
theorem dL_isSound_330 : decode cL_isSound 330 = .ok (.iconst 4, 1) := by decide +kernel
theorem dL_isSound_331 : decode cL_isSound 331 = .ok (.invokevirtual 12, 3) := by decide +kernel
theorem dL_isSound_334 : decode cL_isSound 334 = .ok (.iload 4, 2) := by decide +kernel
theorem dL_isSound_336 : decode cL_isSound 336 = .ok (.if_icmp .ne 26, 3) := by decide +kernel
theorem dL_isSound_339 : decode cL_isSound 339 = .ok (.aload_n 0, 1) := by decide +kernel
theorem dL_isSound_340 : decode cL_isSound 340 = .ok (.bipush 7, 2) := by decide +kernel
theorem dL_isSound_342 : decode cL_isSound 342 = .ok (.invokevirtual 12, 3) := by decide +kernel
theorem dL_isSound_345 : decode cL_isSound 345 = .ok (.ifCond .le 17, 3) := by decide +kernel
theorem dL_isSound_348 : decode cL_isSound 348 = .ok (.aload_n 0, 1) := by decide +kernel
theorem dL_isSound_349 : decode cL_isSound 349 = .ok (.bipush 7, 2) := by decide +kernel
theorem dL_isSound_351 : decode cL_isSound 351 = .ok (.invokevirtual 12, 3) := by decide +kernel
theorem dL_isSound_354 : decode cL_isSound 354 = .ok (.iconst 4, 1) := by decide +kernel
theorem dL_isSound_355 : decode cL_isSound 355 = .ok (.if_icmp .ge 7, 3) := by decide +kernel
theorem dL_isSound_358 : decode cL_isSound 358 = .ok (.iconst 1, 1) := by decide +kernel
theorem dL_isSound_359 : decode cL_isSound 359 = .ok (.goto 4, 3) := by decide +kernel
theorem dL_isSound_362 : decode cL_isSound 362 = .ok (.iconst 0, 1) := by decide +kernel
theorem dL_isSound_363 : decode cL_isSound 363 = .ok (.ireturn, 1) := by decide +kernel
theorem dL_isForetold_0 : decode cL_isForetold 0 = .ok (.aload_n 0, 1) := by decide +kernel
theorem dL_isForetold_1 : decode cL_isForetold 1 = .ok (.invokestatic 41, 3) := by decide +kernel
theorem dL_isForetold_4 : decode cL_isForetold 4 = .ok (.lstore_n 2, 1) := by decide +kernel
theorem dL_isForetold_5 : decode cL_isForetold 5 = .ok (.iload_n 1, 1) := by decide +kernel
theorem dL_isForetold_6 : decode cL_isForetold 6 = .ok (.iconst 4, 1) := by decide +kernel
theorem dL_isForetold_7 : decode cL_isForetold 7 = .ok (.invokestatic 45, 3) := by decide +kernel
theorem dL_isForetold_10 : decode cL_isForetold 10 = .ok (.istore 4, 2) := by decide +kernel
theorem dL_isForetold_12 : decode cL_isForetold 12 = .ok (.iconst 1, 1) := by decide +kernel
theorem dL_isForetold_13 : decode cL_isForetold 13 = .ok (.iload_n 1, 1) := by decide +kernel
theorem dL_isForetold_14 : decode cL_isForetold 14 = .ok (.iconst 2, 1) := by decide +kernel
theorem dL_isForetold_15 : decode cL_isForetold 15 = .ok (.ishr, 1) := by decide +kernel
theorem dL_isForetold_16 : decode cL_isForetold 16 = .ok (.bipush 9, 2) := by decide +kernel
theorem dL_isForetold_18 : decode cL_isForetold 18 = .ok (.invokestatic 45, 3) := by decide +kernel
theorem dL_isForetold_21 : decode cL_isForetold 21 = .ok (.iadd, 1) := by decide +kernel
theorem dL_isForetold_22 : decode cL_isForetold 22 = .ok (.istore 5, 2) := by decide +kernel
theorem dL_isForetold_24 : decode cL_isForetold 24 = .ok (.aload_n 0, 1) := by decide +kernel
theorem dL_isForetold_25 : decode cL_isForetold 25 = .ok (.iload 4, 2) := by decide +kernel
theorem dL_isForetold_27 : decode cL_isForetold 27 = .ok (.iload 5, 2) := by decide +kernel
theorem dL_isForetold_29 : decode cL_isForetold 29 = .ok (.iconst 0, 1) := by decide +kernel
theorem dL_isForetold_30 : decode cL_isForetold 30 = .ok (.invokevirtual 48, 3) := by decide +kernel
theorem dL_isForetold_33 : decode cL_isForetold 33 = .ok (.istore 6, 2) := by decide +kernel
theorem dL_isForetold_35 : decode cL_isForetold 35 = .ok (.aload_n 0, 1) := by decide +kernel
theorem dL_isForetold_36 : decode cL_isForetold 36 = .ok (.iload 4, 2) := by decide +kernel
theorem dL_isForetold_38 : decode cL_isForetold 38 = .ok (.iload 5, 2) := by decide +kernel
theorem dL_isForetold_40 : decode cL_isForetold 40 = .ok (.iconst 1, 1) := by decide +kernel
theorem dL_isForetold_41 : decode cL_isForetold 41 = .ok (.iload_n 1, 1) := by decide +kernel
theorem dL_isForetold_42 : decode cL_isForetold 42 = .ok (.bipush 6, 2) := by decide +kernel
theorem dL_isForetold_44 : decode cL_isForetold 44 = .ok (.ishr, 1) := by decide +kernel
theorem dL_isForetold_45 : decode cL_isForetold 45 = .ok (.iconst 3, 1) := by decide +kernel
theorem dL_isForetold_46 : decode cL_isForetold 46 = .ok (.invokestatic 45, 3) := by decide +kernel
theorem dL_isForetold_49 : decode cL_isForetold 49 = .ok (.iadd, 1) := by decide +kernel
theorem dL_isForetold_50 : decode cL_isForetold 50 = .ok (.invokevirtual 48, 3) := by decide +kernel
theorem dL_isForetold_53 : decode cL_isForetold 53 = .ok (.istore 7, 2) := by decide +kernel
theorem dL_isForetold_55 : decode cL_isForetold 55 = .ok (.aload_n 0, 1) := by decide +kernel
theorem dL_isForetold_56 : decode cL_isForetold 56 = .ok (.iload 4, 2) := by decide +kernel
theorem dL_isForetold_58 : decode cL_isForetold 58 = .ok (.invokevirtual 51, 3) := by decide +kernel
theorem dL_isForetold_61 : decode cL_isForetold 61 = .ok (.istore 8, 2) := by decide +kernel
theorem dL_isForetold_63 : decode cL_isForetold 63 = .ok (.aload_n 0, 1) := by decide +kernel
theorem dL_isForetold_64 : decode cL_isForetold 64 = .ok (.invokevirtual 54, 3) := by decide +kernel
theorem dL_isForetold_67 : decode cL_isForetold 67 = .ok (.istore 9, 2) := by decide +kernel
theorem dL_isForetold_69 : decode cL_isForetold 69 = .ok (.aload_n 0, 1) := by decide +kernel
theorem dL_isForetold_70 : decode cL_isForetold 70 = .ok (.invokestatic 41, 3) := by decide +kernel
theorem dL_isForetold_73 : decode cL_isForetold 73 = .ok (.lload_n 2, 1) := by decide +kernel
theorem dL_isForetold_74 : decode cL_isForetold 74 = .ok (.lcmp, 1) := by decide +kernel
theorem dL_isForetold_75 : decode cL_isForetold 75 = .ok (.ifCond .ne 52, 3) := by decide +kernel
theorem dL_isForetold_78 : decode cL_isForetold 78 = .ok (.iload 6, 2) := by decide +kernel
theorem dL_isForetold_80 : decode cL_isForetold 80 = .ok (.ifCond .lt 47, 3) := by decide +kernel
theorem dL_isForetold_83 : decode cL_isForetold 83 = .ok (.iload 6, 2) := by decide +kernel
theorem dL_isForetold_85 : decode cL_isForetold 85 = .ok (.bipush 31, 2) := by decide +kernel
theorem dL_isForetold_87 : decode cL_isForetold 87 = .ok (.if_icmp .gt 40, 3) := by decide +kernel
theorem dL_isForetold_90 : decode cL_isForetold 90 = .ok (.iload 7, 2) := by decide +kernel
theorem dL_isForetold_92 : decode cL_isForetold 92 = .ok (.ifCond .lt 35, 3) := by decide +kernel
theorem dL_isForetold_95 : decode cL_isForetold 95 = .ok (.iload 8, 2) := by decide +kernel
theorem dL_isForetold_97 : decode cL_isForetold 97 = .ok (.ifCond .eq 30, 3) := by decide +kernel
theorem dL_isForetold_100 : decode cL_isForetold 100 = .ok (.iload 8, 2) := by decide +kernel
theorem dL_isForetold_102 : decode cL_isForetold 102 = .ok (.bipush 9, 2) := by decide +kernel
theorem dL_isForetold_104 : decode cL_isForetold 104 = .ok (.if_icmp .gt 23, 3) := by decide +kernel
theorem dL_isForetold_107 : decode cL_isForetold 107 = .ok (.iload 8, 2) := by decide +kernel
theorem dL_isForetold_109 : decode cL_isForetold 109 = .ok (.sipush (-1009), 3) := by decide +kernel
theorem dL_isForetold_112 : decode cL_isForetold 112 = .ok (.if_icmp .ne 17, 3) := by decide +kernel
theorem dL_isForetold_115 : decode cL_isForetold 115 = .ok (.aload_n 0, 1) := by decide +kernel
theorem dL_isForetold_116 : decode cL_isForetold 116 = .ok (.iload 4, 2) := by decide +kernel
theorem dL_isForetold_118 : decode cL_isForetold 118 = .ok (.bipush 9, 2) := by decide +kernel
theorem dL_isForetold_120 : decode cL_isForetold 120 = .ok (.iconst 0, 1) := by decide +kernel
theorem dL_isForetold_121 : decode cL_isForetold 121 = .ok (.invokevirtual 48, 3) := by decide +kernel
theorem dL_isForetold_124 : decode cL_isForetold 124 = .ok (.ifCond .ne 5, 3) := by decide +kernel
theorem dL_isForetold_127 : decode cL_isForetold 127 = .ok (.iconst 0, 1) := by decide +kernel
theorem dL_isForetold_128 : decode cL_isForetold 128 = .ok (.ireturn, 1) := by decide +kernel
theorem dL_isForetold_129 : decode cL_isForetold 129 = .ok (.iload 8, 2) := by decide +kernel
theorem dL_isForetold_131 : decode cL_isForetold 131 = .ok (.ifCond .le 38, 3) := by decide +kernel
theorem dL_isForetold_134 : decode cL_isForetold 134 = .ok (.aload_n 0, 1) := by decide +kernel
theorem dL_isForetold_135 : decode cL_isForetold 135 = .ok (.iload 4, 2) := by decide +kernel
theorem dL_isForetold_137 : decode cL_isForetold 137 = .ok (.iload 8, 2) := by decide +kernel
theorem dL_isForetold_139 : decode cL_isForetold 139 = .ok (.iconst 0, 1) := by decide +kernel
theorem dL_isForetold_140 : decode cL_isForetold 140 = .ok (.invokevirtual 48, 3) := by decide +kernel
theorem dL_isForetold_143 : decode cL_isForetold 143 = .ok (.ifCond .ne 24, 3) := by decide +kernel
theorem dL_isForetold_146 : decode cL_isForetold 146 = .ok (.iload 8, 2) := by decide +kernel
theorem dL_isForetold_148 : decode cL_isForetold 148 = .ok (.bipush 9, 2) := by decide +kernel
theorem dL_isForetold_150 : decode cL_isForetold 150 = .ok (.if_icmp .ge 19, 3) := by decide +kernel
theorem dL_isForetold_153 : decode cL_isForetold 153 = .ok (.aload_n 0, 1) := by decide +kernel
theorem dL_isForetold_154 : decode cL_isForetold 154 = .ok (.iload 4, 2) := by decide +kernel
theorem dL_isForetold_156 : decode cL_isForetold 156 = .ok (.iload 8, 2) := by decide +kernel
theorem dL_isForetold_158 : decode cL_isForetold 158 = .ok (.iconst 1, 1) := by decide +kernel
theorem dL_isForetold_159 : decode cL_isForetold 159 = .ok (.iadd, 1) := by decide +kernel
theorem dL_isForetold_160 : decode cL_isForetold 160 = .ok (.iconst 0, 1) := by decide +kernel
theorem dL_isForetold_161 : decode cL_isForetold 161 = .ok (.invokevirtual 48, 3) := by decide +kernel
theorem dL_isForetold_164 : decode cL_isForetold 164 = .ok (.ifCond .ne 5, 3) := by decide +kernel
theorem dL_isForetold_167 : decode cL_isForetold 167 = .ok (.iconst 0, 1) := by decide +kernel
theorem dL_isForetold_168 : decode cL_isForetold 168 = .ok (.ireturn, 1) := by decide +kernel
theorem dL_isForetold_169 : decode cL_isForetold 169 = .ok (.aload_n 0, 1) := by decide +kernel
theorem dL_isForetold_170 : decode cL_isForetold 170 = .ok (.iconst 0, 1) := by decide +kernel
theorem dL_isForetold_171 : decode cL_isForetold 171 = .ok (.invokevirtual 12, 3) := by decide +kernel
theorem dL_isForetold_174 : decode cL_isForetold 174 = .ok (.sipush 4000, 3) := by decide +kernel
theorem dL_isForetold_177 : decode cL_isForetold 177 = .ok (.if_icmp .le 5, 3) := by decide +kernel
theorem dL_isForetold_180 : decode cL_isForetold 180 = .ok (.iconst 1, 1) := by decide +kernel
theorem dL_isForetold_181 : decode cL_isForetold 181 = .ok (.ireturn, 1) := by decide +kernel
theorem dL_isForetold_182 : decode cL_isForetold 182 = .ok (.iload 9, 2) := by decide +kernel
theorem dL_isForetold_184 : decode cL_isForetold 184 = .ok (.ifCond .ne 165, 3) := by decide +kernel
theorem dL_isForetold_187 : decode cL_isForetold 187 = .ok (.aload_n 0, 1) := by decide +kernel
theorem dL_isForetold_188 : decode cL_isForetold 188 = .ok (.iconst 1, 1) := by decide +kernel
theorem dL_isForetold_189 : decode cL_isForetold 189 = .ok (.invokevirtual 12, 3) := by decide +kernel
theorem dL_isForetold_192 : decode cL_isForetold 192 = .ok (.bipush 30, 2) := by decide +kernel
theorem dL_isForetold_194 : decode cL_isForetold 194 = .ok (.if_icmp .ge 155, 3) := by decide +kernel
theorem dL_isForetold_197 : decode cL_isForetold 197 = .ok (.aload_n 0, 1) := by decide +kernel
theorem dL_isForetold_198 : decode cL_isForetold 198 = .ok (.iload 4, 2) := by decide +kernel
theorem dL_isForetold_200 : decode cL_isForetold 200 = .ok (.iload 5, 2) := by decide +kernel
theorem dL_isForetold_202 : decode cL_isForetold 202 = .ok (.invokevirtual 58, 3) := by decide +kernel
theorem dL_isForetold_205 : decode cL_isForetold 205 = .ok (.istore 10, 2) := by decide +kernel
theorem dL_isForetold_207 : decode cL_isForetold 207 = .ok (.aload_n 0, 1) := by decide +kernel
theorem dL_isForetold_208 : decode cL_isForetold 208 = .ok (.iload 10, 2) := by decide +kernel
theorem dL_isForetold_210 : decode cL_isForetold 210 = .ok (.iconst 2, 1) := by decide +kernel
theorem dL_isForetold_211 : decode cL_isForetold 211 = .ok (.invokevirtual 61, 3) := by decide +kernel
theorem dL_isForetold_214 : decode cL_isForetold 214 = .ok (.istore 11, 2) := by decide +kernel
theorem dL_isForetold_216 : decode cL_isForetold 216 = .ok (.aload_n 0, 1) := by decide +kernel
theorem dL_isForetold_217 : decode cL_isForetold 217 = .ok (.iload 10, 2) := by decide +kernel
theorem dL_isForetold_219 : decode cL_isForetold 219 = .ok (.iconst 1, 1) := by decide +kernel
theorem dL_isForetold_220 : decode cL_isForetold 220 = .ok (.invokevirtual 61, 3) := by decide +kernel
theorem dL_isForetold_223 : decode cL_isForetold 223 = .ok (.istore 12, 2) := by decide +kernel
theorem dL_isForetold_225 : decode cL_isForetold 225 = .ok (.aload_n 0, 1) := by decide +kernel
theorem dL_isForetold_226 : decode cL_isForetold 226 = .ok (.iload 10, 2) := by decide +kernel
theorem dL_isForetold_228 : decode cL_isForetold 228 = .ok (.iconst 3, 1) := by decide +kernel
theorem dL_isForetold_229 : decode cL_isForetold 229 = .ok (.invokevirtual 61, 3) := by decide +kernel
theorem dL_isForetold_232 : decode cL_isForetold 232 = .ok (.istore 13, 2) := by decide +kernel
theorem dL_isForetold_234 : decode cL_isForetold 234 = .ok (.iload 10, 2) := by decide +kernel
theorem dL_isForetold_236 : decode cL_isForetold 236 = .ok (.aload_n 0, 1) := by decide +kernel
theorem dL_isForetold_237 : decode cL_isForetold 237 = .ok (.iconst 1, 1) := by decide +kernel
theorem dL_isForetold_238 : decode cL_isForetold 238 = .ok (.invokevirtual 12, 3) := by decide +kernel
theorem dL_isForetold_241 : decode cL_isForetold 241 = .ok (.iconst 1, 1) := by decide +kernel
theorem dL_isForetold_242 : decode cL_isForetold 242 = .ok (.isub, 1) := by decide +kernel
theorem dL_isForetold_243 : decode cL_isForetold 243 = .ok (.if_icmp .ne 104, 3) := by decide +kernel
theorem dL_isForetold_246 : decode cL_isForetold 246 = .ok (.aload_n 0, 1) := by decide +kernel
theorem dL_isForetold_247 : decode cL_isForetold 247 = .ok (.iload 10, 2) := by decide +kernel
theorem dL_isForetold_249 : decode cL_isForetold 249 = .ok (.iconst 0, 1) := by decide +kernel
theorem dL_isForetold_250 : decode cL_isForetold 250 = .ok (.invokevirtual 61, 3) := by decide +kernel
theorem dL_isForetold_253 : decode cL_isForetold 253 = .ok (.iload 6, 2) := by decide +kernel
theorem dL_isForetold_255 : decode cL_isForetold 255 = .ok (.if_icmp .ne 92, 3) := by decide +kernel
theorem dL_isForetold_258 : decode cL_isForetold 258 = .ok (.iload 11, 2) := by decide +kernel
theorem dL_isForetold_260 : decode cL_isForetold 260 = .ok (.iconst 1, 1) := by decide +kernel
theorem dL_isForetold_261 : decode cL_isForetold 261 = .ok (.if_icmp .lt 86, 3) := by decide +kernel
theorem dL_isForetold_264 : decode cL_isForetold 264 = .ok (.aload_n 0, 1) := by decide +kernel
theorem dL_isForetold_265 : decode cL_isForetold 265 = .ok (.iload 11, 2) := by decide +kernel
theorem dL_isForetold_267 : decode cL_isForetold 267 = .ok (.invokevirtual 64, 3) := by decide +kernel
theorem dL_isForetold_270 : decode cL_isForetold 270 = .ok (.iconst 1, 1) := by decide +kernel
theorem dL_isForetold_271 : decode cL_isForetold 271 = .ok (.if_icmp .lt 76, 3) := by decide +kernel
theorem dL_isForetold_274 : decode cL_isForetold 274 = .ok (.aload_n 0, 1) := by decide +kernel
theorem dL_isForetold_275 : decode cL_isForetold 275 = .ok (.iload 10, 2) := by decide +kernel
theorem dL_isForetold_277 : decode cL_isForetold 277 = .ok (.iconst 2, 1) := by decide +kernel
theorem dL_isForetold_278 : decode cL_isForetold 278 = .ok (.invokevirtual 25, 3) := by decide +kernel
theorem dL_isForetold_281 : decode cL_isForetold 281 = .ok (.iconst 1, 1) := by decide +kernel
theorem dL_isForetold_282 : decode cL_isForetold 282 = .ok (.if_icmp .ne 65, 3) := by decide +kernel
theorem dL_isForetold_285 : decode cL_isForetold 285 = .ok (.aload_n 0, 1) := by decide +kernel
theorem dL_isForetold_286 : decode cL_isForetold 286 = .ok (.iload 10, 2) := by decide +kernel
theorem dL_isForetold_288 : decode cL_isForetold 288 = .ok (.bipush 8, 2) := by decide +kernel
theorem dL_isForetold_290 : decode cL_isForetold 290 = .ok (.invokevirtual 25, 3) := by decide +kernel
theorem dL_isForetold_293 : decode cL_isForetold 293 = .ok (.iload 6, 2) := by decide +kernel
theorem dL_isForetold_295 : decode cL_isForetold 295 = .ok (.if_icmp .ne 52, 3) := by decide +kernel
theorem dL_isForetold_298 : decode cL_isForetold 298 = .ok (.aload_n 0, 1) := by decide +kernel
theorem dL_isForetold_299 : decode cL_isForetold 299 = .ok (.iload 10, 2) := by decide +kernel
theorem dL_isForetold_301 : decode cL_isForetold 301 = .ok (.bipush 6, 2) := by decide +kernel
theorem dL_isForetold_303 : decode cL_isForetold 303 = .ok (.invokevirtual 25, 3) := by decide +kernel
theorem dL_isForetold_306 : decode cL_isForetold 306 = .ok (.iload 12, 2) := by decide +kernel
theorem dL_isForetold_308 : decode cL_isForetold 308 = .ok (.if_icmp .ne 39, 3) := by decide +kernel
theorem dL_isForetold_311 : decode cL_isForetold 311 = .ok (.aload_n 0, 1) := by decide +kernel
theorem dL_isForetold_312 : decode cL_isForetold 312 = .ok (.iload 10, 2) := by decide +kernel
theorem dL_isForetold_314 : decode cL_isForetold 314 = .ok (.iconst 4, 1) := by decide +kernel
theorem dL_isForetold_315 : decode cL_isForetold 315 = .ok (.invokevirtual 25, 3) := by decide +kernel
theorem dL_isForetold_318 : decode cL_isForetold 318 = .ok (.iload 13, 2) := by decide +kernel
theorem dL_isForetold_320 : decode cL_isForetold 320 = .ok (.if_icmp .ne 27, 3) := by decide +kernel
theorem dL_isForetold_323 : decode cL_isForetold 323 = .ok (.aload_n 0, 1) := by decide +kernel
theorem dL_isForetold_324 : decode cL_isForetold 324 = .ok (.invokevirtual 67, 3) := by decide +kernel
theorem dL_isForetold_327 : decode cL_isForetold 327 = .ok (.ifCond .lt 20, 3) := by decide +kernel
theorem dL_isForetold_330 : decode cL_isForetold 330 = .ok (.aload_n 0, 1) := by decide +kernel
theorem dL_isForetold_331 : decode cL_isForetold 331 = .ok (.iload 10, 2) := by decide +kernel
theorem dL_isForetold_333 : decode cL_isForetold 333 = .ok (.iconst 2, 1) := by decide +kernel
theorem dL_isForetold_334 : decode cL_isForetold 334 = .ok (.invokevirtual 25, 3) := by decide +kernel
theorem dL_isForetold_337 : decode cL_isForetold 337 = .ok (.ifCond .ne 10, 3) := by decide +kernel
theorem dL_isForetold_340 : decode cL_isForetold 340 = .ok (.aload_n 0, 1) := by decide +kernel
theorem dL_isForetold_341 : decode cL_isForetold 341 = .ok (.invokevirtual 67, 3) := by decide +kernel
theorem dL_isForetold_344 : decode cL_isForetold 344 = .ok (.ifCond .ge 5, 3) := by decide +kernel
theorem dL_isForetold_347 : decode cL_isForetold 347 = .ok (.iconst 0, 1) := by decide +kernel
theorem dL_isForetold_348 : decode cL_isForetold 348 = .ok (.ireturn, 1) := by decide +kernel
theorem dL_isForetold_349 : decode cL_isForetold 349 = .ok (.iload 9, 2) := by decide +kernel
theorem dL_isForetold_351 : decode cL_isForetold 351 = .ok (.ifCond .le 74, 3) := by decide +kernel
theorem dL_isForetold_354 : decode cL_isForetold 354 = .ok (.aload_n 0, 1) := by decide +kernel
theorem dL_isForetold_355 : decode cL_isForetold 355 = .ok (.iload 4, 2) := by decide +kernel
theorem dL_isForetold_357 : decode cL_isForetold 357 = .ok (.iload 5, 2) := by decide +kernel
theorem dL_isForetold_359 : decode cL_isForetold 359 = .ok (.invokevirtual 58, 3) := by decide +kernel
theorem dL_isForetold_362 : decode cL_isForetold 362 = .ok (.sipush (-1002), 3) := by decide +kernel
theorem dL_isForetold_365 : decode cL_isForetold 365 = .ok (.if_icmp .ne 58, 3) := by decide +kernel
theorem dL_isForetold_368 : decode cL_isForetold 368 = .ok (.aload_n 0, 1) := by decide +kernel
theorem dL_isForetold_369 : decode cL_isForetold 369 = .ok (.iload 9, 2) := by decide +kernel
theorem dL_isForetold_371 : decode cL_isForetold 371 = .ok (.invokevirtual 64, 3) := by decide +kernel
theorem dL_isForetold_374 : decode cL_isForetold 374 = .ok (.ifCond .lt 49, 3) := by decide +kernel
theorem dL_isForetold_377 : decode cL_isForetold 377 = .ok (.aload_n 0, 1) := by decide +kernel
theorem dL_isForetold_378 : decode cL_isForetold 378 = .ok (.invokevirtual 54, 3) := by decide +kernel
theorem dL_isForetold_381 : decode cL_isForetold 381 = .ok (.ifCond .ne 42, 3) := by decide +kernel
theorem dL_isForetold_384 : decode cL_isForetold 384 = .ok (.aload_n 0, 1) := by decide +kernel
theorem dL_isForetold_385 : decode cL_isForetold 385 = .ok (.invokevirtual 67, 3) := by decide +kernel
theorem dL_isForetold_388 : decode cL_isForetold 388 = .ok (.ifCond .lt 35, 3) := by decide +kernel
theorem dL_isForetold_391 : decode cL_isForetold 391 = .ok (.iload 9, 2) := by decide +kernel
theorem dL_isForetold_393 : decode cL_isForetold 393 = .ok (.iconst 1, 1) := by decide +kernel
theorem dL_isForetold_394 : decode cL_isForetold 394 = .ok (.if_icmp .le 31, 3) := by decide +kernel
theorem dL_isForetold_397 : decode cL_isForetold 397 = .ok (.aload_n 0, 1) := by decide +kernel
theorem dL_isForetold_398 : decode cL_isForetold 398 = .ok (.iload 9, 2) := by decide +kernel
theorem dL_isForetold_400 : decode cL_isForetold 400 = .ok (.iconst 1, 1) := by decide +kernel
theorem dL_isForetold_401 : decode cL_isForetold 401 = .ok (.isub, 1) := by decide +kernel
theorem dL_isForetold_402 : decode cL_isForetold 402 = .ok (.invokevirtual 64, 3) := by decide +kernel
theorem dL_isForetold_405 : decode cL_isForetold 405 = .ok (.ifCond .lt 18, 3) := by decide +kernel
theorem dL_isForetold_408 : decode cL_isForetold 408 = .ok (.aload_n 0, 1) := by decide +kernel
theorem dL_isForetold_409 : decode cL_isForetold 409 = .ok (.invokevirtual 54, 3) := by decide +kernel
theorem dL_isForetold_412 : decode cL_isForetold 412 = .ok (.iconst 1, 1) := by decide +kernel
theorem dL_isForetold_413 : decode cL_isForetold 413 = .ok (.if_icmp .ne 10, 3) := by decide +kernel
theorem dL_isForetold_416 : decode cL_isForetold 416 = .ok (.aload_n 0, 1) := by decide +kernel
theorem dL_isForetold_417 : decode cL_isForetold 417 = .ok (.invokevirtual 67, 3) := by decide +kernel
theorem dL_isForetold_420 : decode cL_isForetold 420 = .ok (.ifCond .ge 5, 3) := by decide +kernel
theorem dL_isForetold_423 : decode cL_isForetold 423 = .ok (.iconst 0, 1) := by decide +kernel
theorem dL_isForetold_424 : decode cL_isForetold 424 = .ok (.ireturn, 1) := by decide +kernel
theorem dL_isForetold_425 : decode cL_isForetold 425 = .ok (.aload_n 0, 1) := by decide +kernel
theorem dL_isForetold_426 : decode cL_isForetold 426 = .ok (.invokestatic 41, 3) := by decide +kernel
theorem dL_isForetold_429 : decode cL_isForetold 429 = .ok (.lload_n 2, 1) := by decide +kernel
theorem dL_isForetold_430 : decode cL_isForetold 430 = .ok (.lcmp, 1) := by decide +kernel
theorem dL_isForetold_431 : decode cL_isForetold 431 = .ok (.ifCond .ne 7, 3) := by decide +kernel
theorem dL_isForetold_434 : decode cL_isForetold 434 = .ok (.iconst 1, 1) := by decide +kernel
theorem dL_isForetold_435 : decode cL_isForetold 435 = .ok (.goto 4, 3) := by decide +kernel
theorem dL_isForetold_438 : decode cL_isForetold 438 = .ok (.iconst 0, 1) := by decide +kernel
theorem dL_isForetold_439 : decode cL_isForetold 439 = .ok (.ireturn, 1) := by decide +kernel
theorem dL_acts_0 : decode cL_acts 0 = .ok (.iload_n 1, 1) := by decide +kernel
theorem dL_acts_1 : decode cL_acts 1 = .ok (.bipush 14, 2) := by decide +kernel
theorem dL_acts_3 : decode cL_acts 3 = .ok (.invokestatic 45, 3) := by decide +kernel
theorem dL_acts_6 : decode cL_acts 6 = .ok (.tableswitch 228 0 10 #[58, 106, 106, 137, 158, 158, 158, 181, 199, 211, 223], 58) := by decide +kernel
theorem dL_acts_64 : decode cL_acts 64 = .ok (.aload_n 0, 1) := by decide +kernel
theorem dL_acts_65 : decode cL_acts 65 = .ok (.iload_n 1, 1) := by decide +kernel
theorem dL_acts_66 : decode cL_acts 66 = .ok (.iconst 4, 1) := by decide +kernel
theorem dL_acts_67 : decode cL_acts 67 = .ok (.ishr, 1) := by decide +kernel
theorem dL_acts_68 : decode cL_acts 68 = .ok (.bipush 7, 2) := by decide +kernel
theorem dL_acts_70 : decode cL_acts 70 = .ok (.invokestatic 45, 3) := by decide +kernel
theorem dL_acts_73 : decode cL_acts 73 = .ok (.iconst 2, 1) := by decide +kernel
theorem dL_acts_74 : decode cL_acts 74 = .ok (.iload_n 1, 1) := by decide +kernel
theorem dL_acts_75 : decode cL_acts 75 = .ok (.bipush 7, 2) := by decide +kernel
theorem dL_acts_77 : decode cL_acts 77 = .ok (.ishr, 1) := by decide +kernel
theorem dL_acts_78 : decode cL_acts 78 = .ok (.bipush 8, 2) := by decide +kernel
theorem dL_acts_80 : decode cL_acts 80 = .ok (.invokestatic 45, 3) := by decide +kernel
theorem dL_acts_83 : decode cL_acts 83 = .ok (.iadd, 1) := by decide +kernel
theorem dL_acts_84 : decode cL_acts 84 = .ok (.bipush 20, 2) := by decide +kernel
theorem dL_acts_86 : decode cL_acts 86 = .ok (.iload_n 1, 1) := by decide +kernel
theorem dL_acts_87 : decode cL_acts 87 = .ok (.bipush 10, 2) := by decide +kernel
theorem dL_acts_89 : decode cL_acts 89 = .ok (.ishr, 1) := by decide +kernel
theorem dL_acts_90 : decode cL_acts 90 = .ok (.sipush 290, 3) := by decide +kernel
theorem dL_acts_93 : decode cL_acts 93 = .ok (.invokestatic 45, 3) := by decide +kernel
theorem dL_acts_96 : decode cL_acts 96 = .ok (.iadd, 1) := by decide +kernel
theorem dL_acts_97 : decode cL_acts 97 = .ok (.iconst 1, 1) := by decide +kernel
theorem dL_acts_98 : decode cL_acts 98 = .ok (.iload_n 1, 1) := by decide +kernel
theorem dL_acts_99 : decode cL_acts 99 = .ok (.bipush 19, 2) := by decide +kernel
theorem dL_acts_101 : decode cL_acts 101 = .ok (.ishr, 1) := by decide +kernel
theorem dL_acts_102 : decode cL_acts 102 = .ok (.bipush 21, 2) := by decide +kernel
theorem dL_acts_104 : decode cL_acts 104 = .ok (.invokestatic 45, 3) := by decide +kernel
theorem dL_acts_107 : decode cL_acts 107 = .ok (.iadd, 1) := by decide +kernel
theorem dL_acts_108 : decode cL_acts 108 = .ok (.invokevirtual 70, 3) := by decide +kernel
theorem dL_acts_111 : decode cL_acts 111 = .ok (.ireturn, 1) := by decide +kernel
theorem dL_acts_112 : decode cL_acts 112 = .ok (.aload_n 0, 1) := by decide +kernel
theorem dL_acts_113 : decode cL_acts 113 = .ok (.iload_n 1, 1) := by decide +kernel
theorem dL_acts_114 : decode cL_acts 114 = .ok (.iconst 4, 1) := by decide +kernel
theorem dL_acts_115 : decode cL_acts 115 = .ok (.ishr, 1) := by decide +kernel
theorem dL_acts_116 : decode cL_acts 116 = .ok (.iconst 4, 1) := by decide +kernel
theorem dL_acts_117 : decode cL_acts 117 = .ok (.invokestatic 45, 3) := by decide +kernel
theorem dL_acts_120 : decode cL_acts 120 = .ok (.iload_n 1, 1) := by decide +kernel
theorem dL_acts_121 : decode cL_acts 121 = .ok (.bipush 6, 2) := by decide +kernel
theorem dL_acts_123 : decode cL_acts 123 = .ok (.ishr, 1) := by decide +kernel
theorem dL_acts_124 : decode cL_acts 124 = .ok (.bipush 7, 2) := by decide +kernel
theorem dL_acts_126 : decode cL_acts 126 = .ok (.invokestatic 45, 3) := by decide +kernel
theorem dL_acts_129 : decode cL_acts 129 = .ok (.iload_n 1, 1) := by decide +kernel
theorem dL_acts_130 : decode cL_acts 130 = .ok (.bipush 9, 2) := by decide +kernel
theorem dL_acts_132 : decode cL_acts 132 = .ok (.ishr, 1) := by decide +kernel
theorem dL_acts_133 : decode cL_acts 133 = .ok (.sipush 310, 3) := by decide +kernel
theorem dL_acts_136 : decode cL_acts 136 = .ok (.invokestatic 45, 3) := by decide +kernel
theorem dL_acts_139 : decode cL_acts 139 = .ok (.invokevirtual 74, 3) := by decide +kernel
theorem dL_acts_142 : decode cL_acts 142 = .ok (.ireturn, 1) := by decide +kernel
theorem dL_acts_143 : decode cL_acts 143 = .ok (.aload_n 0, 1) := by decide +kernel
theorem dL_acts_144 : decode cL_acts 144 = .ok (.iload_n 1, 1) := by decide +kernel
theorem dL_acts_145 : decode cL_acts 145 = .ok (.iconst 4, 1) := by decide +kernel
theorem dL_acts_146 : decode cL_acts 146 = .ok (.ishr, 1) := by decide +kernel
theorem dL_acts_147 : decode cL_acts 147 = .ok (.iconst 5, 1) := by decide +kernel
theorem dL_acts_148 : decode cL_acts 148 = .ok (.invokestatic 45, 3) := by decide +kernel
theorem dL_acts_151 : decode cL_acts 151 = .ok (.iload_n 1, 1) := by decide +kernel
theorem dL_acts_152 : decode cL_acts 152 = .ok (.bipush 7, 2) := by decide +kernel
theorem dL_acts_154 : decode cL_acts 154 = .ok (.ishr, 1) := by decide +kernel
theorem dL_acts_155 : decode cL_acts 155 = .ok (.bipush 22, 2) := by decide +kernel
theorem dL_acts_157 : decode cL_acts 157 = .ok (.invokestatic 45, 3) := by decide +kernel
theorem dL_acts_160 : decode cL_acts 160 = .ok (.invokevirtual 77, 3) := by decide +kernel
theorem dL_acts_163 : decode cL_acts 163 = .ok (.ireturn, 1) := by decide +kernel
theorem dL_acts_164 : decode cL_acts 164 = .ok (.aload_n 0, 1) := by decide +kernel
theorem dL_acts_165 : decode cL_acts 165 = .ok (.iload_n 1, 1) := by decide +kernel
theorem dL_acts_166 : decode cL_acts 166 = .ok (.iconst 4, 1) := by decide +kernel
theorem dL_acts_167 : decode cL_acts 167 = .ok (.ishr, 1) := by decide +kernel
theorem dL_acts_168 : decode cL_acts 168 = .ok (.iconst 5, 1) := by decide +kernel
theorem dL_acts_169 : decode cL_acts 169 = .ok (.invokestatic 45, 3) := by decide +kernel
theorem dL_acts_172 : decode cL_acts 172 = .ok (.iconst 1, 1) := by decide +kernel
theorem dL_acts_173 : decode cL_acts 173 = .ok (.iload_n 1, 1) := by decide +kernel
theorem dL_acts_174 : decode cL_acts 174 = .ok (.bipush 7, 2) := by decide +kernel
theorem dL_acts_176 : decode cL_acts 176 = .ok (.ishr, 1) := by decide +kernel
theorem dL_acts_177 : decode cL_acts 177 = .ok (.bipush 10, 2) := by decide +kernel
theorem dL_acts_179 : decode cL_acts 179 = .ok (.invokestatic 45, 3) := by decide +kernel
theorem dL_acts_182 : decode cL_acts 182 = .ok (.iadd, 1) := by decide +kernel
theorem dL_acts_183 : decode cL_acts 183 = .ok (.invokevirtual 58, 3) := by decide +kernel
theorem dL_acts_186 : decode cL_acts 186 = .ok (.ireturn, 1) := by decide +kernel
theorem dL_acts_187 : decode cL_acts 187 = .ok (.aload_n 0, 1) := by decide +kernel
theorem dL_acts_188 : decode cL_acts 188 = .ok (.iload_n 1, 1) := by decide +kernel
theorem dL_acts_189 : decode cL_acts 189 = .ok (.iconst 4, 1) := by decide +kernel
theorem dL_acts_190 : decode cL_acts 190 = .ok (.ishr, 1) := by decide +kernel
theorem dL_acts_191 : decode cL_acts 191 = .ok (.iconst 1, 1) := by decide +kernel
theorem dL_acts_192 : decode cL_acts 192 = .ok (.aload_n 0, 1) := by decide +kernel
theorem dL_acts_193 : decode cL_acts 193 = .ok (.iconst 1, 1) := by decide +kernel
theorem dL_acts_194 : decode cL_acts 194 = .ok (.invokevirtual 12, 3) := by decide +kernel
theorem dL_acts_197 : decode cL_acts 197 = .ok (.iadd, 1) := by decide +kernel
theorem dL_acts_198 : decode cL_acts 198 = .ok (.invokestatic 45, 3) := by decide +kernel
theorem dL_acts_201 : decode cL_acts 201 = .ok (.invokevirtual 80, 3) := by decide +kernel
theorem dL_acts_204 : decode cL_acts 204 = .ok (.ireturn, 1) := by decide +kernel
theorem dL_acts_205 : decode cL_acts 205 = .ok (.aload_n 0, 1) := by decide +kernel
theorem dL_acts_206 : decode cL_acts 206 = .ok (.iload_n 1, 1) := by decide +kernel
theorem dL_acts_207 : decode cL_acts 207 = .ok (.iconst 4, 1) := by decide +kernel
theorem dL_acts_208 : decode cL_acts 208 = .ok (.ishr, 1) := by decide +kernel
theorem dL_acts_209 : decode cL_acts 209 = .ok (.iconst 3, 1) := by decide +kernel
theorem dL_acts_210 : decode cL_acts 210 = .ok (.invokestatic 45, 3) := by decide +kernel
theorem dL_acts_213 : decode cL_acts 213 = .ok (.invokevirtual 83, 3) := by decide +kernel
theorem dL_acts_216 : decode cL_acts 216 = .ok (.ireturn, 1) := by decide +kernel
theorem dL_acts_217 : decode cL_acts 217 = .ok (.aload_n 0, 1) := by decide +kernel
theorem dL_acts_218 : decode cL_acts 218 = .ok (.iload_n 1, 1) := by decide +kernel
theorem dL_acts_219 : decode cL_acts 219 = .ok (.iconst 4, 1) := by decide +kernel
theorem dL_acts_220 : decode cL_acts 220 = .ok (.ishr, 1) := by decide +kernel
theorem dL_acts_221 : decode cL_acts 221 = .ok (.iconst 3, 1) := by decide +kernel
theorem dL_acts_222 : decode cL_acts 222 = .ok (.invokestatic 45, 3) := by decide +kernel
theorem dL_acts_225 : decode cL_acts 225 = .ok (.invokevirtual 86, 3) := by decide +kernel
theorem dL_acts_228 : decode cL_acts 228 = .ok (.ireturn, 1) := by decide +kernel
theorem dL_acts_229 : decode cL_acts 229 = .ok (.aload_n 0, 1) := by decide +kernel
theorem dL_acts_230 : decode cL_acts 230 = .ok (.invokevirtual 89, 3) := by decide +kernel
theorem dL_acts_233 : decode cL_acts 233 = .ok (.ireturn, 1) := by decide +kernel
theorem dL_acts_234 : decode cL_acts 234 = .ok (.aload_n 0, 1) := by decide +kernel
theorem dL_acts_235 : decode cL_acts 235 = .ok (.iload_n 1, 1) := by decide +kernel
theorem dL_acts_236 : decode cL_acts 236 = .ok (.iconst 4, 1) := by decide +kernel
theorem dL_acts_237 : decode cL_acts 237 = .ok (.ishr, 1) := by decide +kernel
theorem dL_acts_238 : decode cL_acts 238 = .ok (.iload_n 1, 1) := by decide +kernel
theorem dL_acts_239 : decode cL_acts 239 = .ok (.bipush 9, 2) := by decide +kernel
theorem dL_acts_241 : decode cL_acts 241 = .ok (.ishr, 1) := by decide +kernel
theorem dL_acts_242 : decode cL_acts 242 = .ok (.iconst 3, 1) := by decide +kernel
theorem dL_acts_243 : decode cL_acts 243 = .ok (.iand, 1) := by decide +kernel
theorem dL_acts_244 : decode cL_acts 244 = .ok (.ifCond .ne 8, 3) := by decide +kernel
theorem dL_acts_247 : decode cL_acts 247 = .ok (.bipush 101, 2) := by decide +kernel
theorem dL_acts_249 : decode cL_acts 249 = .ok (.goto 5, 3) := by decide +kernel
theorem dL_acts_252 : decode cL_acts 252 = .ok (.bipush 8, 2) := by decide +kernel
theorem dL_acts_254 : decode cL_acts 254 = .ok (.invokestatic 45, 3) := by decide +kernel
theorem dL_acts_257 : decode cL_acts 257 = .ok (.invokevirtual 64, 3) := by decide +kernel
theorem dL_acts_260 : decode cL_acts 260 = .ok (.ireturn, 1) := by decide +kernel
theorem dL_law_0 : decode cL_law 0 = .ok (.new 13, 3) := by decide +kernel
theorem dL_law_3 : decode cL_law 3 = .ok (.dup, 1) := by decide +kernel
theorem dL_law_4 : decode cL_law 4 = .ok (.invokespecial 92, 3) := by decide +kernel
theorem dL_law_7 : decode cL_law 7 = .ok (.astore_n 1, 1) := by decide +kernel
theorem dL_law_8 : decode cL_law 8 = .ok (.aload_n 0, 1) := by decide +kernel
theorem dL_law_9 : decode cL_law 9 = .ok (.iconst 0, 1) := by decide +kernel
theorem dL_law_10 : decode cL_law 10 = .ok (.invokestatic 93, 3) := by decide +kernel
theorem dL_law_13 : decode cL_law 13 = .ok (.istore_n 2, 1) := by decide +kernel
theorem dL_law_14 : decode cL_law 14 = .ok (.aload_n 1, 1) := by decide +kernel
theorem dL_law_15 : decode cL_law 15 = .ok (.iconst 2, 1) := by decide +kernel
theorem dL_law_16 : decode cL_law 16 = .ok (.iload_n 2, 1) := by decide +kernel
theorem dL_law_17 : decode cL_law 17 = .ok (.bipush 12, 2) := by decide +kernel
theorem dL_law_19 : decode cL_law 19 = .ok (.invokestatic 45, 3) := by decide +kernel
theorem dL_law_22 : decode cL_law 22 = .ok (.invokevirtual 77, 3) := by decide +kernel
theorem dL_law_25 : decode cL_law 25 = .ok (.pop, 1) := by decide +kernel
theorem dL_law_26 : decode cL_law 26 = .ok (.aload_n 1, 1) := by decide +kernel
theorem dL_law_27 : decode cL_law 27 = .ok (.iload_n 2, 1) := by decide +kernel
theorem dL_law_28 : decode cL_law 28 = .ok (.iconst 4, 1) := by decide +kernel
theorem dL_law_29 : decode cL_law 29 = .ok (.ishr, 1) := by decide +kernel
theorem dL_law_30 : decode cL_law 30 = .ok (.iconst 4, 1) := by decide +kernel
theorem dL_law_31 : decode cL_law 31 = .ok (.invokestatic 45, 3) := by decide +kernel
theorem dL_law_34 : decode cL_law 34 = .ok (.iconst 1, 1) := by decide +kernel
theorem dL_law_35 : decode cL_law 35 = .ok (.iload_n 2, 1) := by decide +kernel
theorem dL_law_36 : decode cL_law 36 = .ok (.bipush 7, 2) := by decide +kernel
theorem dL_law_38 : decode cL_law 38 = .ok (.ishr, 1) := by decide +kernel
theorem dL_law_39 : decode cL_law 39 = .ok (.bipush 9, 2) := by decide +kernel
theorem dL_law_41 : decode cL_law 41 = .ok (.invokestatic 45, 3) := by decide +kernel
theorem dL_law_44 : decode cL_law 44 = .ok (.iadd, 1) := by decide +kernel
theorem dL_law_45 : decode cL_law 45 = .ok (.invokevirtual 58, 3) := by decide +kernel
theorem dL_law_48 : decode cL_law 48 = .ok (.pop, 1) := by decide +kernel
theorem dL_law_49 : decode cL_law 49 = .ok (.iconst 0, 1) := by decide +kernel
theorem dL_law_50 : decode cL_law 50 = .ok (.istore_n 3, 1) := by decide +kernel
theorem dL_law_51 : decode cL_law 51 = .ok (.iload_n 3, 1) := by decide +kernel
theorem dL_law_52 : decode cL_law 52 = .ok (.bipush 24, 2) := by decide +kernel
theorem dL_law_54 : decode cL_law 54 = .ok (.if_icmp .ge 156, 3) := by decide +kernel
theorem dL_law_57 : decode cL_law 57 = .ok (.aload_n 0, 1) := by decide +kernel
theorem dL_law_58 : decode cL_law 58 = .ok (.iconst 1, 1) := by decide +kernel
theorem dL_law_59 : decode cL_law 59 = .ok (.iload_n 3, 1) := by decide +kernel
theorem dL_law_60 : decode cL_law 60 = .ok (.iadd, 1) := by decide +kernel
theorem dL_law_61 : decode cL_law 61 = .ok (.invokestatic 93, 3) := by decide +kernel
theorem dL_law_64 : decode cL_law 64 = .ok (.istore 4, 2) := by decide +kernel
theorem dL_law_66 : decode cL_law 66 = .ok (.aload_n 1, 1) := by decide +kernel
theorem dL_law_67 : decode cL_law 67 = .ok (.invokestatic 41, 3) := by decide +kernel
theorem dL_law_70 : decode cL_law 70 = .ok (.lstore 5, 2) := by decide +kernel
theorem dL_law_72 : decode cL_law 72 = .ok (.iload_n 3, 1) := by decide +kernel
theorem dL_law_73 : decode cL_law 73 = .ok (.iconst 5, 1) := by decide +kernel
theorem dL_law_74 : decode cL_law 74 = .ok (.irem, 1) := by decide +kernel
theorem dL_law_75 : decode cL_law 75 = .ok (.ifCond .ne 28, 3) := by decide +kernel
theorem dL_law_78 : decode cL_law 78 = .ok (.aload_n 1, 1) := by decide +kernel
theorem dL_law_79 : decode cL_law 79 = .ok (.bipush 112, 2) := by decide +kernel
theorem dL_law_81 : decode cL_law 81 = .ok (.invokevirtual 97, 3) := by decide +kernel
theorem dL_law_84 : decode cL_law 84 = .ok (.pop, 1) := by decide +kernel
theorem dL_law_85 : decode cL_law 85 = .ok (.aload_n 1, 1) := by decide +kernel
theorem dL_law_86 : decode cL_law 86 = .ok (.bipush 49, 2) := by decide +kernel
theorem dL_law_88 : decode cL_law 88 = .ok (.iload 4, 2) := by decide +kernel
theorem dL_law_90 : decode cL_law 90 = .ok (.bipush 20, 2) := by decide +kernel
theorem dL_law_92 : decode cL_law 92 = .ok (.ishr, 1) := by decide +kernel
theorem dL_law_93 : decode cL_law 93 = .ok (.bipush 9, 2) := by decide +kernel
theorem dL_law_95 : decode cL_law 95 = .ok (.invokestatic 45, 3) := by decide +kernel
theorem dL_law_98 : decode cL_law 98 = .ok (.iadd, 1) := by decide +kernel
theorem dL_law_99 : decode cL_law 99 = .ok (.invokevirtual 97, 3) := by decide +kernel
theorem dL_law_102 : decode cL_law 102 = .ok (.pop, 1) := by decide +kernel
theorem dL_law_103 : decode cL_law 103 = .ok (.aload_n 1, 1) := by decide +kernel
theorem dL_law_104 : decode cL_law 104 = .ok (.iload 4, 2) := by decide +kernel
theorem dL_law_106 : decode cL_law 106 = .ok (.invokestatic 100, 3) := by decide +kernel
theorem dL_law_109 : decode cL_law 109 = .ok (.istore 7, 2) := by decide +kernel
theorem dL_law_111 : decode cL_law 111 = .ok (.iload 7, 2) := by decide +kernel
theorem dL_law_113 : decode cL_law 113 = .ok (.sipush (-1000), 3) := by decide +kernel
theorem dL_law_116 : decode cL_law 116 = .ok (.if_icmp .ge 15, 3) := by decide +kernel
theorem dL_law_119 : decode cL_law 119 = .ok (.aload_n 1, 1) := by decide +kernel
theorem dL_law_120 : decode cL_law 120 = .ok (.invokestatic 41, 3) := by decide +kernel
theorem dL_law_123 : decode cL_law 123 = .ok (.lload 5, 2) := by decide +kernel
theorem dL_law_125 : decode cL_law 125 = .ok (.lcmp, 1) := by decide +kernel
theorem dL_law_126 : decode cL_law 126 = .ok (.ifCond .eq 5, 3) := by decide +kernel
theorem dL_law_129 : decode cL_law 129 = .ok (.iconst 0, 1) := by decide +kernel
theorem dL_law_130 : decode cL_law 130 = .ok (.ireturn, 1) := by decide +kernel
theorem dL_law_131 : decode cL_law 131 = .ok (.iload 7, 2) := by decide +kernel
theorem dL_law_133 : decode cL_law 133 = .ok (.sipush (-1000), 3) := by decide +kernel
theorem dL_law_136 : decode cL_law 136 = .ok (.if_icmp .le 32, 3) := by decide +kernel
theorem dL_law_139 : decode cL_law 139 = .ok (.iload 4, 2) := by decide +kernel
theorem dL_law_141 : decode cL_law 141 = .ok (.bipush 28, 2) := by decide +kernel
theorem dL_law_143 : decode cL_law 143 = .ok (.ishr, 1) := by decide +kernel
theorem dL_law_144 : decode cL_law 144 = .ok (.iconst 3, 1) := by decide +kernel
theorem dL_law_145 : decode cL_law 145 = .ok (.iand, 1) := by decide +kernel
theorem dL_law_146 : decode cL_law 146 = .ok (.ifCond .ne 22, 3) := by decide +kernel
theorem dL_law_149 : decode cL_law 149 = .ok (.aload_n 1, 1) := by decide +kernel
theorem dL_law_150 : decode cL_law 150 = .ok (.invokevirtual 67, 3) := by decide +kernel
theorem dL_law_153 : decode cL_law 153 = .ok (.ifCond .lt 13, 3) := by decide +kernel
theorem dL_law_156 : decode cL_law 156 = .ok (.aload_n 1, 1) := by decide +kernel
theorem dL_law_157 : decode cL_law 157 = .ok (.invokestatic 41, 3) := by decide +kernel
theorem dL_law_160 : decode cL_law 160 = .ok (.lload 5, 2) := by decide +kernel
theorem dL_law_162 : decode cL_law 162 = .ok (.lcmp, 1) := by decide +kernel
theorem dL_law_163 : decode cL_law 163 = .ok (.ifCond .eq 5, 3) := by decide +kernel
theorem dL_law_166 : decode cL_law 166 = .ok (.iconst 0, 1) := by decide +kernel
theorem dL_law_167 : decode cL_law 167 = .ok (.ireturn, 1) := by decide +kernel
theorem dL_law_168 : decode cL_law 168 = .ok (.iload_n 3, 1) := by decide +kernel
theorem dL_law_169 : decode cL_law 169 = .ok (.iconst 3, 1) := by decide +kernel
theorem dL_law_170 : decode cL_law 170 = .ok (.irem, 1) := by decide +kernel
theorem dL_law_171 : decode cL_law 171 = .ok (.iconst 1, 1) := by decide +kernel
theorem dL_law_172 : decode cL_law 172 = .ok (.if_icmp .ne 10, 3) := by decide +kernel
theorem dL_law_175 : decode cL_law 175 = .ok (.aload_n 1, 1) := by decide +kernel
theorem dL_law_176 : decode cL_law 176 = .ok (.invokestatic 104, 3) := by decide +kernel
theorem dL_law_179 : decode cL_law 179 = .ok (.ifCond .eq 23, 3) := by decide +kernel
theorem dL_law_182 : decode cL_law 182 = .ok (.iload_n 3, 1) := by decide +kernel
theorem dL_law_183 : decode cL_law 183 = .ok (.bipush 6, 2) := by decide +kernel
theorem dL_law_185 : decode cL_law 185 = .ok (.irem, 1) := by decide +kernel
theorem dL_law_186 : decode cL_law 186 = .ok (.iconst 2, 1) := by decide +kernel
theorem dL_law_187 : decode cL_law 187 = .ok (.if_icmp .ne 17, 3) := by decide +kernel
theorem dL_law_190 : decode cL_law 190 = .ok (.aload_n 1, 1) := by decide +kernel
theorem dL_law_191 : decode cL_law 191 = .ok (.iload 4, 2) := by decide +kernel
theorem dL_law_193 : decode cL_law 193 = .ok (.bipush 7, 2) := by decide +kernel
theorem dL_law_195 : decode cL_law 195 = .ok (.ishr, 1) := by decide +kernel
theorem dL_law_196 : decode cL_law 196 = .ok (.invokestatic 108, 3) := by decide +kernel
theorem dL_law_199 : decode cL_law 199 = .ok (.ifCond .ne 5, 3) := by decide +kernel
theorem dL_law_202 : decode cL_law 202 = .ok (.iconst 0, 1) := by decide +kernel
theorem dL_law_203 : decode cL_law 203 = .ok (.ireturn, 1) := by decide +kernel
theorem dL_law_204 : decode cL_law 204 = .ok (.iinc 3 1, 3) := by decide +kernel
theorem dL_law_207 : decode cL_law 207 = .ok (.goto (-156), 3) := by decide +kernel
theorem dL_law_210 : decode cL_law 210 = .ok (.aload_n 1, 1) := by decide +kernel
theorem dL_law_211 : decode cL_law 211 = .ok (.iconst 1, 1) := by decide +kernel
theorem dL_law_212 : decode cL_law 212 = .ok (.invokevirtual 83, 3) := by decide +kernel
theorem dL_law_215 : decode cL_law 215 = .ok (.aload_n 1, 1) := by decide +kernel
theorem dL_law_216 : decode cL_law 216 = .ok (.iconst 0, 1) := by decide +kernel
theorem dL_law_217 : decode cL_law 217 = .ok (.invokevirtual 12, 3) := by decide +kernel
theorem dL_law_220 : decode cL_law 220 = .ok (.if_icmp .ne 14, 3) := by decide +kernel
theorem dL_law_223 : decode cL_law 223 = .ok (.aload_n 1, 1) := by decide +kernel
theorem dL_law_224 : decode cL_law 224 = .ok (.iconst 0, 1) := by decide +kernel
theorem dL_law_225 : decode cL_law 225 = .ok (.invokevirtual 12, 3) := by decide +kernel
theorem dL_law_228 : decode cL_law 228 = .ok (.sipush 4900, 3) := by decide +kernel
theorem dL_law_231 : decode cL_law 231 = .ok (.if_icmp .le 20, 3) := by decide +kernel
theorem dL_law_234 : decode cL_law 234 = .ok (.aload_n 1, 1) := by decide +kernel
theorem dL_law_235 : decode cL_law 235 = .ok (.iconst 0, 1) := by decide +kernel
theorem dL_law_236 : decode cL_law 236 = .ok (.invokevirtual 12, 3) := by decide +kernel
theorem dL_law_239 : decode cL_law 239 = .ok (.sipush 4900, 3) := by decide +kernel
theorem dL_law_242 : decode cL_law 242 = .ok (.if_icmp .le 7, 3) := by decide +kernel
theorem dL_law_245 : decode cL_law 245 = .ok (.iconst 1, 1) := by decide +kernel
theorem dL_law_246 : decode cL_law 246 = .ok (.goto 4, 3) := by decide +kernel
theorem dL_law_249 : decode cL_law 249 = .ok (.iconst 0, 1) := by decide +kernel
theorem dL_law_250 : decode cL_law 250 = .ok (.ireturn, 1) := by decide +kernel
theorem dL_law_251 : decode cL_law 251 = .ok (.aload_n 1, 1) := by decide +kernel
theorem dL_law_252 : decode cL_law 252 = .ok (.invokestatic 41, 3) := by decide +kernel
theorem dL_law_255 : decode cL_law 255 = .ok (.lstore_n 3, 1) := by decide +kernel
theorem dL_law_256 : decode cL_law 256 = .ok (.aload_n 1, 1) := by decide +kernel
theorem dL_law_257 : decode cL_law 257 = .ok (.bipush 9, 2) := by decide +kernel
theorem dL_law_259 : decode cL_law 259 = .ok (.invokevirtual 64, 3) := by decide +kernel
theorem dL_law_262 : decode cL_law 262 = .ok (.pop, 1) := by decide +kernel
theorem dL_law_263 : decode cL_law 263 = .ok (.aload_n 1, 1) := by decide +kernel
theorem dL_law_264 : decode cL_law 264 = .ok (.iconst 0, 1) := by decide +kernel
theorem dL_law_265 : decode cL_law 265 = .ok (.iconst 1, 1) := by decide +kernel
theorem dL_law_266 : decode cL_law 266 = .ok (.sipush 200, 3) := by decide +kernel
theorem dL_law_269 : decode cL_law 269 = .ok (.invokevirtual 74, 3) := by decide +kernel
theorem dL_law_272 : decode cL_law 272 = .ok (.pop, 1) := by decide +kernel
theorem dL_law_273 : decode cL_law 273 = .ok (.aload_n 1, 1) := by decide +kernel
theorem dL_law_274 : decode cL_law 274 = .ok (.iconst 3, 1) := by decide +kernel
theorem dL_law_275 : decode cL_law 275 = .ok (.iconst 5, 1) := by decide +kernel
theorem dL_law_276 : decode cL_law 276 = .ok (.invokevirtual 77, 3) := by decide +kernel
theorem dL_law_279 : decode cL_law 279 = .ok (.pop, 1) := by decide +kernel
theorem dL_law_280 : decode cL_law 280 = .ok (.aload_n 1, 1) := by decide +kernel
theorem dL_law_281 : decode cL_law 281 = .ok (.iconst 1, 1) := by decide +kernel
theorem dL_law_282 : decode cL_law 282 = .ok (.invokevirtual 86, 3) := by decide +kernel
theorem dL_law_285 : decode cL_law 285 = .ok (.aload_n 1, 1) := by decide +kernel
theorem dL_law_286 : decode cL_law 286 = .ok (.iconst 0, 1) := by decide +kernel
theorem dL_law_287 : decode cL_law 287 = .ok (.invokevirtual 12, 3) := by decide +kernel
theorem dL_law_290 : decode cL_law 290 = .ok (.if_icmp .ne 143, 3) := by decide +kernel
theorem dL_law_293 : decode cL_law 293 = .ok (.aload_n 1, 1) := by decide +kernel
theorem dL_law_294 : decode cL_law 294 = .ok (.invokestatic 41, 3) := by decide +kernel
theorem dL_law_297 : decode cL_law 297 = .ok (.lload_n 3, 1) := by decide +kernel
theorem dL_law_298 : decode cL_law 298 = .ok (.lcmp, 1) := by decide +kernel
theorem dL_law_299 : decode cL_law 299 = .ok (.ifCond .ne 134, 3) := by decide +kernel
theorem dL_law_302 : decode cL_law 302 = .ok (.aload_n 1, 1) := by decide +kernel
theorem dL_law_303 : decode cL_law 303 = .ok (.invokevirtual 67, 3) := by decide +kernel
theorem dL_law_306 : decode cL_law 306 = .ok (.ifCond .lt 127, 3) := by decide +kernel
theorem dL_law_309 : decode cL_law 309 = .ok (.aload_n 1, 1) := by decide +kernel
theorem dL_law_310 : decode cL_law 310 = .ok (.iconst 1, 1) := by decide +kernel
theorem dL_law_311 : decode cL_law 311 = .ok (.invokevirtual 86, 3) := by decide +kernel
theorem dL_law_314 : decode cL_law 314 = .ok (.ifCond .lt 119, 3) := by decide +kernel
theorem dL_law_317 : decode cL_law 317 = .ok (.aload_n 1, 1) := by decide +kernel
theorem dL_law_318 : decode cL_law 318 = .ok (.invokestatic 41, 3) := by decide +kernel
theorem dL_law_321 : decode cL_law 321 = .ok (.lload_n 3, 1) := by decide +kernel
theorem dL_law_322 : decode cL_law 322 = .ok (.lcmp, 1) := by decide +kernel
theorem dL_law_323 : decode cL_law 323 = .ok (.ifCond .ne 110, 3) := by decide +kernel
theorem dL_law_326 : decode cL_law 326 = .ok (.aload_n 1, 1) := by decide +kernel
theorem dL_law_327 : decode cL_law 327 = .ok (.iconst 2, 1) := by decide +kernel
theorem dL_law_328 : decode cL_law 328 = .ok (.invokevirtual 83, 3) := by decide +kernel
theorem dL_law_331 : decode cL_law 331 = .ok (.sipush (-1001), 3) := by decide +kernel
theorem dL_law_334 : decode cL_law 334 = .ok (.if_icmp .ne 99, 3) := by decide +kernel
theorem dL_law_337 : decode cL_law 337 = .ok (.aload_n 1, 1) := by decide +kernel
theorem dL_law_338 : decode cL_law 338 = .ok (.iconst (-1), 1) := by decide +kernel
theorem dL_law_339 : decode cL_law 339 = .ok (.invokevirtual 86, 3) := by decide +kernel
theorem dL_law_342 : decode cL_law 342 = .ok (.sipush (-1001), 3) := by decide +kernel
theorem dL_law_345 : decode cL_law 345 = .ok (.if_icmp .ne 88, 3) := by decide +kernel
theorem dL_law_348 : decode cL_law 348 = .ok (.aload_n 1, 1) := by decide +kernel
theorem dL_law_349 : decode cL_law 349 = .ok (.bipush 30, 2) := by decide +kernel
theorem dL_law_351 : decode cL_law 351 = .ok (.iconst 0, 1) := by decide +kernel
theorem dL_law_352 : decode cL_law 352 = .ok (.invokevirtual 25, 3) := by decide +kernel
theorem dL_law_355 : decode cL_law 355 = .ok (.sipush (-1001), 3) := by decide +kernel
theorem dL_law_358 : decode cL_law 358 = .ok (.if_icmp .ne 75, 3) := by decide +kernel
theorem dL_law_361 : decode cL_law 361 = .ok (.aload_n 1, 1) := by decide +kernel
theorem dL_law_362 : decode cL_law 362 = .ok (.bipush 16, 2) := by decide +kernel
theorem dL_law_364 : decode cL_law 364 = .ok (.invokevirtual 12, 3) := by decide +kernel
theorem dL_law_367 : decode cL_law 367 = .ok (.sipush (-1001), 3) := by decide +kernel
theorem dL_law_370 : decode cL_law 370 = .ok (.if_icmp .ne 63, 3) := by decide +kernel
theorem dL_law_373 : decode cL_law 373 = .ok (.aload_n 1, 1) := by decide +kernel
theorem dL_law_374 : decode cL_law 374 = .ok (.iconst 5, 1) := by decide +kernel
theorem dL_law_375 : decode cL_law 375 = .ok (.iconst 0, 1) := by decide +kernel
theorem dL_law_376 : decode cL_law 376 = .ok (.invokevirtual 32, 3) := by decide +kernel
theorem dL_law_379 : decode cL_law 379 = .ok (.sipush (-1001), 3) := by decide +kernel
theorem dL_law_382 : decode cL_law 382 = .ok (.if_icmp .ne 51, 3) := by decide +kernel
theorem dL_law_385 : decode cL_law 385 = .ok (.aload_n 1, 1) := by decide +kernel
theorem dL_law_386 : decode cL_law 386 = .ok (.bipush 30, 2) := by decide +kernel
theorem dL_law_388 : decode cL_law 388 = .ok (.iconst 0, 1) := by decide +kernel
theorem dL_law_389 : decode cL_law 389 = .ok (.invokevirtual 61, 3) := by decide +kernel
theorem dL_law_392 : decode cL_law 392 = .ok (.sipush (-1001), 3) := by decide +kernel
theorem dL_law_395 : decode cL_law 395 = .ok (.if_icmp .ne 38, 3) := by decide +kernel
theorem dL_law_398 : decode cL_law 398 = .ok (.aload_n 1, 1) := by decide +kernel
theorem dL_law_399 : decode cL_law 399 = .ok (.iconst 4, 1) := by decide +kernel
theorem dL_law_400 : decode cL_law 400 = .ok (.invokevirtual 51, 3) := by decide +kernel
theorem dL_law_403 : decode cL_law 403 = .ok (.sipush (-1001), 3) := by decide +kernel
theorem dL_law_406 : decode cL_law 406 = .ok (.if_icmp .ne 27, 3) := by decide +kernel
theorem dL_law_409 : decode cL_law 409 = .ok (.aload_n 1, 1) := by decide +kernel
theorem dL_law_410 : decode cL_law 410 = .ok (.iconst 0, 1) := by decide +kernel
theorem dL_law_411 : decode cL_law 411 = .ok (.iconst 1, 1) := by decide +kernel
theorem dL_law_412 : decode cL_law 412 = .ok (.iconst 4, 1) := by decide +kernel
theorem dL_law_413 : decode cL_law 413 = .ok (.invokevirtual 48, 3) := by decide +kernel
theorem dL_law_416 : decode cL_law 416 = .ok (.sipush (-1001), 3) := by decide +kernel
theorem dL_law_419 : decode cL_law 419 = .ok (.if_icmp .ne 14, 3) := by decide +kernel
theorem dL_law_422 : decode cL_law 422 = .ok (.aload_n 1, 1) := by decide +kernel
theorem dL_law_423 : decode cL_law 423 = .ok (.invokevirtual 111, 3) := by decide +kernel
theorem dL_law_426 : decode cL_law 426 = .ok (.ifCond .lt 7, 3) := by decide +kernel
theorem dL_law_429 : decode cL_law 429 = .ok (.iconst 1, 1) := by decide +kernel
theorem dL_law_430 : decode cL_law 430 = .ok (.goto 4, 3) := by decide +kernel
theorem dL_law_433 : decode cL_law 433 = .ok (.iconst 0, 1) := by decide +kernel
theorem dL_law_434 : decode cL_law 434 = .ok (.ireturn, 1) := by decide +kernel
theorem dJ13_bitCount_95d88_0 : decode cJ13_bitCount_95d88 0 = .ok (.lload_n 0, 1) := by decide +kernel
theorem dJ13_bitCount_95d88_1 : decode cJ13_bitCount_95d88 1 = .ok (.lload_n 0, 1) := by decide +kernel
theorem dJ13_bitCount_95d88_2 : decode cJ13_bitCount_95d88 2 = .ok (.iconst 1, 1) := by decide +kernel
theorem dJ13_bitCount_95d88_3 : decode cJ13_bitCount_95d88 3 = .ok (.lushr, 1) := by decide +kernel
theorem dJ13_bitCount_95d88_4 : decode cJ13_bitCount_95d88 4 = .ok (.ldc2_w 314, 3) := by decide +kernel
theorem dJ13_bitCount_95d88_7 : decode cJ13_bitCount_95d88 7 = .ok (.land, 1) := by decide +kernel
theorem dJ13_bitCount_95d88_8 : decode cJ13_bitCount_95d88 8 = .ok (.lsub, 1) := by decide +kernel
theorem dJ13_bitCount_95d88_9 : decode cJ13_bitCount_95d88 9 = .ok (.lstore_n 0, 1) := by decide +kernel
theorem dJ13_bitCount_95d88_10 : decode cJ13_bitCount_95d88 10 = .ok (.lload_n 0, 1) := by decide +kernel
theorem dJ13_bitCount_95d88_11 : decode cJ13_bitCount_95d88 11 = .ok (.ldc2_w 316, 3) := by decide +kernel
theorem dJ13_bitCount_95d88_14 : decode cJ13_bitCount_95d88 14 = .ok (.land, 1) := by decide +kernel
theorem dJ13_bitCount_95d88_15 : decode cJ13_bitCount_95d88 15 = .ok (.lload_n 0, 1) := by decide +kernel
theorem dJ13_bitCount_95d88_16 : decode cJ13_bitCount_95d88 16 = .ok (.iconst 2, 1) := by decide +kernel
theorem dJ13_bitCount_95d88_17 : decode cJ13_bitCount_95d88 17 = .ok (.lushr, 1) := by decide +kernel
theorem dJ13_bitCount_95d88_18 : decode cJ13_bitCount_95d88 18 = .ok (.ldc2_w 316, 3) := by decide +kernel
theorem dJ13_bitCount_95d88_21 : decode cJ13_bitCount_95d88 21 = .ok (.land, 1) := by decide +kernel
theorem dJ13_bitCount_95d88_22 : decode cJ13_bitCount_95d88 22 = .ok (.ladd, 1) := by decide +kernel
theorem dJ13_bitCount_95d88_23 : decode cJ13_bitCount_95d88 23 = .ok (.lstore_n 0, 1) := by decide +kernel
theorem dJ13_bitCount_95d88_24 : decode cJ13_bitCount_95d88 24 = .ok (.lload_n 0, 1) := by decide +kernel
theorem dJ13_bitCount_95d88_25 : decode cJ13_bitCount_95d88 25 = .ok (.lload_n 0, 1) := by decide +kernel
theorem dJ13_bitCount_95d88_26 : decode cJ13_bitCount_95d88 26 = .ok (.iconst 4, 1) := by decide +kernel
theorem dJ13_bitCount_95d88_27 : decode cJ13_bitCount_95d88 27 = .ok (.lushr, 1) := by decide +kernel
theorem dJ13_bitCount_95d88_28 : decode cJ13_bitCount_95d88 28 = .ok (.ladd, 1) := by decide +kernel
theorem dJ13_bitCount_95d88_29 : decode cJ13_bitCount_95d88 29 = .ok (.ldc2_w 318, 3) := by decide +kernel
theorem dJ13_bitCount_95d88_32 : decode cJ13_bitCount_95d88 32 = .ok (.land, 1) := by decide +kernel
theorem dJ13_bitCount_95d88_33 : decode cJ13_bitCount_95d88 33 = .ok (.lstore_n 0, 1) := by decide +kernel
theorem dJ13_bitCount_95d88_34 : decode cJ13_bitCount_95d88 34 = .ok (.lload_n 0, 1) := by decide +kernel
theorem dJ13_bitCount_95d88_35 : decode cJ13_bitCount_95d88 35 = .ok (.lload_n 0, 1) := by decide +kernel
theorem dJ13_bitCount_95d88_36 : decode cJ13_bitCount_95d88 36 = .ok (.bipush 8, 2) := by decide +kernel
theorem dJ13_bitCount_95d88_38 : decode cJ13_bitCount_95d88 38 = .ok (.lushr, 1) := by decide +kernel
theorem dJ13_bitCount_95d88_39 : decode cJ13_bitCount_95d88 39 = .ok (.ladd, 1) := by decide +kernel
theorem dJ13_bitCount_95d88_40 : decode cJ13_bitCount_95d88 40 = .ok (.lstore_n 0, 1) := by decide +kernel
theorem dJ13_bitCount_95d88_41 : decode cJ13_bitCount_95d88 41 = .ok (.lload_n 0, 1) := by decide +kernel
theorem dJ13_bitCount_95d88_42 : decode cJ13_bitCount_95d88 42 = .ok (.lload_n 0, 1) := by decide +kernel
theorem dJ13_bitCount_95d88_43 : decode cJ13_bitCount_95d88 43 = .ok (.bipush 16, 2) := by decide +kernel
theorem dJ13_bitCount_95d88_45 : decode cJ13_bitCount_95d88 45 = .ok (.lushr, 1) := by decide +kernel
theorem dJ13_bitCount_95d88_46 : decode cJ13_bitCount_95d88 46 = .ok (.ladd, 1) := by decide +kernel
theorem dJ13_bitCount_95d88_47 : decode cJ13_bitCount_95d88 47 = .ok (.lstore_n 0, 1) := by decide +kernel
theorem dJ13_bitCount_95d88_48 : decode cJ13_bitCount_95d88 48 = .ok (.lload_n 0, 1) := by decide +kernel
theorem dJ13_bitCount_95d88_49 : decode cJ13_bitCount_95d88 49 = .ok (.lload_n 0, 1) := by decide +kernel
theorem dJ13_bitCount_95d88_50 : decode cJ13_bitCount_95d88 50 = .ok (.bipush 32, 2) := by decide +kernel
theorem dJ13_bitCount_95d88_52 : decode cJ13_bitCount_95d88 52 = .ok (.lushr, 1) := by decide +kernel
theorem dJ13_bitCount_95d88_53 : decode cJ13_bitCount_95d88 53 = .ok (.ladd, 1) := by decide +kernel
theorem dJ13_bitCount_95d88_54 : decode cJ13_bitCount_95d88 54 = .ok (.lstore_n 0, 1) := by decide +kernel
theorem dJ13_bitCount_95d88_55 : decode cJ13_bitCount_95d88 55 = .ok (.lload_n 0, 1) := by decide +kernel
theorem dJ13_bitCount_95d88_56 : decode cJ13_bitCount_95d88 56 = .ok (.l2i, 1) := by decide +kernel
theorem dJ13_bitCount_95d88_57 : decode cJ13_bitCount_95d88 57 = .ok (.bipush 127, 2) := by decide +kernel
theorem dJ13_bitCount_95d88_59 : decode cJ13_bitCount_95d88 59 = .ok (.iand, 1) := by decide +kernel
theorem dJ13_bitCount_95d88_60 : decode cJ13_bitCount_95d88 60 = .ok (.ireturn, 1) := by decide +kernel
theorem dJ9_max_7cf53_0 : decode cJ9_max_7cf53 0 = .ok (.iload_n 0, 1) := by decide +kernel
theorem dJ9_max_7cf53_1 : decode cJ9_max_7cf53 1 = .ok (.iload_n 1, 1) := by decide +kernel
theorem dJ9_max_7cf53_2 : decode cJ9_max_7cf53 2 = .ok (.if_icmp .lt 7, 3) := by decide +kernel
theorem dJ9_max_7cf53_5 : decode cJ9_max_7cf53 5 = .ok (.iload_n 0, 1) := by decide +kernel
theorem dJ9_max_7cf53_6 : decode cJ9_max_7cf53 6 = .ok (.goto 4, 3) := by decide +kernel
theorem dJ9_max_7cf53_9 : decode cJ9_max_7cf53 9 = .ok (.iload_n 1, 1) := by decide +kernel
theorem dJ9_max_7cf53_10 : decode cJ9_max_7cf53 10 = .ok (.ireturn, 1) := by decide +kernel
theorem dJ9_min_7cf53_0 : decode cJ9_min_7cf53 0 = .ok (.iload_n 0, 1) := by decide +kernel
theorem dJ9_min_7cf53_1 : decode cJ9_min_7cf53 1 = .ok (.iload_n 1, 1) := by decide +kernel
theorem dJ9_min_7cf53_2 : decode cJ9_min_7cf53 2 = .ok (.if_icmp .gt 7, 3) := by decide +kernel
theorem dJ9_min_7cf53_5 : decode cJ9_min_7cf53 5 = .ok (.iload_n 0, 1) := by decide +kernel
theorem dJ9_min_7cf53_6 : decode cJ9_min_7cf53 6 = .ok (.goto 4, 3) := by decide +kernel
theorem dJ9_min_7cf53_9 : decode cJ9_min_7cf53 9 = .ok (.iload_n 1, 1) := by decide +kernel
theorem dJ9_min_7cf53_10 : decode cJ9_min_7cf53 10 = .ok (.ireturn, 1) := by decide +kernel
