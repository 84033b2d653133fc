theorem dL_below_0 : decode cL_below 0 = .ok (.iload_n 0, 1) := by decide +kernel
theorem dL_below_1 : decode cL_below 1 = .ok (.ldc 7, 2) := by decide +kernel
theorem dL_below_3 : decode cL_below 3 = .ok (.iand, 1) := by decide +kernel
theorem dL_below_4 : decode cL_below 4 = .ok (.iload_n 1, 1) := by decide +kernel
theorem dL_below_5 : decode cL_below 5 = .ok (.irem, 1) := by decide +kernel
theorem dL_below_6 : decode cL_below 6 = .ok (.ireturn, 1) := by decide +kernel
theorem dL_cell_0 : decode cL_cell 0 = .ok (.iload_n 1, 1) := by decide +kernel
theorem dL_cell_1 : decode cL_cell 1 = .ok (.aload_n 0, 1) := by decide +kernel
theorem dL_cell_2 : decode cL_cell 2 = .ok (.arraylength, 1) := by decide +kernel
theorem dL_cell_3 : decode cL_cell 3 = .ok (.if_icmp .ge 9, 3) := by decide +kernel
theorem dL_cell_6 : decode cL_cell 6 = .ok (.aload_n 0, 1) := by decide +kernel
theorem dL_cell_7 : decode cL_cell 7 = .ok (.iload_n 1, 1) := by decide +kernel
theorem dL_cell_8 : decode cL_cell 8 = .ok (.iaload, 1) := by decide +kernel
theorem dL_cell_9 : decode cL_cell 9 = .ok (.goto 9, 3) := by decide +kernel
theorem dL_cell_12 : decode cL_cell 12 = .ok (.ldc 8, 2) := by decide +kernel
theorem dL_cell_14 : decode cL_cell 14 = .ok (.iload_n 1, 1) := by decide +kernel
theorem dL_cell_15 : decode cL_cell 15 = .ok (.iconst 3, 1) := by decide +kernel
theorem dL_cell_16 : decode cL_cell 16 = .ok (.iadd, 1) := by decide +kernel
theorem dL_cell_17 : decode cL_cell 17 = .ok (.imul, 1) := by decide +kernel
theorem dL_cell_18 : decode cL_cell 18 = .ok (.ireturn, 1) := by decide +kernel
theorem dL_act_0 : decode cL_act 0 = .ok (.aload_n 1, 1) := by decide +kernel
theorem dL_act_1 : decode cL_act 1 = .ok (.getfield 9, 3) := by decide +kernel
theorem dL_act_4 : decode cL_act 4 = .ok (.arraylength, 1) := by decide +kernel
theorem dL_act_5 : decode cL_act 5 = .ok (.istore_n 3, 1) := by decide +kernel
theorem dL_act_6 : decode cL_act 6 = .ok (.iload_n 3, 1) := by decide +kernel
theorem dL_act_7 : decode cL_act 7 = .ok (.ifCond .ne 7, 3) := by decide +kernel
theorem dL_act_10 : decode cL_act 10 = .ok (.iconst 0, 1) := by decide +kernel
theorem dL_act_11 : decode cL_act 11 = .ok (.goto 10, 3) := by decide +kernel
theorem dL_act_14 : decode cL_act 14 = .ok (.iload_n 2, 1) := by decide +kernel
theorem dL_act_15 : decode cL_act 15 = .ok (.iconst 5, 1) := by decide +kernel
theorem dL_act_16 : decode cL_act 16 = .ok (.ishr, 1) := by decide +kernel
theorem dL_act_17 : decode cL_act 17 = .ok (.iload_n 3, 1) := by decide +kernel
theorem dL_act_18 : decode cL_act 18 = .ok (.invokestatic 15, 3) := by decide +kernel
theorem dL_act_21 : decode cL_act 21 = .ok (.istore 4, 2) := by decide +kernel
theorem dL_act_23 : decode cL_act 23 = .ok (.iconst 1, 1) := by decide +kernel
theorem dL_act_24 : decode cL_act 24 = .ok (.istore 5, 2) := by decide +kernel
theorem dL_act_26 : decode cL_act 26 = .ok (.iload_n 3, 1) := by decide +kernel
theorem dL_act_27 : decode cL_act 27 = .ok (.ifCond .ne 7, 3) := by decide +kernel
theorem dL_act_30 : decode cL_act 30 = .ok (.iconst 0, 1) := by decide +kernel
theorem dL_act_31 : decode cL_act 31 = .ok (.goto 9, 3) := by decide +kernel
theorem dL_act_34 : decode cL_act 34 = .ok (.iload_n 2, 1) := by decide +kernel
theorem dL_act_35 : decode cL_act 35 = .ok (.bipush 14, 2) := by decide +kernel
theorem dL_act_37 : decode cL_act 37 = .ok (.invokestatic 15, 3) := by decide +kernel
theorem dL_act_40 : decode cL_act 40 = .ok (.tableswitch 420 0 7 #[48, 48, 135, 188, 243, 281, 318, 318], 48) := by decide +kernel
theorem dL_act_88 : decode cL_act 88 = .ok (.iload_n 3, 1) := by decide +kernel
theorem dL_act_89 : decode cL_act 89 = .ok (.bipush 8, 2) := by decide +kernel
theorem dL_act_91 : decode cL_act 91 = .ok (.if_icmp .ge 7, 3) := by decide +kernel
theorem dL_act_94 : decode cL_act 94 = .ok (.iconst 1, 1) := by decide +kernel
theorem dL_act_95 : decode cL_act 95 = .ok (.goto 4, 3) := by decide +kernel
theorem dL_act_98 : decode cL_act 98 = .ok (.iconst 0, 1) := by decide +kernel
theorem dL_act_99 : decode cL_act 99 = .ok (.istore 5, 2) := by decide +kernel
theorem dL_act_101 : decode cL_act 101 = .ok (.iconst 1, 1) := by decide +kernel
theorem dL_act_102 : decode cL_act 102 = .ok (.iload_n 2, 1) := by decide +kernel
theorem dL_act_103 : decode cL_act 103 = .ok (.iconst 4, 1) := by decide +kernel
theorem dL_act_104 : decode cL_act 104 = .ok (.ishr, 1) := by decide +kernel
theorem dL_act_105 : decode cL_act 105 = .ok (.bipush 30, 2) := by decide +kernel
theorem dL_act_107 : decode cL_act 107 = .ok (.invokestatic 15, 3) := by decide +kernel
theorem dL_act_110 : decode cL_act 110 = .ok (.iadd, 1) := by decide +kernel
theorem dL_act_111 : decode cL_act 111 = .ok (.istore 6, 2) := by decide +kernel
theorem dL_act_113 : decode cL_act 113 = .ok (.iload_n 2, 1) := by decide +kernel
theorem dL_act_114 : decode cL_act 114 = .ok (.bipush 7, 2) := by decide +kernel
theorem dL_act_116 : decode cL_act 116 = .ok (.ishr, 1) := by decide +kernel
theorem dL_act_117 : decode cL_act 117 = .ok (.bipush 6, 2) := by decide +kernel
theorem dL_act_119 : decode cL_act 119 = .ok (.invokestatic 15, 3) := by decide +kernel
theorem dL_act_122 : decode cL_act 122 = .ok (.istore 7, 2) := by decide +kernel
theorem dL_act_124 : decode cL_act 124 = .ok (.iload_n 2, 1) := by decide +kernel
theorem dL_act_125 : decode cL_act 125 = .ok (.bipush 6, 2) := by decide +kernel
theorem dL_act_127 : decode cL_act 127 = .ok (.ishr, 1) := by decide +kernel
theorem dL_act_128 : decode cL_act 128 = .ok (.bipush 10, 2) := by decide +kernel
theorem dL_act_130 : decode cL_act 130 = .ok (.invokestatic 15, 3) := by decide +kernel
theorem dL_act_133 : decode cL_act 133 = .ok (.istore 8, 2) := by decide +kernel
theorem dL_act_135 : decode cL_act 135 = .ok (.iload 5, 2) := by decide +kernel
theorem dL_act_137 : decode cL_act 137 = .ok (.ifCond .eq 13, 3) := by decide +kernel
theorem dL_act_140 : decode cL_act 140 = .ok (.aload_n 1, 1) := by decide +kernel
theorem dL_act_141 : decode cL_act 141 = .ok (.iload 6, 2) := by decide +kernel
theorem dL_act_143 : decode cL_act 143 = .ok (.iload 7, 2) := by decide +kernel
theorem dL_act_145 : decode cL_act 145 = .ok (.iload 8, 2) := by decide +kernel
theorem dL_act_147 : decode cL_act 147 = .ok (.invokevirtual 21, 3) := by decide +kernel
theorem dL_act_150 : decode cL_act 150 = .ok (.aload_n 0, 1) := by decide +kernel
theorem dL_act_151 : decode cL_act 151 = .ok (.iload 6, 2) := by decide +kernel
theorem dL_act_153 : decode cL_act 153 = .ok (.iload 7, 2) := by decide +kernel
theorem dL_act_155 : decode cL_act 155 = .ok (.iload 8, 2) := by decide +kernel
theorem dL_act_157 : decode cL_act 157 = .ok (.invokevirtual 25, 3) := by decide +kernel
theorem dL_act_160 : decode cL_act 160 = .ok (.iload_n 3, 1) := by decide +kernel
theorem dL_act_161 : decode cL_act 161 = .ok (.if_icmp .ne 12, 3) := by decide +kernel
theorem dL_act_164 : decode cL_act 164 = .ok (.iload 5, 2) := by decide +kernel
theorem dL_act_166 : decode cL_act 166 = .ok (.ifCond .eq 7, 3) := by decide +kernel
theorem dL_act_169 : decode cL_act 169 = .ok (.iconst 1, 1) := by decide +kernel
theorem dL_act_170 : decode cL_act 170 = .ok (.goto 4, 3) := by decide +kernel
theorem dL_act_173 : decode cL_act 173 = .ok (.iconst 0, 1) := by decide +kernel
theorem dL_act_174 : decode cL_act 174 = .ok (.ireturn, 1) := by decide +kernel
theorem dL_act_175 : decode cL_act 175 = .ok (.aload_n 1, 1) := by decide +kernel
theorem dL_act_176 : decode cL_act 176 = .ok (.getfield 9, 3) := by decide +kernel
theorem dL_act_179 : decode cL_act 179 = .ok (.iload 4, 2) := by decide +kernel
theorem dL_act_181 : decode cL_act 181 = .ok (.aaload, 1) := by decide +kernel
theorem dL_act_182 : decode cL_act 182 = .ok (.iconst 4, 1) := by decide +kernel
theorem dL_act_183 : decode cL_act 183 = .ok (.iconst 1, 1) := by decide +kernel
theorem dL_act_184 : decode cL_act 184 = .ok (.aload_n 1, 1) := by decide +kernel
theorem dL_act_185 : decode cL_act 185 = .ok (.getfield 9, 3) := by decide +kernel
theorem dL_act_188 : decode cL_act 188 = .ok (.iload 4, 2) := by decide +kernel
theorem dL_act_190 : decode cL_act 190 = .ok (.aaload, 1) := by decide +kernel
theorem dL_act_191 : decode cL_act 191 = .ok (.iconst 4, 1) := by decide +kernel
theorem dL_act_192 : decode cL_act 192 = .ok (.iaload, 1) := by decide +kernel
theorem dL_act_193 : decode cL_act 193 = .ok (.isub, 1) := by decide +kernel
theorem dL_act_194 : decode cL_act 194 = .ok (.iastore, 1) := by decide +kernel
theorem dL_act_195 : decode cL_act 195 = .ok (.aload_n 0, 1) := by decide +kernel
theorem dL_act_196 : decode cL_act 196 = .ok (.iload 4, 2) := by decide +kernel
theorem dL_act_198 : decode cL_act 198 = .ok (.invokevirtual 31, 3) := by decide +kernel
theorem dL_act_201 : decode cL_act 201 = .ok (.aload_n 1, 1) := by decide +kernel
theorem dL_act_202 : decode cL_act 202 = .ok (.getfield 9, 3) := by decide +kernel
theorem dL_act_205 : decode cL_act 205 = .ok (.iload 4, 2) := by decide +kernel
theorem dL_act_207 : decode cL_act 207 = .ok (.aaload, 1) := by decide +kernel
theorem dL_act_208 : decode cL_act 208 = .ok (.iconst 4, 1) := by decide +kernel
theorem dL_act_209 : decode cL_act 209 = .ok (.iaload, 1) := by decide +kernel
theorem dL_act_210 : decode cL_act 210 = .ok (.iconst 1, 1) := by decide +kernel
theorem dL_act_211 : decode cL_act 211 = .ok (.if_icmp .ne 7, 3) := by decide +kernel
theorem dL_act_214 : decode cL_act 214 = .ok (.iconst 1, 1) := by decide +kernel
theorem dL_act_215 : decode cL_act 215 = .ok (.goto 4, 3) := by decide +kernel
theorem dL_act_218 : decode cL_act 218 = .ok (.iconst 0, 1) := by decide +kernel
theorem dL_act_219 : decode cL_act 219 = .ok (.if_icmp .ne 7, 3) := by decide +kernel
theorem dL_act_222 : decode cL_act 222 = .ok (.iconst 1, 1) := by decide +kernel
theorem dL_act_223 : decode cL_act 223 = .ok (.goto 4, 3) := by decide +kernel
theorem dL_act_226 : decode cL_act 226 = .ok (.iconst 0, 1) := by decide +kernel
theorem dL_act_227 : decode cL_act 227 = .ok (.ireturn, 1) := by decide +kernel
theorem dL_act_228 : decode cL_act 228 = .ok (.aload_n 1, 1) := by decide +kernel
theorem dL_act_229 : decode cL_act 229 = .ok (.getfield 9, 3) := by decide +kernel
theorem dL_act_232 : decode cL_act 232 = .ok (.iload 4, 2) := by decide +kernel
theorem dL_act_234 : decode cL_act 234 = .ok (.aaload, 1) := by decide +kernel
theorem dL_act_235 : decode cL_act 235 = .ok (.iconst 2, 1) := by decide +kernel
theorem dL_act_236 : decode cL_act 236 = .ok (.iaload, 1) := by decide +kernel
theorem dL_act_237 : decode cL_act 237 = .ok (.istore 6, 2) := by decide +kernel
theorem dL_act_239 : decode cL_act 239 = .ok (.aload_n 1, 1) := by decide +kernel
theorem dL_act_240 : decode cL_act 240 = .ok (.getfield 9, 3) := by decide +kernel
theorem dL_act_243 : decode cL_act 243 = .ok (.iload 4, 2) := by decide +kernel
theorem dL_act_245 : decode cL_act 245 = .ok (.aaload, 1) := by decide +kernel
theorem dL_act_246 : decode cL_act 246 = .ok (.iconst 2, 1) := by decide +kernel
theorem dL_act_247 : decode cL_act 247 = .ok (.iload_n 2, 1) := by decide +kernel
theorem dL_act_248 : decode cL_act 248 = .ok (.bipush 7, 2) := by decide +kernel
theorem dL_act_250 : decode cL_act 250 = .ok (.ishr, 1) := by decide +kernel
theorem dL_act_251 : decode cL_act 251 = .ok (.bipush 10, 2) := by decide +kernel
theorem dL_act_253 : decode cL_act 253 = .ok (.invokestatic 15, 3) := by decide +kernel
theorem dL_act_256 : decode cL_act 256 = .ok (.iastore, 1) := by decide +kernel
theorem dL_act_257 : decode cL_act 257 = .ok (.aload_n 0, 1) := by decide +kernel
theorem dL_act_258 : decode cL_act 258 = .ok (.iload 4, 2) := by decide +kernel
theorem dL_act_260 : decode cL_act 260 = .ok (.aload_n 1, 1) := by decide +kernel
theorem dL_act_261 : decode cL_act 261 = .ok (.getfield 9, 3) := by decide +kernel
theorem dL_act_264 : decode cL_act 264 = .ok (.iload 4, 2) := by decide +kernel
theorem dL_act_266 : decode cL_act 266 = .ok (.aaload, 1) := by decide +kernel
theorem dL_act_267 : decode cL_act 267 = .ok (.iconst 2, 1) := by decide +kernel
theorem dL_act_268 : decode cL_act 268 = .ok (.iaload, 1) := by decide +kernel
theorem dL_act_269 : decode cL_act 269 = .ok (.invokevirtual 35, 3) := by decide +kernel
theorem dL_act_272 : decode cL_act 272 = .ok (.iload 6, 2) := by decide +kernel
theorem dL_act_274 : decode cL_act 274 = .ok (.if_icmp .ne 7, 3) := by decide +kernel
theorem dL_act_277 : decode cL_act 277 = .ok (.iconst 1, 1) := by decide +kernel
theorem dL_act_278 : decode cL_act 278 = .ok (.goto 4, 3) := by decide +kernel
theorem dL_act_281 : decode cL_act 281 = .ok (.iconst 0, 1) := by decide +kernel
theorem dL_act_282 : decode cL_act 282 = .ok (.ireturn, 1) := by decide +kernel
theorem dL_act_283 : decode cL_act 283 = .ok (.aload_n 1, 1) := by decide +kernel
theorem dL_act_284 : decode cL_act 284 = .ok (.getfield 9, 3) := by decide +kernel
theorem dL_act_287 : decode cL_act 287 = .ok (.iload 4, 2) := by decide +kernel
theorem dL_act_289 : decode cL_act 289 = .ok (.aaload, 1) := by decide +kernel
theorem dL_act_290 : decode cL_act 290 = .ok (.iconst 3, 1) := by decide +kernel
theorem dL_act_291 : decode cL_act 291 = .ok (.iaload, 1) := by decide +kernel
theorem dL_act_292 : decode cL_act 292 = .ok (.istore 6, 2) := by decide +kernel
theorem dL_act_294 : decode cL_act 294 = .ok (.aload_n 1, 1) := by decide +kernel
theorem dL_act_295 : decode cL_act 295 = .ok (.getfield 9, 3) := by decide +kernel
theorem dL_act_298 : decode cL_act 298 = .ok (.iload 4, 2) := by decide +kernel
theorem dL_act_300 : decode cL_act 300 = .ok (.aaload, 1) := by decide +kernel
theorem dL_act_301 : decode cL_act 301 = .ok (.iconst 3, 1) := by decide +kernel
theorem dL_act_302 : decode cL_act 302 = .ok (.iconst 0, 1) := by decide +kernel
theorem dL_act_303 : decode cL_act 303 = .ok (.iastore, 1) := by decide +kernel
theorem dL_act_304 : decode cL_act 304 = .ok (.aload_n 0, 1) := by decide +kernel
theorem dL_act_305 : decode cL_act 305 = .ok (.iload 4, 2) := by decide +kernel
theorem dL_act_307 : decode cL_act 307 = .ok (.invokevirtual 38, 3) := by decide +kernel
theorem dL_act_310 : decode cL_act 310 = .ok (.iload 6, 2) := by decide +kernel
theorem dL_act_312 : decode cL_act 312 = .ok (.if_icmp .ne 7, 3) := by decide +kernel
theorem dL_act_315 : decode cL_act 315 = .ok (.iconst 1, 1) := by decide +kernel
theorem dL_act_316 : decode cL_act 316 = .ok (.goto 4, 3) := by decide +kernel
theorem dL_act_319 : decode cL_act 319 = .ok (.iconst 0, 1) := by decide +kernel
theorem dL_act_320 : decode cL_act 320 = .ok (.ireturn, 1) := by decide +kernel
theorem dL_act_321 : decode cL_act 321 = .ok (.aload_n 1, 1) := by decide +kernel
theorem dL_act_322 : decode cL_act 322 = .ok (.getfield 42, 3) := by decide +kernel
theorem dL_act_325 : decode cL_act 325 = .ok (.istore 6, 2) := by decide +kernel
theorem dL_act_327 : decode cL_act 327 = .ok (.aload_n 1, 1) := by decide +kernel
theorem dL_act_328 : decode cL_act 328 = .ok (.iload_n 2, 1) := by decide +kernel
theorem dL_act_329 : decode cL_act 329 = .ok (.iconst 4, 1) := by decide +kernel
theorem dL_act_330 : decode cL_act 330 = .ok (.ishr, 1) := by decide +kernel
theorem dL_act_331 : decode cL_act 331 = .ok (.bipush 10, 2) := by decide +kernel
theorem dL_act_333 : decode cL_act 333 = .ok (.invokestatic 15, 3) := by decide +kernel
theorem dL_act_336 : decode cL_act 336 = .ok (.putfield 42, 3) := by decide +kernel
theorem dL_act_339 : decode cL_act 339 = .ok (.aload_n 0, 1) := by decide +kernel
theorem dL_act_340 : decode cL_act 340 = .ok (.aload_n 1, 1) := by decide +kernel
theorem dL_act_341 : decode cL_act 341 = .ok (.getfield 42, 3) := by decide +kernel
theorem dL_act_344 : decode cL_act 344 = .ok (.invokevirtual 46, 3) := by decide +kernel
theorem dL_act_347 : decode cL_act 347 = .ok (.iload 6, 2) := by decide +kernel
theorem dL_act_349 : decode cL_act 349 = .ok (.if_icmp .ne 7, 3) := by decide +kernel
theorem dL_act_352 : decode cL_act 352 = .ok (.iconst 1, 1) := by decide +kernel
theorem dL_act_353 : decode cL_act 353 = .ok (.goto 4, 3) := by decide +kernel
theorem dL_act_356 : decode cL_act 356 = .ok (.iconst 0, 1) := by decide +kernel
theorem dL_act_357 : decode cL_act 357 = .ok (.ireturn, 1) := by decide +kernel
theorem dL_act_358 : decode cL_act 358 = .ok (.aload_n 1, 1) := by decide +kernel
theorem dL_act_359 : decode cL_act 359 = .ok (.getfield 49, 3) := by decide +kernel
theorem dL_act_362 : decode cL_act 362 = .ok (.istore 6, 2) := by decide +kernel
theorem dL_act_364 : decode cL_act 364 = .ok (.aload_n 1, 1) := by decide +kernel
theorem dL_act_365 : decode cL_act 365 = .ok (.iload_n 2, 1) := by decide +kernel
theorem dL_act_366 : decode cL_act 366 = .ok (.iconst 4, 1) := by decide +kernel
theorem dL_act_367 : decode cL_act 367 = .ok (.ishr, 1) := by decide +kernel
theorem dL_act_368 : decode cL_act 368 = .ok (.iload_n 2, 1) := by decide +kernel
theorem dL_act_369 : decode cL_act 369 = .ok (.bipush 8, 2) := by decide +kernel
theorem dL_act_371 : decode cL_act 371 = .ok (.ishr, 1) := by decide +kernel
theorem dL_act_372 : decode cL_act 372 = .ok (.iconst 2, 1) := by decide +kernel
theorem dL_act_373 : decode cL_act 373 = .ok (.invokestatic 15, 3) := by decide +kernel
theorem dL_act_376 : decode cL_act 376 = .ok (.ifCond .ne 9, 3) := by decide +kernel
theorem dL_act_379 : decode cL_act 379 = .ok (.sipush 201, 3) := by decide +kernel
theorem dL_act_382 : decode cL_act 382 = .ok (.goto 5, 3) := by decide +kernel
theorem dL_act_385 : decode cL_act 385 = .ok (.bipush 40, 2) := by decide +kernel
theorem dL_act_387 : decode cL_act 387 = .ok (.invokestatic 15, 3) := by decide +kernel
theorem dL_act_390 : decode cL_act 390 = .ok (.putfield 52, 3) := by decide +kernel
theorem dL_act_393 : decode cL_act 393 = .ok (.aload_n 1, 1) := by decide +kernel
theorem dL_act_394 : decode cL_act 394 = .ok (.iload_n 2, 1) := by decide +kernel
theorem dL_act_395 : decode cL_act 395 = .ok (.bipush 9, 2) := by decide +kernel
theorem dL_act_397 : decode cL_act 397 = .ok (.ishr, 1) := by decide +kernel
theorem dL_act_398 : decode cL_act 398 = .ok (.iconst 3, 1) := by decide +kernel
theorem dL_act_399 : decode cL_act 399 = .ok (.invokestatic 15, 3) := by decide +kernel
theorem dL_act_402 : decode cL_act 402 = .ok (.ifCond .ne 7, 3) := by decide +kernel
theorem dL_act_405 : decode cL_act 405 = .ok (.iconst 0, 1) := by decide +kernel
theorem dL_act_406 : decode cL_act 406 = .ok (.goto 28, 3) := by decide +kernel
theorem dL_act_409 : decode cL_act 409 = .ok (.iload_n 2, 1) := by decide +kernel
theorem dL_act_410 : decode cL_act 410 = .ok (.bipush 6, 2) := by decide +kernel
theorem dL_act_412 : decode cL_act 412 = .ok (.ishr, 1) := by decide +kernel
theorem dL_act_413 : decode cL_act 413 = .ok (.iload_n 2, 1) := by decide +kernel
theorem dL_act_414 : decode cL_act 414 = .ok (.iconst 3, 1) := by decide +kernel
theorem dL_act_415 : decode cL_act 415 = .ok (.ishr, 1) := by decide +kernel
theorem dL_act_416 : decode cL_act 416 = .ok (.iconst 2, 1) := by decide +kernel
theorem dL_act_417 : decode cL_act 417 = .ok (.invokestatic 15, 3) := by decide +kernel
theorem dL_act_420 : decode cL_act 420 = .ok (.ifCond .ne 9, 3) := by decide +kernel
theorem dL_act_423 : decode cL_act 423 = .ok (.sipush 401, 3) := by decide +kernel
theorem dL_act_426 : decode cL_act 426 = .ok (.goto 5, 3) := by decide +kernel
theorem dL_act_429 : decode cL_act 429 = .ok (.bipush 60, 2) := by decide +kernel
theorem dL_act_431 : decode cL_act 431 = .ok (.invokestatic 15, 3) := by decide +kernel
theorem dL_act_434 : decode cL_act 434 = .ok (.putfield 49, 3) := by decide +kernel
theorem dL_act_437 : decode cL_act 437 = .ok (.aload_n 0, 1) := by decide +kernel
theorem dL_act_438 : decode cL_act 438 = .ok (.aload_n 1, 1) := by decide +kernel
theorem dL_act_439 : decode cL_act 439 = .ok (.getfield 52, 3) := by decide +kernel
theorem dL_act_442 : decode cL_act 442 = .ok (.aload_n 1, 1) := by decide +kernel
theorem dL_act_443 : decode cL_act 443 = .ok (.getfield 49, 3) := by decide +kernel
theorem dL_act_446 : decode cL_act 446 = .ok (.invokevirtual 55, 3) := by decide +kernel
theorem dL_act_449 : decode cL_act 449 = .ok (.iload 6, 2) := by decide +kernel
theorem dL_act_451 : decode cL_act 451 = .ok (.if_icmp .ne 7, 3) := by decide +kernel
theorem dL_act_454 : decode cL_act 454 = .ok (.iconst 1, 1) := by decide +kernel
theorem dL_act_455 : decode cL_act 455 = .ok (.goto 4, 3) := by decide +kernel
theorem dL_act_458 : decode cL_act 458 = .ok (.iconst 0, 1) := by decide +kernel
theorem dL_act_459 : decode cL_act 459 = .ok (.ireturn, 1) := by decide +kernel
theorem dL_act_460 : decode cL_act 460 = .ok (.iconst 1, 1) := by decide +kernel
theorem dL_act_461 : decode cL_act 461 = .ok (.iload_n 2, 1) := by decide +kernel
theorem dL_act_462 : decode cL_act 462 = .ok (.iconst 4, 1) := by decide +kernel
theorem dL_act_463 : decode cL_act 463 = .ok (.ishr, 1) := by decide +kernel
theorem dL_act_464 : decode cL_act 464 = .ok (.iload_n 2, 1) := by decide +kernel
theorem dL_act_465 : decode cL_act 465 = .ok (.bipush 8, 2) := by decide +kernel
theorem dL_act_467 : decode cL_act 467 = .ok (.ishr, 1) := by decide +kernel
theorem dL_act_468 : decode cL_act 468 = .ok (.iconst 5, 1) := by decide +kernel
theorem dL_act_469 : decode cL_act 469 = .ok (.invokestatic 15, 3) := by decide +kernel
theorem dL_act_472 : decode cL_act 472 = .ok (.ifCond .ne 8, 3) := by decide +kernel
theorem dL_act_475 : decode cL_act 475 = .ok (.bipush 60, 2) := by decide +kernel
theorem dL_act_477 : decode cL_act 477 = .ok (.goto 5, 3) := by decide +kernel
theorem dL_act_480 : decode cL_act 480 = .ok (.bipush 7, 2) := by decide +kernel
theorem dL_act_482 : decode cL_act 482 = .ok (.invokestatic 15, 3) := by decide +kernel
theorem dL_act_485 : decode cL_act 485 = .ok (.iadd, 1) := by decide +kernel
theorem dL_act_486 : decode cL_act 486 = .ok (.istore 6, 2) := by decide +kernel
theorem dL_act_488 : decode cL_act 488 = .ok (.aload_n 0, 1) := by decide +kernel
theorem dL_act_489 : decode cL_act 489 = .ok (.iload 6, 2) := by decide +kernel
theorem dL_act_491 : decode cL_act 491 = .ok (.invokevirtual 58, 3) := by decide +kernel
theorem dL_act_494 : decode cL_act 494 = .ok (.aload_n 1, 1) := by decide +kernel
theorem dL_act_495 : decode cL_act 495 = .ok (.iload 6, 2) := by decide +kernel
theorem dL_act_497 : decode cL_act 497 = .ok (.invokevirtual 61, 3) := by decide +kernel
theorem dL_act_500 : decode cL_act 500 = .ok (.if_icmp .ne 7, 3) := by decide +kernel
theorem dL_act_503 : decode cL_act 503 = .ok (.iconst 1, 1) := by decide +kernel
theorem dL_act_504 : decode cL_act 504 = .ok (.goto 4, 3) := by decide +kernel
theorem dL_act_507 : decode cL_act 507 = .ok (.iconst 0, 1) := by decide +kernel
theorem dL_act_508 : decode cL_act 508 = .ok (.ireturn, 1) := by decide +kernel
theorem dL_act_509 : decode cL_act 509 = .ok (.astore 6, 2) := by decide +kernel
theorem dL_act_511 : decode cL_act 511 = .ok (.iload 5, 2) := by decide +kernel
theorem dL_act_513 : decode cL_act 513 = .ok (.ifCond .ne 7, 3) := by decide +kernel
theorem dL_act_516 : decode cL_act 516 = .ok (.iconst 1, 1) := by decide +kernel
theorem dL_act_517 : decode cL_act 517 = .ok (.goto 4, 3) := by decide +kernel
theorem dL_act_520 : decode cL_act 520 = .ok (.iconst 0, 1) := by decide +kernel
theorem dL_act_521 : decode cL_act 521 = .ok (.ireturn, 1) := by decide +kernel
theorem dL_build_0 : decode cL_build 0 = .ok (.new 10, 3) := by decide +kernel
theorem dL_build_3 : decode cL_build 3 = .ok (.dup, 1) := by decide +kernel
theorem dL_build_4 : decode cL_build 4 = .ok (.invokespecial 64, 3) := by decide +kernel
theorem dL_build_7 : decode cL_build 7 = .ok (.astore_n 2, 1) := by decide +kernel
theorem dL_build_8 : decode cL_build 8 = .ok (.iconst 4, 1) := by decide +kernel
theorem dL_build_9 : decode cL_build 9 = .ok (.aload_n 1, 1) := by decide +kernel
theorem dL_build_10 : decode cL_build 10 = .ok (.iconst 0, 1) := by decide +kernel
theorem dL_build_11 : decode cL_build 11 = .ok (.invokestatic 65, 3) := by decide +kernel
theorem dL_build_14 : decode cL_build 14 = .ok (.bipush 14, 2) := by decide +kernel
theorem dL_build_16 : decode cL_build 16 = .ok (.invokestatic 15, 3) := by decide +kernel
theorem dL_build_19 : decode cL_build 19 = .ok (.iadd, 1) := by decide +kernel
theorem dL_build_20 : decode cL_build 20 = .ok (.istore_n 3, 1) := by decide +kernel
theorem dL_build_21 : decode cL_build 21 = .ok (.iconst 0, 1) := by decide +kernel
theorem dL_build_22 : decode cL_build 22 = .ok (.istore 4, 2) := by decide +kernel
theorem dL_build_24 : decode cL_build 24 = .ok (.iload 4, 2) := by decide +kernel
theorem dL_build_26 : decode cL_build 26 = .ok (.iload_n 3, 1) := by decide +kernel
theorem dL_build_27 : decode cL_build 27 = .ok (.if_icmp .ge 62, 3) := by decide +kernel
theorem dL_build_30 : decode cL_build 30 = .ok (.aload_n 1, 1) := by decide +kernel
theorem dL_build_31 : decode cL_build 31 = .ok (.iconst 1, 1) := by decide +kernel
theorem dL_build_32 : decode cL_build 32 = .ok (.iload 4, 2) := by decide +kernel
theorem dL_build_34 : decode cL_build 34 = .ok (.bipush 15, 2) := by decide +kernel
theorem dL_build_36 : decode cL_build 36 = .ok (.irem, 1) := by decide +kernel
theorem dL_build_37 : decode cL_build 37 = .ok (.iadd, 1) := by decide +kernel
theorem dL_build_38 : decode cL_build 38 = .ok (.invokestatic 65, 3) := by decide +kernel
theorem dL_build_41 : decode cL_build 41 = .ok (.iload 4, 2) := by decide +kernel
theorem dL_build_43 : decode cL_build 43 = .ok (.bipush 15, 2) := by decide +kernel
theorem dL_build_45 : decode cL_build 45 = .ok (.idiv, 1) := by decide +kernel
theorem dL_build_46 : decode cL_build 46 = .ok (.iconst 3, 1) := by decide +kernel
theorem dL_build_47 : decode cL_build 47 = .ok (.imul, 1) := by decide +kernel
theorem dL_build_48 : decode cL_build 48 = .ok (.ishr, 1) := by decide +kernel
theorem dL_build_49 : decode cL_build 49 = .ok (.istore 5, 2) := by decide +kernel
theorem dL_build_51 : decode cL_build 51 = .ok (.aload_n 0, 1) := by decide +kernel
theorem dL_build_52 : decode cL_build 52 = .ok (.aload_n 2, 1) := by decide +kernel
theorem dL_build_53 : decode cL_build 53 = .ok (.iload 4, 2) := by decide +kernel
theorem dL_build_55 : decode cL_build 55 = .ok (.iconst 2, 1) := by decide +kernel
theorem dL_build_56 : decode cL_build 56 = .ok (.irem, 1) := by decide +kernel
theorem dL_build_57 : decode cL_build 57 = .ok (.ifCond .ne 16, 3) := by decide +kernel
theorem dL_build_60 : decode cL_build 60 = .ok (.iload 5, 2) := by decide +kernel
theorem dL_build_62 : decode cL_build 62 = .ok (.iload 5, 2) := by decide +kernel
theorem dL_build_64 : decode cL_build 64 = .ok (.bipush 14, 2) := by decide +kernel
theorem dL_build_66 : decode cL_build 66 = .ok (.invokestatic 15, 3) := by decide +kernel
theorem dL_build_69 : decode cL_build 69 = .ok (.isub, 1) := by decide +kernel
theorem dL_build_70 : decode cL_build 70 = .ok (.goto 5, 3) := by decide +kernel
theorem dL_build_73 : decode cL_build 73 = .ok (.iload 5, 2) := by decide +kernel
theorem dL_build_75 : decode cL_build 75 = .ok (.invokestatic 69, 3) := by decide +kernel
theorem dL_build_78 : decode cL_build 78 = .ok (.ifCond .ne 5, 3) := by decide +kernel
theorem dL_build_81 : decode cL_build 81 = .ok (.aconst_null, 1) := by decide +kernel
theorem dL_build_82 : decode cL_build 82 = .ok (.areturn, 1) := by decide +kernel
theorem dL_build_83 : decode cL_build 83 = .ok (.iinc 4 1, 3) := by decide +kernel
theorem dL_build_86 : decode cL_build 86 = .ok (.goto (-62), 3) := by decide +kernel
theorem dL_build_89 : decode cL_build 89 = .ok (.aload_n 2, 1) := by decide +kernel
theorem dL_build_90 : decode cL_build 90 = .ok (.areturn, 1) := by decide +kernel
theorem dL_law_0 : decode cL_law 0 = .ok (.new 26, 3) := by decide +kernel
theorem dL_law_3 : decode cL_law 3 = .ok (.dup, 1) := by decide +kernel
theorem dL_law_4 : decode cL_law 4 = .ok (.invokespecial 73, 3) := by decide +kernel
theorem dL_law_7 : decode cL_law 7 = .ok (.astore_n 1, 1) := by decide +kernel
theorem dL_law_8 : decode cL_law 8 = .ok (.aload_n 1, 1) := by decide +kernel
theorem dL_law_9 : decode cL_law 9 = .ok (.aload_n 0, 1) := by decide +kernel
theorem dL_law_10 : decode cL_law 10 = .ok (.invokestatic 74, 3) := by decide +kernel
theorem dL_law_13 : decode cL_law 13 = .ok (.astore_n 2, 1) := by decide +kernel
theorem dL_law_14 : decode cL_law 14 = .ok (.aload_n 2, 1) := by decide +kernel
theorem dL_law_15 : decode cL_law 15 = .ok (.ifnonnull 5, 3) := by decide +kernel
theorem dL_law_18 : decode cL_law 18 = .ok (.iconst 0, 1) := by decide +kernel
theorem dL_law_19 : decode cL_law 19 = .ok (.ireturn, 1) := by decide +kernel
theorem dL_law_20 : decode cL_law 20 = .ok (.iconst 0, 1) := by decide +kernel
theorem dL_law_21 : decode cL_law 21 = .ok (.istore_n 3, 1) := by decide +kernel
theorem dL_law_22 : decode cL_law 22 = .ok (.iload_n 3, 1) := by decide +kernel
theorem dL_law_23 : decode cL_law 23 = .ok (.bipush 8, 2) := by decide +kernel
theorem dL_law_25 : decode cL_law 25 = .ok (.if_icmp .ge 1436, 3) := by decide +kernel
theorem dL_law_28 : decode cL_law 28 = .ok (.aload_n 0, 1) := by decide +kernel
theorem dL_law_29 : decode cL_law 29 = .ok (.iload_n 3, 1) := by decide +kernel
theorem dL_law_30 : decode cL_law 30 = .ok (.invokestatic 65, 3) := by decide +kernel
theorem dL_law_33 : decode cL_law 33 = .ok (.iconst 2, 1) := by decide +kernel
theorem dL_law_34 : decode cL_law 34 = .ok (.ishr, 1) := by decide +kernel
theorem dL_law_35 : decode cL_law 35 = .ok (.bipush 53, 2) := by decide +kernel
theorem dL_law_37 : decode cL_law 37 = .ok (.iload_n 3, 1) := by decide +kernel
theorem dL_law_38 : decode cL_law 38 = .ok (.imul, 1) := by decide +kernel
theorem dL_law_39 : decode cL_law 39 = .ok (.iadd, 1) := by decide +kernel
theorem dL_law_40 : decode cL_law 40 = .ok (.istore 4, 2) := by decide +kernel
theorem dL_law_42 : decode cL_law 42 = .ok (.iconst 0, 1) := by decide +kernel
theorem dL_law_43 : decode cL_law 43 = .ok (.istore 5, 2) := by decide +kernel
theorem dL_law_45 : decode cL_law 45 = .ok (.iload 5, 2) := by decide +kernel
theorem dL_law_47 : decode cL_law 47 = .ok (.iconst 3, 1) := by decide +kernel
theorem dL_law_48 : decode cL_law 48 = .ok (.if_icmp .ge 32, 3) := by decide +kernel
theorem dL_law_51 : decode cL_law 51 = .ok (.aload_n 1, 1) := by decide +kernel
theorem dL_law_52 : decode cL_law 52 = .ok (.aload_n 2, 1) := by decide +kernel
theorem dL_law_53 : decode cL_law 53 = .ok (.iload 4, 2) := by decide +kernel
theorem dL_law_55 : decode cL_law 55 = .ok (.iconst 3, 1) := by decide +kernel
theorem dL_law_56 : decode cL_law 56 = .ok (.iload 5, 2) := by decide +kernel
theorem dL_law_58 : decode cL_law 58 = .ok (.imul, 1) := by decide +kernel
theorem dL_law_59 : decode cL_law 59 = .ok (.ishr, 1) := by decide +kernel
theorem dL_law_60 : decode cL_law 60 = .ok (.bipush 29, 2) := by decide +kernel
theorem dL_law_62 : decode cL_law 62 = .ok (.iload 5, 2) := by decide +kernel
theorem dL_law_64 : decode cL_law 64 = .ok (.imul, 1) := by decide +kernel
theorem dL_law_65 : decode cL_law 65 = .ok (.iadd, 1) := by decide +kernel
theorem dL_law_66 : decode cL_law 66 = .ok (.invokestatic 69, 3) := by decide +kernel
theorem dL_law_69 : decode cL_law 69 = .ok (.ifCond .ne 5, 3) := by decide +kernel
theorem dL_law_72 : decode cL_law 72 = .ok (.iconst 0, 1) := by decide +kernel
theorem dL_law_73 : decode cL_law 73 = .ok (.ireturn, 1) := by decide +kernel
theorem dL_law_74 : decode cL_law 74 = .ok (.iinc 5 1, 3) := by decide +kernel
theorem dL_law_77 : decode cL_law 77 = .ok (.goto (-32), 3) := by decide +kernel
theorem dL_law_80 : decode cL_law 80 = .ok (.aload_n 1, 1) := by decide +kernel
theorem dL_law_81 : decode cL_law 81 = .ok (.invokevirtual 78, 3) := by decide +kernel
theorem dL_law_84 : decode cL_law 84 = .ok (.lstore 5, 2) := by decide +kernel
theorem dL_law_86 : decode cL_law 86 = .ok (.aload_n 1, 1) := by decide +kernel
theorem dL_law_87 : decode cL_law 87 = .ok (.invokevirtual 82, 3) := by decide +kernel
theorem dL_law_90 : decode cL_law 90 = .ok (.istore 7, 2) := by decide +kernel
theorem dL_law_92 : decode cL_law 92 = .ok (.aload_n 1, 1) := by decide +kernel
theorem dL_law_93 : decode cL_law 93 = .ok (.invokevirtual 86, 3) := by decide +kernel
theorem dL_law_96 : decode cL_law 96 = .ok (.bipush 12, 2) := by decide +kernel
theorem dL_law_98 : decode cL_law 98 = .ok (.irem, 1) := by decide +kernel
theorem dL_law_99 : decode cL_law 99 = .ok (.istore 8, 2) := by decide +kernel
theorem dL_law_101 : decode cL_law 101 = .ok (.aload_n 1, 1) := by decide +kernel
theorem dL_law_102 : decode cL_law 102 = .ok (.invokevirtual 89, 3) := by decide +kernel
theorem dL_law_105 : decode cL_law 105 = .ok (.iload 8, 2) := by decide +kernel
theorem dL_law_107 : decode cL_law 107 = .ok (.iconst 1, 1) := by decide +kernel
theorem dL_law_108 : decode cL_law 108 = .ok (.iadd, 1) := by decide +kernel
theorem dL_law_109 : decode cL_law 109 = .ok (.bipush 12, 2) := by decide +kernel
theorem dL_law_111 : decode cL_law 111 = .ok (.iload 8, 2) := by decide +kernel
theorem dL_law_113 : decode cL_law 113 = .ok (.isub, 1) := by decide +kernel
theorem dL_law_114 : decode cL_law 114 = .ok (.invokestatic 92, 3) := by decide +kernel
theorem dL_law_117 : decode cL_law 117 = .ok (.if_icmp .ne 52, 3) := by decide +kernel
theorem dL_law_120 : decode cL_law 120 = .ok (.aload_n 1, 1) := by decide +kernel
theorem dL_law_121 : decode cL_law 121 = .ok (.invokevirtual 97, 3) := by decide +kernel
theorem dL_law_124 : decode cL_law 124 = .ok (.aload_n 1, 1) := by decide +kernel
theorem dL_law_125 : decode cL_law 125 = .ok (.invokevirtual 89, 3) := by decide +kernel
theorem dL_law_128 : decode cL_law 128 = .ok (.bipush 6, 2) := by decide +kernel
theorem dL_law_130 : decode cL_law 130 = .ok (.if_icmp .ne 7, 3) := by decide +kernel
theorem dL_law_133 : decode cL_law 133 = .ok (.iconst 1, 1) := by decide +kernel
theorem dL_law_134 : decode cL_law 134 = .ok (.goto 4, 3) := by decide +kernel
theorem dL_law_137 : decode cL_law 137 = .ok (.iconst 0, 1) := by decide +kernel
theorem dL_law_138 : decode cL_law 138 = .ok (.if_icmp .ne 31, 3) := by decide +kernel
theorem dL_law_141 : decode cL_law 141 = .ok (.aload_n 1, 1) := by decide +kernel
theorem dL_law_142 : decode cL_law 142 = .ok (.invokevirtual 101, 3) := by decide +kernel
theorem dL_law_145 : decode cL_law 145 = .ok (.ifCond .ne 7, 3) := by decide +kernel
theorem dL_law_148 : decode cL_law 148 = .ok (.iconst 1, 1) := by decide +kernel
theorem dL_law_149 : decode cL_law 149 = .ok (.goto 4, 3) := by decide +kernel
theorem dL_law_152 : decode cL_law 152 = .ok (.iconst 0, 1) := by decide +kernel
theorem dL_law_153 : decode cL_law 153 = .ok (.aload_n 1, 1) := by decide +kernel
theorem dL_law_154 : decode cL_law 154 = .ok (.invokevirtual 97, 3) := by decide +kernel
theorem dL_law_157 : decode cL_law 157 = .ok (.if_icmp .ne 12, 3) := by decide +kernel
theorem dL_law_160 : decode cL_law 160 = .ok (.aload_n 1, 1) := by decide +kernel
theorem dL_law_161 : decode cL_law 161 = .ok (.invokevirtual 101, 3) := by decide +kernel
theorem dL_law_164 : decode cL_law 164 = .ok (.bipush 10, 2) := by decide +kernel
theorem dL_law_166 : decode cL_law 166 = .ok (.if_icmp .le 5, 3) := by decide +kernel
theorem dL_law_169 : decode cL_law 169 = .ok (.iconst 0, 1) := by decide +kernel
theorem dL_law_170 : decode cL_law 170 = .ok (.ireturn, 1) := by decide +kernel
theorem dL_law_171 : decode cL_law 171 = .ok (.iconst 0, 1) := by decide +kernel
theorem dL_law_172 : decode cL_law 172 = .ok (.istore 9, 2) := by decide +kernel
theorem dL_law_174 : decode cL_law 174 = .ok (.iconst 0, 1) := by decide +kernel
theorem dL_law_175 : decode cL_law 175 = .ok (.istore 10, 2) := by decide +kernel
theorem dL_law_177 : decode cL_law 177 = .ok (.iload 10, 2) := by decide +kernel
theorem dL_law_179 : decode cL_law 179 = .ok (.iload 7, 2) := by decide +kernel
theorem dL_law_181 : decode cL_law 181 = .ok (.if_icmp .ge 322, 3) := by decide +kernel
theorem dL_law_184 : decode cL_law 184 = .ok (.iload 9, 2) := by decide +kernel
theorem dL_law_186 : decode cL_law 186 = .ok (.aload_n 1, 1) := by decide +kernel
theorem dL_law_187 : decode cL_law 187 = .ok (.iload 10, 2) := by decide +kernel
theorem dL_law_189 : decode cL_law 189 = .ok (.invokevirtual 104, 3) := by decide +kernel
theorem dL_law_192 : decode cL_law 192 = .ok (.ifCond .eq 7, 3) := by decide +kernel
theorem dL_law_195 : decode cL_law 195 = .ok (.iconst 1, 1) := by decide +kernel
theorem dL_law_196 : decode cL_law 196 = .ok (.goto 4, 3) := by decide +kernel
theorem dL_law_199 : decode cL_law 199 = .ok (.iconst 0, 1) := by decide +kernel
theorem dL_law_200 : decode cL_law 200 = .ok (.iadd, 1) := by decide +kernel
theorem dL_law_201 : decode cL_law 201 = .ok (.istore 9, 2) := by decide +kernel
theorem dL_law_203 : decode cL_law 203 = .ok (.aload_n 2, 1) := by decide +kernel
theorem dL_law_204 : decode cL_law 204 = .ok (.getfield 9, 3) := by decide +kernel
theorem dL_law_207 : decode cL_law 207 = .ok (.iload 10, 2) := by decide +kernel
theorem dL_law_209 : decode cL_law 209 = .ok (.aaload, 1) := by decide +kernel
theorem dL_law_210 : decode cL_law 210 = .ok (.iconst 0, 1) := by decide +kernel
theorem dL_law_211 : decode cL_law 211 = .ok (.iaload, 1) := by decide +kernel
theorem dL_law_212 : decode cL_law 212 = .ok (.istore 11, 2) := by decide +kernel
theorem dL_law_214 : decode cL_law 214 = .ok (.aload_n 1, 1) := by decide +kernel
theorem dL_law_215 : decode cL_law 215 = .ok (.iload 10, 2) := by decide +kernel
theorem dL_law_217 : decode cL_law 217 = .ok (.invokevirtual 107, 3) := by decide +kernel
theorem dL_law_220 : decode cL_law 220 = .ok (.ifCond .lt 125, 3) := by decide +kernel
theorem dL_law_223 : decode cL_law 223 = .ok (.aload_n 1, 1) := by decide +kernel
theorem dL_law_224 : decode cL_law 224 = .ok (.iload 10, 2) := by decide +kernel
theorem dL_law_226 : decode cL_law 226 = .ok (.invokevirtual 107, 3) := by decide +kernel
theorem dL_law_229 : decode cL_law 229 = .ok (.bipush 9, 2) := by decide +kernel
theorem dL_law_231 : decode cL_law 231 = .ok (.if_icmp .gt 114, 3) := by decide +kernel
theorem dL_law_234 : decode cL_law 234 = .ok (.aload_n 1, 1) := by decide +kernel
theorem dL_law_235 : decode cL_law 235 = .ok (.iload 10, 2) := by decide +kernel
theorem dL_law_237 : decode cL_law 237 = .ok (.invokevirtual 110, 3) := by decide +kernel
theorem dL_law_240 : decode cL_law 240 = .ok (.ifCond .lt 105, 3) := by decide +kernel
theorem dL_law_243 : decode cL_law 243 = .ok (.aload_n 1, 1) := by decide +kernel
theorem dL_law_244 : decode cL_law 244 = .ok (.iload 10, 2) := by decide +kernel
theorem dL_law_246 : decode cL_law 246 = .ok (.invokevirtual 110, 3) := by decide +kernel
theorem dL_law_249 : decode cL_law 249 = .ok (.bipush 9, 2) := by decide +kernel
theorem dL_law_251 : decode cL_law 251 = .ok (.if_icmp .gt 94, 3) := by decide +kernel
theorem dL_law_254 : decode cL_law 254 = .ok (.aload_n 1, 1) := by decide +kernel
theorem dL_law_255 : decode cL_law 255 = .ok (.iload 10, 2) := by decide +kernel
theorem dL_law_257 : decode cL_law 257 = .ok (.invokevirtual 113, 3) := by decide +kernel
theorem dL_law_260 : decode cL_law 260 = .ok (.ifCond .lt 85, 3) := by decide +kernel
theorem dL_law_263 : decode cL_law 263 = .ok (.aload_n 1, 1) := by decide +kernel
theorem dL_law_264 : decode cL_law 264 = .ok (.iload 10, 2) := by decide +kernel
theorem dL_law_266 : decode cL_law 266 = .ok (.invokevirtual 116, 3) := by decide +kernel
theorem dL_law_269 : decode cL_law 269 = .ok (.iload 11, 2) := by decide +kernel
theorem dL_law_271 : decode cL_law 271 = .ok (.if_icmp .lt 74, 3) := by decide +kernel
theorem dL_law_274 : decode cL_law 274 = .ok (.aload_n 1, 1) := by decide +kernel
theorem dL_law_275 : decode cL_law 275 = .ok (.iload 10, 2) := by decide +kernel
theorem dL_law_277 : decode cL_law 277 = .ok (.invokevirtual 116, 3) := by decide +kernel
theorem dL_law_280 : decode cL_law 280 = .ok (.bipush 6, 2) := by decide +kernel
theorem dL_law_282 : decode cL_law 282 = .ok (.iload 11, 2) := by decide +kernel
theorem dL_law_284 : decode cL_law 284 = .ok (.imul, 1) := by decide +kernel
theorem dL_law_285 : decode cL_law 285 = .ok (.if_icmp .gt 60, 3) := by decide +kernel
theorem dL_law_288 : decode cL_law 288 = .ok (.aload_n 1, 1) := by decide +kernel
theorem dL_law_289 : decode cL_law 289 = .ok (.invokevirtual 97, 3) := by decide +kernel
theorem dL_law_292 : decode cL_law 292 = .ok (.ifCond .eq 14, 3) := by decide +kernel
theorem dL_law_295 : decode cL_law 295 = .ok (.aload_n 1, 1) := by decide +kernel
theorem dL_law_296 : decode cL_law 296 = .ok (.iload 10, 2) := by decide +kernel
theorem dL_law_298 : decode cL_law 298 = .ok (.invokevirtual 116, 3) := by decide +kernel
theorem dL_law_301 : decode cL_law 301 = .ok (.iload 11, 2) := by decide +kernel
theorem dL_law_303 : decode cL_law 303 = .ok (.if_icmp .ne 42, 3) := by decide +kernel
theorem dL_law_306 : decode cL_law 306 = .ok (.aload_n 1, 1) := by decide +kernel
theorem dL_law_307 : decode cL_law 307 = .ok (.invokevirtual 89, 3) := by decide +kernel
theorem dL_law_310 : decode cL_law 310 = .ok (.iconst 1, 1) := by decide +kernel
theorem dL_law_311 : decode cL_law 311 = .ok (.if_icmp .ne 17, 3) := by decide +kernel
theorem dL_law_314 : decode cL_law 314 = .ok (.aload_n 1, 1) := by decide +kernel
theorem dL_law_315 : decode cL_law 315 = .ok (.iload 10, 2) := by decide +kernel
theorem dL_law_317 : decode cL_law 317 = .ok (.invokevirtual 116, 3) := by decide +kernel
theorem dL_law_320 : decode cL_law 320 = .ok (.bipush 6, 2) := by decide +kernel
theorem dL_law_322 : decode cL_law 322 = .ok (.iload 11, 2) := by decide +kernel
theorem dL_law_324 : decode cL_law 324 = .ok (.imul, 1) := by decide +kernel
theorem dL_law_325 : decode cL_law 325 = .ok (.if_icmp .ne 20, 3) := by decide +kernel
theorem dL_law_328 : decode cL_law 328 = .ok (.aload_n 1, 1) := by decide +kernel
theorem dL_law_329 : decode cL_law 329 = .ok (.iload 10, 2) := by decide +kernel
theorem dL_law_331 : decode cL_law 331 = .ok (.invokevirtual 116, 3) := by decide +kernel
theorem dL_law_334 : decode cL_law 334 = .ok (.aload_n 1, 1) := by decide +kernel
theorem dL_law_335 : decode cL_law 335 = .ok (.aload_n 1, 1) := by decide +kernel
theorem dL_law_336 : decode cL_law 336 = .ok (.invokevirtual 119, 3) := by decide +kernel
theorem dL_law_339 : decode cL_law 339 = .ok (.invokevirtual 116, 3) := by decide +kernel
theorem dL_law_342 : decode cL_law 342 = .ok (.if_icmp .le 5, 3) := by decide +kernel
theorem dL_law_345 : decode cL_law 345 = .ok (.iconst 0, 1) := by decide +kernel
theorem dL_law_346 : decode cL_law 346 = .ok (.ireturn, 1) := by decide +kernel
theorem dL_law_347 : decode cL_law 347 = .ok (.aload_n 1, 1) := by decide +kernel
theorem dL_law_348 : decode cL_law 348 = .ok (.iload 10, 2) := by decide +kernel
theorem dL_law_350 : decode cL_law 350 = .ok (.invokevirtual 122, 3) := by decide +kernel
theorem dL_law_353 : decode cL_law 353 = .ok (.istore 12, 2) := by decide +kernel
theorem dL_law_355 : decode cL_law 355 = .ok (.aload_n 1, 1) := by decide +kernel
theorem dL_law_356 : decode cL_law 356 = .ok (.iload 10, 2) := by decide +kernel
theorem dL_law_358 : decode cL_law 358 = .ok (.invokevirtual 125, 3) := by decide +kernel
theorem dL_law_361 : decode cL_law 361 = .ok (.istore 13, 2) := by decide +kernel
theorem dL_law_363 : decode cL_law 363 = .ok (.aload_n 1, 1) := by decide +kernel
theorem dL_law_364 : decode cL_law 364 = .ok (.iload 10, 2) := by decide +kernel
theorem dL_law_366 : decode cL_law 366 = .ok (.invokevirtual 128, 3) := by decide +kernel
theorem dL_law_369 : decode cL_law 369 = .ok (.istore 14, 2) := by decide +kernel
theorem dL_law_371 : decode cL_law 371 = .ok (.aload_n 1, 1) := by decide +kernel
theorem dL_law_372 : decode cL_law 372 = .ok (.iload 10, 2) := by decide +kernel
theorem dL_law_374 : decode cL_law 374 = .ok (.invokevirtual 131, 3) := by decide +kernel
theorem dL_law_377 : decode cL_law 377 = .ok (.aload_n 1, 1) := by decide +kernel
theorem dL_law_378 : decode cL_law 378 = .ok (.iload 10, 2) := by decide +kernel
theorem dL_law_380 : decode cL_law 380 = .ok (.invokevirtual 116, 3) := by decide +kernel
theorem dL_law_383 : decode cL_law 383 = .ok (.if_icmp .gt 112, 3) := by decide +kernel
theorem dL_law_386 : decode cL_law 386 = .ok (.aload_n 1, 1) := by decide +kernel
theorem dL_law_387 : decode cL_law 387 = .ok (.iload 10, 2) := by decide +kernel
theorem dL_law_389 : decode cL_law 389 = .ok (.invokevirtual 131, 3) := by decide +kernel
theorem dL_law_392 : decode cL_law 392 = .ok (.ifCond .lt 103, 3) := by decide +kernel
theorem dL_law_395 : decode cL_law 395 = .ok (.iload 12, 2) := by decide +kernel
theorem dL_law_397 : decode cL_law 397 = .ok (.iload 13, 2) := by decide +kernel
theorem dL_law_399 : decode cL_law 399 = .ok (.iadd, 1) := by decide +kernel
theorem dL_law_400 : decode cL_law 400 = .ok (.iload 14, 2) := by decide +kernel
theorem dL_law_402 : decode cL_law 402 = .ok (.iadd, 1) := by decide +kernel
theorem dL_law_403 : decode cL_law 403 = .ok (.aload_n 1, 1) := by decide +kernel
theorem dL_law_404 : decode cL_law 404 = .ok (.iload 10, 2) := by decide +kernel
theorem dL_law_406 : decode cL_law 406 = .ok (.invokevirtual 131, 3) := by decide +kernel
theorem dL_law_409 : decode cL_law 409 = .ok (.if_icmp .ne 86, 3) := by decide +kernel
theorem dL_law_412 : decode cL_law 412 = .ok (.iload 12, 2) := by decide +kernel
theorem dL_law_414 : decode cL_law 414 = .ok (.ifCond .lt 81, 3) := by decide +kernel
theorem dL_law_417 : decode cL_law 417 = .ok (.iload 13, 2) := by decide +kernel
theorem dL_law_419 : decode cL_law 419 = .ok (.ifCond .lt 76, 3) := by decide +kernel
theorem dL_law_422 : decode cL_law 422 = .ok (.iload 14, 2) := by decide +kernel
theorem dL_law_424 : decode cL_law 424 = .ok (.ifCond .lt 71, 3) := by decide +kernel
theorem dL_law_427 : decode cL_law 427 = .ok (.iload 14, 2) := by decide +kernel
theorem dL_law_429 : decode cL_law 429 = .ok (.aload_n 1, 1) := by decide +kernel
theorem dL_law_430 : decode cL_law 430 = .ok (.invokevirtual 134, 3) := by decide +kernel
theorem dL_law_433 : decode cL_law 433 = .ok (.if_icmp .gt 62, 3) := by decide +kernel
theorem dL_law_436 : decode cL_law 436 = .ok (.aload_n 1, 1) := by decide +kernel
theorem dL_law_437 : decode cL_law 437 = .ok (.iload 10, 2) := by decide +kernel
theorem dL_law_439 : decode cL_law 439 = .ok (.invokevirtual 104, 3) := by decide +kernel
theorem dL_law_442 : decode cL_law 442 = .ok (.ifCond .ne 14, 3) := by decide +kernel
theorem dL_law_445 : decode cL_law 445 = .ok (.iload 12, 2) := by decide +kernel
theorem dL_law_447 : decode cL_law 447 = .ok (.aload_n 1, 1) := by decide +kernel
theorem dL_law_448 : decode cL_law 448 = .ok (.iload 10, 2) := by decide +kernel
theorem dL_law_450 : decode cL_law 450 = .ok (.invokevirtual 131, 3) := by decide +kernel
theorem dL_law_453 : decode cL_law 453 = .ok (.if_icmp .ne 42, 3) := by decide +kernel
theorem dL_law_456 : decode cL_law 456 = .ok (.aload_n 1, 1) := by decide +kernel
theorem dL_law_457 : decode cL_law 457 = .ok (.iload 10, 2) := by decide +kernel
theorem dL_law_459 : decode cL_law 459 = .ok (.invokevirtual 104, 3) := by decide +kernel
theorem dL_law_462 : decode cL_law 462 = .ok (.ifCond .eq 10, 3) := by decide +kernel
theorem dL_law_465 : decode cL_law 465 = .ok (.iload 12, 2) := by decide +kernel
theorem dL_law_467 : decode cL_law 467 = .ok (.bipush 6, 2) := by decide +kernel
theorem dL_law_469 : decode cL_law 469 = .ok (.if_icmp .gt 26, 3) := by decide +kernel
theorem dL_law_472 : decode cL_law 472 = .ok (.iload 14, 2) := by decide +kernel
theorem dL_law_474 : decode cL_law 474 = .ok (.ifCond .le 23, 3) := by decide +kernel
theorem dL_law_477 : decode cL_law 477 = .ok (.iload 13, 2) := by decide +kernel
theorem dL_law_479 : decode cL_law 479 = .ok (.aload_n 1, 1) := by decide +kernel
theorem dL_law_480 : decode cL_law 480 = .ok (.invokevirtual 136, 3) := by decide +kernel
theorem dL_law_483 : decode cL_law 483 = .ok (.if_icmp .eq 14, 3) := by decide +kernel
theorem dL_law_486 : decode cL_law 486 = .ok (.iload 14, 2) := by decide +kernel
theorem dL_law_488 : decode cL_law 488 = .ok (.aload_n 1, 1) := by decide +kernel
theorem dL_law_489 : decode cL_law 489 = .ok (.invokevirtual 134, 3) := by decide +kernel
theorem dL_law_492 : decode cL_law 492 = .ok (.if_icmp .eq 5, 3) := by decide +kernel
theorem dL_law_495 : decode cL_law 495 = .ok (.iconst 0, 1) := by decide +kernel
theorem dL_law_496 : decode cL_law 496 = .ok (.ireturn, 1) := by decide +kernel
theorem dL_law_497 : decode cL_law 497 = .ok (.iinc 10 1, 3) := by decide +kernel
theorem dL_law_500 : decode cL_law 500 = .ok (.goto (-323), 3) := by decide +kernel
theorem dL_law_503 : decode cL_law 503 = .ok (.iload 9, 2) := by decide +kernel
theorem dL_law_505 : decode cL_law 505 = .ok (.aload_n 1, 1) := by decide +kernel
theorem dL_law_506 : decode cL_law 506 = .ok (.invokevirtual 138, 3) := by decide +kernel
theorem dL_law_509 : decode cL_law 509 = .ok (.if_icmp .eq 5, 3) := by decide +kernel
theorem dL_law_512 : decode cL_law 512 = .ok (.iconst 0, 1) := by decide +kernel
theorem dL_law_513 : decode cL_law 513 = .ok (.ireturn, 1) := by decide +kernel
theorem dL_law_514 : decode cL_law 514 = .ok (.aload_n 1, 1) := by decide +kernel
theorem dL_law_515 : decode cL_law 515 = .ok (.invokevirtual 141, 3) := by decide +kernel
theorem dL_law_518 : decode cL_law 518 = .ok (.istore 10, 2) := by decide +kernel
theorem dL_law_520 : decode cL_law 520 = .ok (.aload_n 1, 1) := by decide +kernel
theorem dL_law_521 : decode cL_law 521 = .ok (.invokevirtual 144, 3) := by decide +kernel
theorem dL_law_524 : decode cL_law 524 = .ok (.istore 11, 2) := by decide +kernel
theorem dL_law_526 : decode cL_law 526 = .ok (.bipush 20, 2) := by decide +kernel
theorem dL_law_528 : decode cL_law 528 = .ok (.iload 4, 2) := by decide +kernel
theorem dL_law_530 : decode cL_law 530 = .ok (.iconst 4, 1) := by decide +kernel
theorem dL_law_531 : decode cL_law 531 = .ok (.ishr, 1) := by decide +kernel
theorem dL_law_532 : decode cL_law 532 = .ok (.bipush 6, 2) := by decide +kernel
theorem dL_law_534 : decode cL_law 534 = .ok (.invokestatic 15, 3) := by decide +kernel
theorem dL_law_537 : decode cL_law 537 = .ok (.imul, 1) := by decide +kernel
theorem dL_law_538 : decode cL_law 538 = .ok (.istore 12, 2) := by decide +kernel
theorem dL_law_540 : decode cL_law 540 = .ok (.iload 4, 2) := by decide +kernel
theorem dL_law_542 : decode cL_law 542 = .ok (.iconst 5, 1) := by decide +kernel
theorem dL_law_543 : decode cL_law 543 = .ok (.ishr, 1) := by decide +kernel
theorem dL_law_544 : decode cL_law 544 = .ok (.bipush 10, 2) := by decide +kernel
theorem dL_law_546 : decode cL_law 546 = .ok (.invokestatic 15, 3) := by decide +kernel
theorem dL_law_549 : decode cL_law 549 = .ok (.istore 13, 2) := by decide +kernel
theorem dL_law_551 : decode cL_law 551 = .ok (.aload_n 2, 1) := by decide +kernel
theorem dL_law_552 : decode cL_law 552 = .ok (.invokevirtual 147, 3) := by decide +kernel
theorem dL_law_555 : decode cL_law 555 = .ok (.astore 14, 2) := by decide +kernel
theorem dL_law_557 : decode cL_law 557 = .ok (.aload 14, 2) := by decide +kernel
theorem dL_law_559 : decode cL_law 559 = .ok (.iload 10, 2) := by decide +kernel
theorem dL_law_561 : decode cL_law 561 = .ok (.putfield 49, 3) := by decide +kernel
theorem dL_law_564 : decode cL_law 564 = .ok (.aload 14, 2) := by decide +kernel
theorem dL_law_566 : decode cL_law 566 = .ok (.bipush 48, 2) := by decide +kernel
theorem dL_law_568 : decode cL_law 568 = .ok (.invokevirtual 61, 3) := by decide +kernel
theorem dL_law_571 : decode cL_law 571 = .ok (.pop, 1) := by decide +kernel
theorem dL_law_572 : decode cL_law 572 = .ok (.aload_n 2, 1) := by decide +kernel
theorem dL_law_573 : decode cL_law 573 = .ok (.invokevirtual 147, 3) := by decide +kernel
theorem dL_law_576 : decode cL_law 576 = .ok (.astore 15, 2) := by decide +kernel
theorem dL_law_578 : decode cL_law 578 = .ok (.aload 15, 2) := by decide +kernel
theorem dL_law_580 : decode cL_law 580 = .ok (.iload 12, 2) := by decide +kernel
theorem dL_law_582 : decode cL_law 582 = .ok (.putfield 49, 3) := by decide +kernel
theorem dL_law_585 : decode cL_law 585 = .ok (.aload 15, 2) := by decide +kernel
theorem dL_law_587 : decode cL_law 587 = .ok (.bipush 48, 2) := by decide +kernel
theorem dL_law_589 : decode cL_law 589 = .ok (.invokevirtual 61, 3) := by decide +kernel
theorem dL_law_592 : decode cL_law 592 = .ok (.pop, 1) := by decide +kernel
theorem dL_law_593 : decode cL_law 593 = .ok (.iload 10, 2) := by decide +kernel
theorem dL_law_595 : decode cL_law 595 = .ok (.ifCond .lt 51, 3) := by decide +kernel
theorem dL_law_598 : decode cL_law 598 = .ok (.iload 10, 2) := by decide +kernel
theorem dL_law_600 : decode cL_law 600 = .ok (.bipush 100, 2) := by decide +kernel
theorem dL_law_602 : decode cL_law 602 = .ok (.if_icmp .gt 44, 3) := by decide +kernel
theorem dL_law_605 : decode cL_law 605 = .ok (.iload 10, 2) := by decide +kernel
theorem dL_law_607 : decode cL_law 607 = .ok (.bipush 20, 2) := by decide +kernel
theorem dL_law_609 : decode cL_law 609 = .ok (.irem, 1) := by decide +kernel
theorem dL_law_610 : decode cL_law 610 = .ok (.ifCond .ne 36, 3) := by decide +kernel
theorem dL_law_613 : decode cL_law 613 = .ok (.aload 15, 2) := by decide +kernel
theorem dL_law_615 : decode cL_law 615 = .ok (.getfield 151, 3) := by decide +kernel
theorem dL_law_618 : decode cL_law 618 = .ok (.aload 14, 2) := by decide +kernel
theorem dL_law_620 : decode cL_law 620 = .ok (.getfield 151, 3) := by decide +kernel
theorem dL_law_623 : decode cL_law 623 = .ok (.if_icmp .gt 23, 3) := by decide +kernel
theorem dL_law_626 : decode cL_law 626 = .ok (.aload 15, 2) := by decide +kernel
theorem dL_law_628 : decode cL_law 628 = .ok (.getfield 151, 3) := by decide +kernel
theorem dL_law_631 : decode cL_law 631 = .ok (.aload 14, 2) := by decide +kernel
theorem dL_law_633 : decode cL_law 633 = .ok (.getfield 151, 3) := by decide +kernel
theorem dL_law_636 : decode cL_law 636 = .ok (.if_icmp .ne 12, 3) := by decide +kernel
theorem dL_law_639 : decode cL_law 639 = .ok (.iload 12, 2) := by decide +kernel
theorem dL_law_641 : decode cL_law 641 = .ok (.iload 10, 2) := by decide +kernel
theorem dL_law_643 : decode cL_law 643 = .ok (.if_icmp .ge 5, 3) := by decide +kernel
theorem dL_law_646 : decode cL_law 646 = .ok (.iconst 0, 1) := by decide +kernel
theorem dL_law_647 : decode cL_law 647 = .ok (.ireturn, 1) := by decide +kernel
theorem dL_law_648 : decode cL_law 648 = .ok (.aload_n 2, 1) := by decide +kernel
theorem dL_law_649 : decode cL_law 649 = .ok (.invokevirtual 147, 3) := by decide +kernel
theorem dL_law_652 : decode cL_law 652 = .ok (.astore 14, 2) := by decide +kernel
theorem dL_law_654 : decode cL_law 654 = .ok (.aload 14, 2) := by decide +kernel
theorem dL_law_656 : decode cL_law 656 = .ok (.iload 13, 2) := by decide +kernel
theorem dL_law_658 : decode cL_law 658 = .ok (.putfield 42, 3) := by decide +kernel
theorem dL_law_661 : decode cL_law 661 = .ok (.aload 14, 2) := by decide +kernel
theorem dL_law_663 : decode cL_law 663 = .ok (.bipush 48, 2) := by decide +kernel
theorem dL_law_665 : decode cL_law 665 = .ok (.invokevirtual 61, 3) := by decide +kernel
theorem dL_law_668 : decode cL_law 668 = .ok (.pop, 1) := by decide +kernel
theorem dL_law_669 : decode cL_law 669 = .ok (.aload 14, 2) := by decide +kernel
theorem dL_law_671 : decode cL_law 671 = .ok (.getfield 151, 3) := by decide +kernel
theorem dL_law_674 : decode cL_law 674 = .ok (.aload_n 1, 1) := by decide +kernel
theorem dL_law_675 : decode cL_law 675 = .ok (.invokevirtual 154, 3) := by decide +kernel
theorem dL_law_678 : decode cL_law 678 = .ok (.if_icmp .lt 7, 3) := by decide +kernel
theorem dL_law_681 : decode cL_law 681 = .ok (.iconst 1, 1) := by decide +kernel
theorem dL_law_682 : decode cL_law 682 = .ok (.goto 4, 3) := by decide +kernel
theorem dL_law_685 : decode cL_law 685 = .ok (.iconst 0, 1) := by decide +kernel
theorem dL_law_686 : decode cL_law 686 = .ok (.iload 11, 2) := by decide +kernel
theorem dL_law_688 : decode cL_law 688 = .ok (.ifCond .lt 14, 3) := by decide +kernel
theorem dL_law_691 : decode cL_law 691 = .ok (.iload 13, 2) := by decide +kernel
theorem dL_law_693 : decode cL_law 693 = .ok (.iload 11, 2) := by decide +kernel
theorem dL_law_695 : decode cL_law 695 = .ok (.if_icmp .lt 7, 3) := by decide +kernel
theorem dL_law_698 : decode cL_law 698 = .ok (.iconst 1, 1) := by decide +kernel
theorem dL_law_699 : decode cL_law 699 = .ok (.goto 4, 3) := by decide +kernel
theorem dL_law_702 : decode cL_law 702 = .ok (.iconst 0, 1) := by decide +kernel
theorem dL_law_703 : decode cL_law 703 = .ok (.if_icmp .eq 5, 3) := by decide +kernel
theorem dL_law_706 : decode cL_law 706 = .ok (.iconst 0, 1) := by decide +kernel
theorem dL_law_707 : decode cL_law 707 = .ok (.ireturn, 1) := by decide +kernel
theorem dL_law_708 : decode cL_law 708 = .ok (.iconst 1, 1) := by decide +kernel
theorem dL_law_709 : decode cL_law 709 = .ok (.iload 4, 2) := by decide +kernel
theorem dL_law_711 : decode cL_law 711 = .ok (.bipush 6, 2) := by decide +kernel
theorem dL_law_713 : decode cL_law 713 = .ok (.ishr, 1) := by decide +kernel
theorem dL_law_714 : decode cL_law 714 = .ok (.bipush 20, 2) := by decide +kernel
theorem dL_law_716 : decode cL_law 716 = .ok (.invokestatic 15, 3) := by decide +kernel
theorem dL_law_719 : decode cL_law 719 = .ok (.iadd, 1) := by decide +kernel
theorem dL_law_720 : decode cL_law 720 = .ok (.istore 16, 2) := by decide +kernel
theorem dL_law_722 : decode cL_law 722 = .ok (.aload_n 1, 1) := by decide +kernel
theorem dL_law_723 : decode cL_law 723 = .ok (.iload 16, 2) := by decide +kernel
theorem dL_law_725 : decode cL_law 725 = .ok (.invokevirtual 156, 3) := by decide +kernel
theorem dL_law_728 : decode cL_law 728 = .ok (.istore 17, 2) := by decide +kernel
theorem dL_law_730 : decode cL_law 730 = .ok (.aload_n 1, 1) := by decide +kernel
theorem dL_law_731 : decode cL_law 731 = .ok (.invokevirtual 159, 3) := by decide +kernel
theorem dL_law_734 : decode cL_law 734 = .ok (.istore 18, 2) := by decide +kernel
theorem dL_law_736 : decode cL_law 736 = .ok (.aload_n 1, 1) := by decide +kernel
theorem dL_law_737 : decode cL_law 737 = .ok (.invokevirtual 162, 3) := by decide +kernel
theorem dL_law_740 : decode cL_law 740 = .ok (.istore 19, 2) := by decide +kernel
theorem dL_law_742 : decode cL_law 742 = .ok (.iload 7, 2) := by decide +kernel
theorem dL_law_744 : decode cL_law 744 = .ok (.ifCond .ne 7, 3) := by decide +kernel
theorem dL_law_747 : decode cL_law 747 = .ok (.iconst (-1), 1) := by decide +kernel
theorem dL_law_748 : decode cL_law 748 = .ok (.goto 13, 3) := by decide +kernel
theorem dL_law_751 : decode cL_law 751 = .ok (.iload 4, 2) := by decide +kernel
theorem dL_law_753 : decode cL_law 753 = .ok (.bipush 7, 2) := by decide +kernel
theorem dL_law_755 : decode cL_law 755 = .ok (.ishr, 1) := by decide +kernel
theorem dL_law_756 : decode cL_law 756 = .ok (.iload 7, 2) := by decide +kernel
theorem dL_law_758 : decode cL_law 758 = .ok (.invokestatic 15, 3) := by decide +kernel
theorem dL_law_761 : decode cL_law 761 = .ok (.istore 20, 2) := by decide +kernel
theorem dL_law_763 : decode cL_law 763 = .ok (.iload 20, 2) := by decide +kernel
theorem dL_law_765 : decode cL_law 765 = .ok (.ifCond .ge 7, 3) := by decide +kernel
theorem dL_law_768 : decode cL_law 768 = .ok (.iconst (-1), 1) := by decide +kernel
theorem dL_law_769 : decode cL_law 769 = .ok (.goto 9, 3) := by decide +kernel
theorem dL_law_772 : decode cL_law 772 = .ok (.aload_n 1, 1) := by decide +kernel
theorem dL_law_773 : decode cL_law 773 = .ok (.iload 20, 2) := by decide +kernel
theorem dL_law_775 : decode cL_law 775 = .ok (.invokevirtual 165, 3) := by decide +kernel
theorem dL_law_778 : decode cL_law 778 = .ok (.istore 21, 2) := by decide +kernel
theorem dL_law_780 : decode cL_law 780 = .ok (.iload 19, 2) := by decide +kernel
theorem dL_law_782 : decode cL_law 782 = .ok (.ifCond .ge 7, 3) := by decide +kernel
theorem dL_law_785 : decode cL_law 785 = .ok (.iconst (-1), 1) := by decide +kernel
theorem dL_law_786 : decode cL_law 786 = .ok (.goto 9, 3) := by decide +kernel
theorem dL_law_789 : decode cL_law 789 = .ok (.aload_n 1, 1) := by decide +kernel
theorem dL_law_790 : decode cL_law 790 = .ok (.iload 19, 2) := by decide +kernel
theorem dL_law_792 : decode cL_law 792 = .ok (.invokevirtual 165, 3) := by decide +kernel
theorem dL_law_795 : decode cL_law 795 = .ok (.istore 22, 2) := by decide +kernel
theorem dL_law_797 : decode cL_law 797 = .ok (.aload_n 1, 1) := by decide +kernel
theorem dL_law_798 : decode cL_law 798 = .ok (.invokevirtual 78, 3) := by decide +kernel
theorem dL_law_801 : decode cL_law 801 = .ok (.lload 5, 2) := by decide +kernel
theorem dL_law_803 : decode cL_law 803 = .ok (.lcmp, 1) := by decide +kernel
theorem dL_law_804 : decode cL_law 804 = .ok (.ifCond .ne 71, 3) := by decide +kernel
theorem dL_law_807 : decode cL_law 807 = .ok (.iload 21, 2) := by decide +kernel
theorem dL_law_809 : decode cL_law 809 = .ok (.ifCond .eq 66, 3) := by decide +kernel
theorem dL_law_812 : decode cL_law 812 = .ok (.iload 21, 2) := by decide +kernel
theorem dL_law_814 : decode cL_law 814 = .ok (.bipush 100, 2) := by decide +kernel
theorem dL_law_816 : decode cL_law 816 = .ok (.if_icmp .gt 59, 3) := by decide +kernel
theorem dL_law_819 : decode cL_law 819 = .ok (.iload 18, 2) := by decide +kernel
theorem dL_law_821 : decode cL_law 821 = .ok (.ifCond .ne 7, 3) := by decide +kernel
theorem dL_law_824 : decode cL_law 824 = .ok (.iconst 1, 1) := by decide +kernel
theorem dL_law_825 : decode cL_law 825 = .ok (.goto 4, 3) := by decide +kernel
theorem dL_law_828 : decode cL_law 828 = .ok (.iconst 0, 1) := by decide +kernel
theorem dL_law_829 : decode cL_law 829 = .ok (.aload_n 1, 1) := by decide +kernel
theorem dL_law_830 : decode cL_law 830 = .ok (.invokevirtual 154, 3) := by decide +kernel
theorem dL_law_833 : decode cL_law 833 = .ok (.ifCond .ge 7, 3) := by decide +kernel
theorem dL_law_836 : decode cL_law 836 = .ok (.iconst 1, 1) := by decide +kernel
theorem dL_law_837 : decode cL_law 837 = .ok (.goto 4, 3) := by decide +kernel
theorem dL_law_840 : decode cL_law 840 = .ok (.iconst 0, 1) := by decide +kernel
theorem dL_law_841 : decode cL_law 841 = .ok (.if_icmp .ne 34, 3) := by decide +kernel
theorem dL_law_844 : decode cL_law 844 = .ok (.iload 21, 2) := by decide +kernel
theorem dL_law_846 : decode cL_law 846 = .ok (.ifCond .le 31, 3) := by decide +kernel
theorem dL_law_849 : decode cL_law 849 = .ok (.iload 19, 2) := by decide +kernel
theorem dL_law_851 : decode cL_law 851 = .ok (.ifCond .lt 24, 3) := by decide +kernel
theorem dL_law_854 : decode cL_law 854 = .ok (.iload 22, 2) := by decide +kernel
theorem dL_law_856 : decode cL_law 856 = .ok (.iload 21, 2) := by decide +kernel
theorem dL_law_858 : decode cL_law 858 = .ok (.if_icmp .gt 17, 3) := by decide +kernel
theorem dL_law_861 : decode cL_law 861 = .ok (.iload 22, 2) := by decide +kernel
theorem dL_law_863 : decode cL_law 863 = .ok (.iload 21, 2) := by decide +kernel
theorem dL_law_865 : decode cL_law 865 = .ok (.if_icmp .ne 12, 3) := by decide +kernel
theorem dL_law_868 : decode cL_law 868 = .ok (.iload 20, 2) := by decide +kernel
theorem dL_law_870 : decode cL_law 870 = .ok (.iload 19, 2) := by decide +kernel
theorem dL_law_872 : decode cL_law 872 = .ok (.if_icmp .ge 5, 3) := by decide +kernel
theorem dL_law_875 : decode cL_law 875 = .ok (.iconst 0, 1) := by decide +kernel
theorem dL_law_876 : decode cL_law 876 = .ok (.ireturn, 1) := by decide +kernel
theorem dL_law_877 : decode cL_law 877 = .ok (.iconst 0, 1) := by decide +kernel
theorem dL_law_878 : decode cL_law 878 = .ok (.istore 23, 2) := by decide +kernel
theorem dL_law_880 : decode cL_law 880 = .ok (.iconst 1, 1) := by decide +kernel
theorem dL_law_881 : decode cL_law 881 = .ok (.istore 24, 2) := by decide +kernel
theorem dL_law_883 : decode cL_law 883 = .ok (.iconst 1, 1) := by decide +kernel
theorem dL_law_884 : decode cL_law 884 = .ok (.istore 25, 2) := by decide +kernel
theorem dL_law_886 : decode cL_law 886 = .ok (.iload 25, 2) := by decide +kernel
theorem dL_law_888 : decode cL_law 888 = .ok (.iload 16, 2) := by decide +kernel
theorem dL_law_890 : decode cL_law 890 = .ok (.if_icmp .gt 554, 3) := by decide +kernel
theorem dL_law_893 : decode cL_law 893 = .ok (.aload_n 1, 1) := by decide +kernel
theorem dL_law_894 : decode cL_law 894 = .ok (.invokevirtual 154, 3) := by decide +kernel
theorem dL_law_897 : decode cL_law 897 = .ok (.istore 26, 2) := by decide +kernel
theorem dL_law_899 : decode cL_law 899 = .ok (.aload_n 1, 1) := by decide +kernel
theorem dL_law_900 : decode cL_law 900 = .ok (.invokevirtual 168, 3) := by decide +kernel
theorem dL_law_903 : decode cL_law 903 = .ok (.istore 27, 2) := by decide +kernel
theorem dL_law_905 : decode cL_law 905 = .ok (.iload 7, 2) := by decide +kernel
theorem dL_law_907 : decode cL_law 907 = .ok (.newarray .int, 2) := by decide +kernel
theorem dL_law_909 : decode cL_law 909 = .ok (.astore 28, 2) := by decide +kernel
theorem dL_law_911 : decode cL_law 911 = .ok (.iload 7, 2) := by decide +kernel
theorem dL_law_913 : decode cL_law 913 = .ok (.newarray .int, 2) := by decide +kernel
theorem dL_law_915 : decode cL_law 915 = .ok (.astore 29, 2) := by decide +kernel
theorem dL_law_917 : decode cL_law 917 = .ok (.iload 7, 2) := by decide +kernel
theorem dL_law_919 : decode cL_law 919 = .ok (.newarray .int, 2) := by decide +kernel
theorem dL_law_921 : decode cL_law 921 = .ok (.astore 30, 2) := by decide +kernel
theorem dL_law_923 : decode cL_law 923 = .ok (.iload 7, 2) := by decide +kernel
theorem dL_law_925 : decode cL_law 925 = .ok (.newarray .int, 2) := by decide +kernel
theorem dL_law_927 : decode cL_law 927 = .ok (.astore 31, 2) := by decide +kernel
theorem dL_law_929 : decode cL_law 929 = .ok (.iload 7, 2) := by decide +kernel
theorem dL_law_931 : decode cL_law 931 = .ok (.newarray .int, 2) := by decide +kernel
theorem dL_law_933 : decode cL_law 933 = .ok (.astore 32, 2) := by decide +kernel
theorem dL_law_935 : decode cL_law 935 = .ok (.iconst 0, 1) := by decide +kernel
theorem dL_law_936 : decode cL_law 936 = .ok (.istore 33, 2) := by decide +kernel
theorem dL_law_938 : decode cL_law 938 = .ok (.iload 33, 2) := by decide +kernel
theorem dL_law_940 : decode cL_law 940 = .ok (.iload 7, 2) := by decide +kernel
theorem dL_law_942 : decode cL_law 942 = .ok (.if_icmp .ge 64, 3) := by decide +kernel
theorem dL_law_945 : decode cL_law 945 = .ok (.aload 28, 2) := by decide +kernel
theorem dL_law_947 : decode cL_law 947 = .ok (.iload 33, 2) := by decide +kernel
theorem dL_law_949 : decode cL_law 949 = .ok (.aload_n 1, 1) := by decide +kernel
theorem dL_law_950 : decode cL_law 950 = .ok (.iload 33, 2) := by decide +kernel
theorem dL_law_952 : decode cL_law 952 = .ok (.invokevirtual 107, 3) := by decide +kernel
theorem dL_law_955 : decode cL_law 955 = .ok (.iastore, 1) := by decide +kernel
theorem dL_law_956 : decode cL_law 956 = .ok (.aload 29, 2) := by decide +kernel
theorem dL_law_958 : decode cL_law 958 = .ok (.iload 33, 2) := by decide +kernel
theorem dL_law_960 : decode cL_law 960 = .ok (.aload_n 1, 1) := by decide +kernel
theorem dL_law_961 : decode cL_law 961 = .ok (.iload 33, 2) := by decide +kernel
theorem dL_law_963 : decode cL_law 963 = .ok (.invokevirtual 113, 3) := by decide +kernel
theorem dL_law_966 : decode cL_law 966 = .ok (.iastore, 1) := by decide +kernel
theorem dL_law_967 : decode cL_law 967 = .ok (.aload 30, 2) := by decide +kernel
theorem dL_law_969 : decode cL_law 969 = .ok (.iload 33, 2) := by decide +kernel
theorem dL_law_971 : decode cL_law 971 = .ok (.aload_n 1, 1) := by decide +kernel
theorem dL_law_972 : decode cL_law 972 = .ok (.iload 33, 2) := by decide +kernel
theorem dL_law_974 : decode cL_law 974 = .ok (.invokevirtual 110, 3) := by decide +kernel
theorem dL_law_977 : decode cL_law 977 = .ok (.iastore, 1) := by decide +kernel
theorem dL_law_978 : decode cL_law 978 = .ok (.aload 31, 2) := by decide +kernel
theorem dL_law_980 : decode cL_law 980 = .ok (.iload 33, 2) := by decide +kernel
theorem dL_law_982 : decode cL_law 982 = .ok (.aload_n 1, 1) := by decide +kernel
theorem dL_law_983 : decode cL_law 983 = .ok (.iload 33, 2) := by decide +kernel
theorem dL_law_985 : decode cL_law 985 = .ok (.invokevirtual 125, 3) := by decide +kernel
theorem dL_law_988 : decode cL_law 988 = .ok (.iastore, 1) := by decide +kernel
theorem dL_law_989 : decode cL_law 989 = .ok (.aload 32, 2) := by decide +kernel
theorem dL_law_991 : decode cL_law 991 = .ok (.iload 33, 2) := by decide +kernel
theorem dL_law_993 : decode cL_law 993 = .ok (.aload_n 1, 1) := by decide +kernel
theorem dL_law_994 : decode cL_law 994 = .ok (.iload 33, 2) := by decide +kernel
theorem dL_law_996 : decode cL_law 996 = .ok (.invokevirtual 128, 3) := by decide +kernel
theorem dL_law_999 : decode cL_law 999 = .ok (.iastore, 1) := by decide +kernel
theorem dL_law_1000 : decode cL_law 1000 = .ok (.iinc 33 1, 3) := by decide +kernel
theorem dL_law_1003 : decode cL_law 1003 = .ok (.goto (-65), 3) := by decide +kernel
theorem dL_law_1006 : decode cL_law 1006 = .ok (.aload_n 1, 1) := by decide +kernel
theorem dL_law_1007 : decode cL_law 1007 = .ok (.invokevirtual 86, 3) := by decide +kernel
theorem dL_law_1010 : decode cL_law 1010 = .ok (.bipush 12, 2) := by decide +kernel
theorem dL_law_1012 : decode cL_law 1012 = .ok (.irem, 1) := by decide +kernel
theorem dL_law_1013 : decode cL_law 1013 = .ok (.ifCond .ne 63, 3) := by decide +kernel
theorem dL_law_1016 : decode cL_law 1016 = .ok (.iload 26, 2) := by decide +kernel
theorem dL_law_1018 : decode cL_law 1018 = .ok (.aload_n 1, 1) := by decide +kernel
theorem dL_law_1019 : decode cL_law 1019 = .ok (.invokevirtual 171, 3) := by decide +kernel
theorem dL_law_1022 : decode cL_law 1022 = .ok (.aload_n 1, 1) := by decide +kernel
theorem dL_law_1023 : decode cL_law 1023 = .ok (.invokevirtual 138, 3) := by decide +kernel
theorem dL_law_1026 : decode cL_law 1026 = .ok (.imul, 1) := by decide +kernel
theorem dL_law_1027 : decode cL_law 1027 = .ok (.aload_n 1, 1) := by decide +kernel
theorem dL_law_1028 : decode cL_law 1028 = .ok (.invokevirtual 134, 3) := by decide +kernel
theorem dL_law_1031 : decode cL_law 1031 = .ok (.ifCond .le 15, 3) := by decide +kernel
theorem dL_law_1034 : decode cL_law 1034 = .ok (.aload_n 1, 1) := by decide +kernel
theorem dL_law_1035 : decode cL_law 1035 = .ok (.invokevirtual 134, 3) := by decide +kernel
theorem dL_law_1038 : decode cL_law 1038 = .ok (.bipush 20, 2) := by decide +kernel
theorem dL_law_1040 : decode cL_law 1040 = .ok (.idiv, 1) := by decide +kernel
theorem dL_law_1041 : decode cL_law 1041 = .ok (.iconst 1, 1) := by decide +kernel
theorem dL_law_1042 : decode cL_law 1042 = .ok (.iadd, 1) := by decide +kernel
theorem dL_law_1043 : decode cL_law 1043 = .ok (.goto 4, 3) := by decide +kernel
theorem dL_law_1046 : decode cL_law 1046 = .ok (.iconst 0, 1) := by decide +kernel
theorem dL_law_1047 : decode cL_law 1047 = .ok (.isub, 1) := by decide +kernel
theorem dL_law_1048 : decode cL_law 1048 = .ok (.iadd, 1) := by decide +kernel
theorem dL_law_1049 : decode cL_law 1049 = .ok (.istore 26, 2) := by decide +kernel
theorem dL_law_1051 : decode cL_law 1051 = .ok (.iload 27, 2) := by decide +kernel
theorem dL_law_1053 : decode cL_law 1053 = .ok (.aload_n 1, 1) := by decide +kernel
theorem dL_law_1054 : decode cL_law 1054 = .ok (.invokevirtual 134, 3) := by decide +kernel
theorem dL_law_1057 : decode cL_law 1057 = .ok (.ifCond .le 15, 3) := by decide +kernel
theorem dL_law_1060 : decode cL_law 1060 = .ok (.aload_n 1, 1) := by decide +kernel
theorem dL_law_1061 : decode cL_law 1061 = .ok (.invokevirtual 134, 3) := by decide +kernel
theorem dL_law_1064 : decode cL_law 1064 = .ok (.bipush 20, 2) := by decide +kernel
theorem dL_law_1066 : decode cL_law 1066 = .ok (.idiv, 1) := by decide +kernel
theorem dL_law_1067 : decode cL_law 1067 = .ok (.iconst 1, 1) := by decide +kernel
theorem dL_law_1068 : decode cL_law 1068 = .ok (.iadd, 1) := by decide +kernel
theorem dL_law_1069 : decode cL_law 1069 = .ok (.goto 4, 3) := by decide +kernel
theorem dL_law_1072 : decode cL_law 1072 = .ok (.iconst 0, 1) := by decide +kernel
theorem dL_law_1073 : decode cL_law 1073 = .ok (.isub, 1) := by decide +kernel
theorem dL_law_1074 : decode cL_law 1074 = .ok (.istore 27, 2) := by decide +kernel
theorem dL_law_1076 : decode cL_law 1076 = .ok (.aload_n 1, 1) := by decide +kernel
theorem dL_law_1077 : decode cL_law 1077 = .ok (.iconst 1, 1) := by decide +kernel
theorem dL_law_1078 : decode cL_law 1078 = .ok (.invokevirtual 58, 3) := by decide +kernel
theorem dL_law_1081 : decode cL_law 1081 = .ok (.istore 33, 2) := by decide +kernel
theorem dL_law_1083 : decode cL_law 1083 = .ok (.iload 33, 2) := by decide +kernel
theorem dL_law_1085 : decode cL_law 1085 = .ok (.aload_n 2, 1) := by decide +kernel
theorem dL_law_1086 : decode cL_law 1086 = .ok (.invokevirtual 173, 3) := by decide +kernel
theorem dL_law_1089 : decode cL_law 1089 = .ok (.if_icmp .eq 5, 3) := by decide +kernel
theorem dL_law_1092 : decode cL_law 1092 = .ok (.iconst 0, 1) := by decide +kernel
theorem dL_law_1093 : decode cL_law 1093 = .ok (.ireturn, 1) := by decide +kernel
theorem dL_law_1094 : decode cL_law 1094 = .ok (.iconst 0, 1) := by decide +kernel
theorem dL_law_1095 : decode cL_law 1095 = .ok (.istore 34, 2) := by decide +kernel
theorem dL_law_1097 : decode cL_law 1097 = .ok (.iload 34, 2) := by decide +kernel
theorem dL_law_1099 : decode cL_law 1099 = .ok (.iload 7, 2) := by decide +kernel
theorem dL_law_1101 : decode cL_law 1101 = .ok (.if_icmp .ge 209, 3) := by decide +kernel
theorem dL_law_1104 : decode cL_law 1104 = .ok (.aload_n 1, 1) := by decide +kernel
theorem dL_law_1105 : decode cL_law 1105 = .ok (.iload 34, 2) := by decide +kernel
theorem dL_law_1107 : decode cL_law 1107 = .ok (.invokevirtual 113, 3) := by decide +kernel
theorem dL_law_1110 : decode cL_law 1110 = .ok (.aload 29, 2) := by decide +kernel
theorem dL_law_1112 : decode cL_law 1112 = .ok (.iload 34, 2) := by decide +kernel
theorem dL_law_1114 : decode cL_law 1114 = .ok (.iaload, 1) := by decide +kernel
theorem dL_law_1115 : decode cL_law 1115 = .ok (.if_icmp .le 7, 3) := by decide +kernel
theorem dL_law_1118 : decode cL_law 1118 = .ok (.iconst 1, 1) := by decide +kernel
theorem dL_law_1119 : decode cL_law 1119 = .ok (.goto 4, 3) := by decide +kernel
theorem dL_law_1122 : decode cL_law 1122 = .ok (.iconst 0, 1) := by decide +kernel
theorem dL_law_1123 : decode cL_law 1123 = .ok (.istore 35, 2) := by decide +kernel
theorem dL_law_1125 : decode cL_law 1125 = .ok (.iload 33, 2) := by decide +kernel
theorem dL_law_1127 : decode cL_law 1127 = .ok (.iload 35, 2) := by decide +kernel
theorem dL_law_1129 : decode cL_law 1129 = .ok (.ifCond .eq 7, 3) := by decide +kernel
theorem dL_law_1132 : decode cL_law 1132 = .ok (.iconst 1, 1) := by decide +kernel
theorem dL_law_1133 : decode cL_law 1133 = .ok (.goto 4, 3) := by decide +kernel
theorem dL_law_1136 : decode cL_law 1136 = .ok (.iconst 0, 1) := by decide +kernel
theorem dL_law_1137 : decode cL_law 1137 = .ok (.isub, 1) := by decide +kernel
theorem dL_law_1138 : decode cL_law 1138 = .ok (.istore 33, 2) := by decide +kernel
theorem dL_law_1140 : decode cL_law 1140 = .ok (.iload 26, 2) := by decide +kernel
theorem dL_law_1142 : decode cL_law 1142 = .ok (.iload 35, 2) := by decide +kernel
theorem dL_law_1144 : decode cL_law 1144 = .ok (.ifCond .eq 11, 3) := by decide +kernel
theorem dL_law_1147 : decode cL_law 1147 = .ok (.aload 31, 2) := by decide +kernel
theorem dL_law_1149 : decode cL_law 1149 = .ok (.iload 34, 2) := by decide +kernel
theorem dL_law_1151 : decode cL_law 1151 = .ok (.iaload, 1) := by decide +kernel
theorem dL_law_1152 : decode cL_law 1152 = .ok (.goto 4, 3) := by decide +kernel
theorem dL_law_1155 : decode cL_law 1155 = .ok (.iconst 0, 1) := by decide +kernel
theorem dL_law_1156 : decode cL_law 1156 = .ok (.isub, 1) := by decide +kernel
theorem dL_law_1157 : decode cL_law 1157 = .ok (.istore 26, 2) := by decide +kernel
theorem dL_law_1159 : decode cL_law 1159 = .ok (.iload 27, 2) := by decide +kernel
theorem dL_law_1161 : decode cL_law 1161 = .ok (.iload 35, 2) := by decide +kernel
theorem dL_law_1163 : decode cL_law 1163 = .ok (.ifCond .eq 11, 3) := by decide +kernel
theorem dL_law_1166 : decode cL_law 1166 = .ok (.aload 32, 2) := by decide +kernel
theorem dL_law_1168 : decode cL_law 1168 = .ok (.iload 34, 2) := by decide +kernel
theorem dL_law_1170 : decode cL_law 1170 = .ok (.iaload, 1) := by decide +kernel
theorem dL_law_1171 : decode cL_law 1171 = .ok (.goto 4, 3) := by decide +kernel
theorem dL_law_1174 : decode cL_law 1174 = .ok (.iconst 0, 1) := by decide +kernel
theorem dL_law_1175 : decode cL_law 1175 = .ok (.iadd, 1) := by decide +kernel
theorem dL_law_1176 : decode cL_law 1176 = .ok (.istore 27, 2) := by decide +kernel
theorem dL_law_1178 : decode cL_law 1178 = .ok (.aload_n 1, 1) := by decide +kernel
theorem dL_law_1179 : decode cL_law 1179 = .ok (.iload 34, 2) := by decide +kernel
theorem dL_law_1181 : decode cL_law 1181 = .ok (.invokevirtual 113, 3) := by decide +kernel
theorem dL_law_1184 : decode cL_law 1184 = .ok (.aload 29, 2) := by decide +kernel
theorem dL_law_1186 : decode cL_law 1186 = .ok (.iload 34, 2) := by decide +kernel
theorem dL_law_1188 : decode cL_law 1188 = .ok (.iaload, 1) := by decide +kernel
theorem dL_law_1189 : decode cL_law 1189 = .ok (.iconst 1, 1) := by decide +kernel
theorem dL_law_1190 : decode cL_law 1190 = .ok (.iadd, 1) := by decide +kernel
theorem dL_law_1191 : decode cL_law 1191 = .ok (.if_icmp .gt 70, 3) := by decide +kernel
theorem dL_law_1194 : decode cL_law 1194 = .ok (.aload_n 1, 1) := by decide +kernel
theorem dL_law_1195 : decode cL_law 1195 = .ok (.iload 34, 2) := by decide +kernel
theorem dL_law_1197 : decode cL_law 1197 = .ok (.invokevirtual 110, 3) := by decide +kernel
theorem dL_law_1200 : decode cL_law 1200 = .ok (.iload 35, 2) := by decide +kernel
theorem dL_law_1202 : decode cL_law 1202 = .ok (.ifCond .eq 17, 3) := by decide +kernel
theorem dL_law_1205 : decode cL_law 1205 = .ok (.iconst 0, 1) := by decide +kernel
theorem dL_law_1206 : decode cL_law 1206 = .ok (.aload 30, 2) := by decide +kernel
theorem dL_law_1208 : decode cL_law 1208 = .ok (.iload 34, 2) := by decide +kernel
theorem dL_law_1210 : decode cL_law 1210 = .ok (.iaload, 1) := by decide +kernel
theorem dL_law_1211 : decode cL_law 1211 = .ok (.iconst 1, 1) := by decide +kernel
theorem dL_law_1212 : decode cL_law 1212 = .ok (.isub, 1) := by decide +kernel
theorem dL_law_1213 : decode cL_law 1213 = .ok (.invokestatic 175, 3) := by decide +kernel
theorem dL_law_1216 : decode cL_law 1216 = .ok (.goto 8, 3) := by decide +kernel
theorem dL_law_1219 : decode cL_law 1219 = .ok (.aload 30, 2) := by decide +kernel
theorem dL_law_1221 : decode cL_law 1221 = .ok (.iload 34, 2) := by decide +kernel
theorem dL_law_1223 : decode cL_law 1223 = .ok (.iaload, 1) := by decide +kernel
theorem dL_law_1224 : decode cL_law 1224 = .ok (.if_icmp .ne 37, 3) := by decide +kernel
theorem dL_law_1227 : decode cL_law 1227 = .ok (.iload 35, 2) := by decide +kernel
theorem dL_law_1229 : decode cL_law 1229 = .ok (.ifCond .eq 12, 3) := by decide +kernel
theorem dL_law_1232 : decode cL_law 1232 = .ok (.aload_n 1, 1) := by decide +kernel
theorem dL_law_1233 : decode cL_law 1233 = .ok (.iload 34, 2) := by decide +kernel
theorem dL_law_1235 : decode cL_law 1235 = .ok (.invokevirtual 107, 3) := by decide +kernel
theorem dL_law_1238 : decode cL_law 1238 = .ok (.ifCond .ne 23, 3) := by decide +kernel
theorem dL_law_1241 : decode cL_law 1241 = .ok (.aload_n 1, 1) := by decide +kernel
theorem dL_law_1242 : decode cL_law 1242 = .ok (.iload 34, 2) := by decide +kernel
theorem dL_law_1244 : decode cL_law 1244 = .ok (.invokevirtual 107, 3) := by decide +kernel
theorem dL_law_1247 : decode cL_law 1247 = .ok (.aload 28, 2) := by decide +kernel
theorem dL_law_1249 : decode cL_law 1249 = .ok (.iload 34, 2) := by decide +kernel
theorem dL_law_1251 : decode cL_law 1251 = .ok (.iaload, 1) := by decide +kernel
theorem dL_law_1252 : decode cL_law 1252 = .ok (.isub, 1) := by decide +kernel
theorem dL_law_1253 : decode cL_law 1253 = .ok (.invokestatic 178, 3) := by decide +kernel
theorem dL_law_1256 : decode cL_law 1256 = .ok (.bipush 10, 2) := by decide +kernel
theorem dL_law_1258 : decode cL_law 1258 = .ok (.if_icmp .le 5, 3) := by decide +kernel
theorem dL_law_1261 : decode cL_law 1261 = .ok (.iconst 0, 1) := by decide +kernel
theorem dL_law_1262 : decode cL_law 1262 = .ok (.ireturn, 1) := by decide +kernel
theorem dL_law_1263 : decode cL_law 1263 = .ok (.iload 35, 2) := by decide +kernel
theorem dL_law_1265 : decode cL_law 1265 = .ok (.ifCond .eq 24, 3) := by decide +kernel
theorem dL_law_1268 : decode cL_law 1268 = .ok (.iload 24, 2) := by decide +kernel
theorem dL_law_1270 : decode cL_law 1270 = .ok (.ifCond .eq 19, 3) := by decide +kernel
theorem dL_law_1273 : decode cL_law 1273 = .ok (.iload 34, 2) := by decide +kernel
theorem dL_law_1275 : decode cL_law 1275 = .ok (.iload 19, 2) := by decide +kernel
theorem dL_law_1277 : decode cL_law 1277 = .ok (.if_icmp .ne 10, 3) := by decide +kernel
theorem dL_law_1280 : decode cL_law 1280 = .ok (.iload 25, 2) := by decide +kernel
theorem dL_law_1282 : decode cL_law 1282 = .ok (.iload 22, 2) := by decide +kernel
theorem dL_law_1284 : decode cL_law 1284 = .ok (.if_icmp .eq 5, 3) := by decide +kernel
theorem dL_law_1287 : decode cL_law 1287 = .ok (.iconst 0, 1) := by decide +kernel
theorem dL_law_1288 : decode cL_law 1288 = .ok (.ireturn, 1) := by decide +kernel
theorem dL_law_1289 : decode cL_law 1289 = .ok (.iload 24, 2) := by decide +kernel
theorem dL_law_1291 : decode cL_law 1291 = .ok (.iload 35, 2) := by decide +kernel
theorem dL_law_1293 : decode cL_law 1293 = .ok (.ifCond .ne 7, 3) := by decide +kernel
theorem dL_law_1296 : decode cL_law 1296 = .ok (.iconst 1, 1) := by decide +kernel
theorem dL_law_1297 : decode cL_law 1297 = .ok (.goto 4, 3) := by decide +kernel
theorem dL_law_1300 : decode cL_law 1300 = .ok (.iconst 0, 1) := by decide +kernel
theorem dL_law_1301 : decode cL_law 1301 = .ok (.iand, 1) := by decide +kernel
theorem dL_law_1302 : decode cL_law 1302 = .ok (.istore 24, 2) := by decide +kernel
theorem dL_law_1304 : decode cL_law 1304 = .ok (.iinc 34 1, 3) := by decide +kernel
theorem dL_law_1307 : decode cL_law 1307 = .ok (.goto (-210), 3) := by decide +kernel
theorem dL_law_1310 : decode cL_law 1310 = .ok (.iload 33, 2) := by decide +kernel
theorem dL_law_1312 : decode cL_law 1312 = .ok (.ifCond .ne 21, 3) := by decide +kernel
theorem dL_law_1315 : decode cL_law 1315 = .ok (.aload_n 1, 1) := by decide +kernel
theorem dL_law_1316 : decode cL_law 1316 = .ok (.invokevirtual 154, 3) := by decide +kernel
theorem dL_law_1319 : decode cL_law 1319 = .ok (.iload 26, 2) := by decide +kernel
theorem dL_law_1321 : decode cL_law 1321 = .ok (.if_icmp .ne 12, 3) := by decide +kernel
theorem dL_law_1324 : decode cL_law 1324 = .ok (.aload_n 1, 1) := by decide +kernel
theorem dL_law_1325 : decode cL_law 1325 = .ok (.invokevirtual 168, 3) := by decide +kernel
theorem dL_law_1328 : decode cL_law 1328 = .ok (.iload 27, 2) := by decide +kernel
theorem dL_law_1330 : decode cL_law 1330 = .ok (.if_icmp .eq 5, 3) := by decide +kernel
theorem dL_law_1333 : decode cL_law 1333 = .ok (.iconst 0, 1) := by decide +kernel
theorem dL_law_1334 : decode cL_law 1334 = .ok (.ireturn, 1) := by decide +kernel
theorem dL_law_1335 : decode cL_law 1335 = .ok (.iload 20, 2) := by decide +kernel
theorem dL_law_1337 : decode cL_law 1337 = .ok (.ifCond .lt 48, 3) := by decide +kernel
theorem dL_law_1340 : decode cL_law 1340 = .ok (.iload 23, 2) := by decide +kernel
theorem dL_law_1342 : decode cL_law 1342 = .ok (.ifCond .ne 43, 3) := by decide +kernel
theorem dL_law_1345 : decode cL_law 1345 = .ok (.aload_n 1, 1) := by decide +kernel
theorem dL_law_1346 : decode cL_law 1346 = .ok (.iload 20, 2) := by decide +kernel
theorem dL_law_1348 : decode cL_law 1348 = .ok (.invokevirtual 113, 3) := by decide +kernel
theorem dL_law_1351 : decode cL_law 1351 = .ok (.aload 29, 2) := by decide +kernel
theorem dL_law_1353 : decode cL_law 1353 = .ok (.iload 20, 2) := by decide +kernel
theorem dL_law_1355 : decode cL_law 1355 = .ok (.iaload, 1) := by decide +kernel
theorem dL_law_1356 : decode cL_law 1356 = .ok (.if_icmp .le 7, 3) := by decide +kernel
theorem dL_law_1359 : decode cL_law 1359 = .ok (.iconst 1, 1) := by decide +kernel
theorem dL_law_1360 : decode cL_law 1360 = .ok (.goto 4, 3) := by decide +kernel
theorem dL_law_1363 : decode cL_law 1363 = .ok (.iconst 0, 1) := by decide +kernel
theorem dL_law_1364 : decode cL_law 1364 = .ok (.istore 23, 2) := by decide +kernel
theorem dL_law_1366 : decode cL_law 1366 = .ok (.iload 23, 2) := by decide +kernel
theorem dL_law_1368 : decode cL_law 1368 = .ok (.iload 21, 2) := by decide +kernel
theorem dL_law_1370 : decode cL_law 1370 = .ok (.iload 25, 2) := by decide +kernel
theorem dL_law_1372 : decode cL_law 1372 = .ok (.if_icmp .ne 7, 3) := by decide +kernel
theorem dL_law_1375 : decode cL_law 1375 = .ok (.iconst 1, 1) := by decide +kernel
theorem dL_law_1376 : decode cL_law 1376 = .ok (.goto 4, 3) := by decide +kernel
theorem dL_law_1379 : decode cL_law 1379 = .ok (.iconst 0, 1) := by decide +kernel
theorem dL_law_1380 : decode cL_law 1380 = .ok (.if_icmp .eq 5, 3) := by decide +kernel
theorem dL_law_1383 : decode cL_law 1383 = .ok (.iconst 0, 1) := by decide +kernel
theorem dL_law_1384 : decode cL_law 1384 = .ok (.ireturn, 1) := by decide +kernel
theorem dL_law_1385 : decode cL_law 1385 = .ok (.iload 18, 2) := by decide +kernel
theorem dL_law_1387 : decode cL_law 1387 = .ok (.ifCond .le 37, 3) := by decide +kernel
theorem dL_law_1390 : decode cL_law 1390 = .ok (.iload 25, 2) := by decide +kernel
theorem dL_law_1392 : decode cL_law 1392 = .ok (.iload 18, 2) := by decide +kernel
theorem dL_law_1394 : decode cL_law 1394 = .ok (.if_icmp .gt 30, 3) := by decide +kernel
theorem dL_law_1397 : decode cL_law 1397 = .ok (.aload_n 1, 1) := by decide +kernel
theorem dL_law_1398 : decode cL_law 1398 = .ok (.invokevirtual 154, 3) := by decide +kernel
theorem dL_law_1401 : decode cL_law 1401 = .ok (.ifCond .ge 7, 3) := by decide +kernel
theorem dL_law_1404 : decode cL_law 1404 = .ok (.iconst 1, 1) := by decide +kernel
theorem dL_law_1405 : decode cL_law 1405 = .ok (.goto 4, 3) := by decide +kernel
theorem dL_law_1408 : decode cL_law 1408 = .ok (.iconst 0, 1) := by decide +kernel
theorem dL_law_1409 : decode cL_law 1409 = .ok (.iload 25, 2) := by decide +kernel
theorem dL_law_1411 : decode cL_law 1411 = .ok (.iload 18, 2) := by decide +kernel
theorem dL_law_1413 : decode cL_law 1413 = .ok (.if_icmp .ne 7, 3) := by decide +kernel
theorem dL_law_1416 : decode cL_law 1416 = .ok (.iconst 1, 1) := by decide +kernel
theorem dL_law_1417 : decode cL_law 1417 = .ok (.goto 4, 3) := by decide +kernel
theorem dL_law_1420 : decode cL_law 1420 = .ok (.iconst 0, 1) := by decide +kernel
theorem dL_law_1421 : decode cL_law 1421 = .ok (.if_icmp .ne 15, 3) := by decide +kernel
theorem dL_law_1424 : decode cL_law 1424 = .ok (.iload 18, 2) := by decide +kernel
theorem dL_law_1426 : decode cL_law 1426 = .ok (.ifCond .ge 12, 3) := by decide +kernel
theorem dL_law_1429 : decode cL_law 1429 = .ok (.aload_n 1, 1) := by decide +kernel
theorem dL_law_1430 : decode cL_law 1430 = .ok (.invokevirtual 154, 3) := by decide +kernel
theorem dL_law_1433 : decode cL_law 1433 = .ok (.ifCond .ge 5, 3) := by decide +kernel
theorem dL_law_1436 : decode cL_law 1436 = .ok (.iconst 0, 1) := by decide +kernel
theorem dL_law_1437 : decode cL_law 1437 = .ok (.ireturn, 1) := by decide +kernel
theorem dL_law_1438 : decode cL_law 1438 = .ok (.iinc 25 1, 3) := by decide +kernel
theorem dL_law_1441 : decode cL_law 1441 = .ok (.goto (-555), 3) := by decide +kernel
theorem dL_law_1444 : decode cL_law 1444 = .ok (.aload_n 1, 1) := by decide +kernel
theorem dL_law_1445 : decode cL_law 1445 = .ok (.invokevirtual 154, 3) := by decide +kernel
theorem dL_law_1448 : decode cL_law 1448 = .ok (.iload 17, 2) := by decide +kernel
theorem dL_law_1450 : decode cL_law 1450 = .ok (.if_icmp .eq 5, 3) := by decide +kernel
theorem dL_law_1453 : decode cL_law 1453 = .ok (.iconst 0, 1) := by decide +kernel
theorem dL_law_1454 : decode cL_law 1454 = .ok (.ireturn, 1) := by decide +kernel
theorem dL_law_1455 : decode cL_law 1455 = .ok (.iinc 3 1, 3) := by decide +kernel
theorem dL_law_1458 : decode cL_law 1458 = .ok (.goto (-1436), 3) := by decide +kernel
theorem dL_law_1461 : decode cL_law 1461 = .ok (.aload_n 2, 1) := by decide +kernel
theorem dL_law_1462 : decode cL_law 1462 = .ok (.aload_n 1, 1) := by decide +kernel
theorem dL_law_1463 : decode cL_law 1463 = .ok (.invokevirtual 181, 3) := by decide +kernel
theorem dL_law_1466 : decode cL_law 1466 = .ok (.ireturn, 1) := by decide +kernel
